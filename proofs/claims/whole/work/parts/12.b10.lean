def tX12_edgeHas_0 (G : zG) (d : Nat) (K : Bool → zH → Prop) (l1 : Int) (l2 : Int) (l3 : Int) (h : zH) : Prop := zTb G (d + 1) mX12_edgeHas K 0 [some (vr 12 466), some (vi l1), some (vi l2), some (vi l3)] [] h
theorem bX12_edgeHas_0 {G : zG} {d : Nat} {K : Bool → zH → Prop} {l1 : Int} {l2 : Int} {l3 : Int} {h : zH} (k : zR l3 ∧ (64 ≤ l3 → ((0 : Int) ≤ ((l1 * 160) + l2) ∧ ((l1 * 160) + l2) < 2240) ∧ zCb G d mX12_bit [vl (h 504 ((l1 * 160) + l2)), vi (l3 - 64)] h (fun x1 h2 => K x1 h2)) ∧ (¬ 64 ≤ l3 → ((0 : Int) ≤ ((l1 * 160) + l2) ∧ ((l1 * 160) + l2) < 2240) ∧ zCb G d mX12_bit [vl (h 503 ((l1 * 160) + l2)), vi l3] h (fun x3 h4 => K x3 h4))) : tX12_edgeHas_0 G d K l1 l2 l3 h := by
  unfold tX12_edgeHas_0
  refine z_iload_n 3 dX12_edgeHas_0 rfl rfl rfl ?_
  refine z_bipush dX12_edgeHas_1 rfl rfl ?_
  obtain ⟨r1, ka, kb⟩ := k
  refine z_icmp_ge (tgt := 25) dX12_edgeHas_3 rfl r1 ⟨by decide, by decide⟩ rfl ⟨fun q => ?_, fun q => ?_⟩
  · have k := ka q
    refine z_aload_n 0 dX12_edgeHas_25 rfl rfl (Nat.le_of_ble_eq_true rfl) rfl ?_
    refine z_getF 12 14 (x := 504) fX12_127 rfl dX12_edgeHas_26 rfl rfl ?_
    refine z_iload_n 1 dX12_edgeHas_29 rfl rfl rfl ?_
    refine z_sipush dX12_edgeHas_30 rfl rfl ?_
    refine z_imul dX12_edgeHas_33 rfl ?_
    refine z_iload_n 2 dX12_edgeHas_34 rfl rfl rfl ?_
    refine z_iadd dX12_edgeHas_35 rfl ?_
    obtain ⟨i9, k⟩ := k
    refine z_lald (x := (h 504 ((l1 * 160) + l2))) dX12_edgeHas_36 (by rw [zl_504]; exact i9) rfl rfl ?_
    refine z_iload_n 3 dX12_edgeHas_37 rfl rfl rfl ?_
    refine z_bipush dX12_edgeHas_38 rfl rfl ?_
    refine z_isub dX12_edgeHas_40 rfl ?_
    refine z_callSb sX12_bit kX12_366 dX12_edgeHas_41 rfl (zRo_d d) (as := [vl (h 504 ((l1 * 160) + l2)), vi (l3 - 64)]) (rest := []) (Nat.le_of_ble_eq_true rfl) rfl rfl (zCb_mono (fun x1 h2 k => ?_) k)
    exact z_zreturn rfl (bi_01 _) dX12_edgeHas_44 ⟨_, rfl, k⟩
  · have k := kb q
    refine z_aload_n 0 dX12_edgeHas_6 rfl rfl (Nat.le_of_ble_eq_true rfl) rfl ?_
    refine z_getF 12 14 (x := 503) fX12_124 rfl dX12_edgeHas_7 rfl rfl ?_
    refine z_iload_n 1 dX12_edgeHas_10 rfl rfl rfl ?_
    refine z_sipush dX12_edgeHas_11 rfl rfl ?_
    refine z_imul dX12_edgeHas_14 rfl ?_
    refine z_iload_n 2 dX12_edgeHas_15 rfl rfl rfl ?_
    refine z_iadd dX12_edgeHas_16 rfl ?_
    obtain ⟨i9, k⟩ := k
    refine z_lald (x := (h 503 ((l1 * 160) + l2))) dX12_edgeHas_17 (by rw [zl_503]; exact i9) rfl rfl ?_
    refine z_iload_n 3 dX12_edgeHas_18 rfl rfl rfl ?_
    refine z_callSb sX12_bit kX12_366 dX12_edgeHas_19 rfl (zRo_d d) (as := [vl (h 503 ((l1 * 160) + l2)), vi l3]) (rest := []) (Nat.le_of_ble_eq_true rfl) rfl rfl (zCb_mono (fun x3 h4 k => ?_) k)
    refine z_goto (tgt := 44) dX12_edgeHas_22 rfl ?_
    exact z_zreturn rfl (bi_01 _) dX12_edgeHas_44 ⟨_, rfl, k⟩
theorem eX12_edgeHas {G : zG} {d : Nat} {K : Bool → zH → Prop} {l1 : Int} {l2 : Int} {l3 : Int} {h : zH} (k : tX12_edgeHas_0 G d K l1 l2 l3 h) : zCb G (d + 1) mX12_edgeHas [vr 12 466, vi l1, vi l2, vi l3] h K := z_entry (by decide +kernel) (Nat.le_of_ble_eq_true rfl) rfl k
def tX12_freed_0 (G : zG) (d : Nat) (K : Int → zH → Prop) (l1 : Int) (l2 : Int) (h : zH) : Prop := zTl G (d + 1) mX12_freed K 0 [some (vr 12 466), some (vi l1), some (vl l2), none, none, none, none, none, none, none] [] h
def tX12_freed_6 (G : zG) (d : Nat) (K : Int → zH → Prop) (l1 : Int) (l4 : Int) (l6 : Int) (h : zH) : Prop := zTl G (d + 1) mX12_freed K 6 [some (vr 12 466), some (vi l1), none, none, some (vl l4), none, some (vi l6), none, none, none] [] h
def tX12_freed_21 (G : zG) (d : Nat) (K : Int → zH → Prop) (l1 : Int) (l4 : Int) (l7 : Int) (l9 : Int) (h : zH) : Prop := zTl G (d + 1) mX12_freed K 21 [some (vr 12 466), some (vi l1), none, none, some (vl l4), none, none, some (vl l7), none, some (vi l9)] [] h
theorem bX12_freed_0 {G : zG} {d : Nat} {K : Int → zH → Prop} {l1 : Int} {l2 : Int} {h : zH} (k : tX12_freed_6 G d K l1 l2 1 h) : tX12_freed_0 G d K l1 l2 h := by
  unfold tX12_freed_0
  refine z_lload_n 2 dX12_freed_0 rfl rfl rfl ?_
  refine z_lstore dX12_freed_1 (Nat.le_of_ble_eq_true rfl) (L' := [some (vr 12 466), some (vi l1), some (vl l2), none, some (vl l2), none, none, none, none, none]) rfl rfl ?_
  refine z_iconst dX12_freed_3 rfl ?_
  refine z_istore dX12_freed_4 (Nat.le_of_ble_eq_true rfl) (L' := [some (vr 12 466), some (vi l1), some (vl l2), none, some (vl l2), none, some (vi 1), none, none, none]) rfl rfl ?_
  exact z_sub (L' := [some (vr 12 466), some (vi l1), none, none, some (vl l2), none, some (vi 1), none, none, none]) (And.intro rfl (And.intro rfl (And.intro rfl (And.intro rfl trivial)))) k
theorem bX12_freed_6 {G : zG} {d : Nat} {K : Int → zH → Prop} {l1 : Int} {l4 : Int} {l6 : Int} {h : zH} (k : zR l6 ∧ (l6 = 0 → K l4 h) ∧ (¬ l6 = 0 → tX12_freed_21 G d K l1 l4 l4 (l1 * 64) h)) : tX12_freed_6 G d K l1 l4 l6 h := by
  unfold tX12_freed_6
  refine z_iload dX12_freed_6 rfl rfl ?_
  obtain ⟨r1, ka, kb⟩ := k
  refine z_if_eq (tgt := 90) dX12_freed_8 rfl r1 rfl ⟨fun q => ?_, fun q => ?_⟩
  · have k := ka q
    refine z_lload dX12_freed_90 rfl rfl ?_
    exact z_lreturn rfl dX12_freed_92 ⟨_, rfl, k⟩
  · have k := kb q
    refine z_lload dX12_freed_11 rfl rfl ?_
    refine z_lstore dX12_freed_13 (Nat.le_of_ble_eq_true rfl) (L' := [some (vr 12 466), some (vi l1), none, none, some (vl l4), none, some (vi l6), some (vl l4), none, none]) rfl rfl ?_
    refine z_iload_n 1 dX12_freed_15 rfl rfl rfl ?_
    refine z_bipush dX12_freed_16 rfl rfl ?_
    refine z_imul dX12_freed_18 rfl ?_
    refine z_istore dX12_freed_19 (Nat.le_of_ble_eq_true rfl) (L' := [some (vr 12 466), some (vi l1), none, none, some (vl l4), none, some (vi l6), some (vl l4), none, some (vi (l1 * 64))]) rfl rfl ?_
    exact z_sub (L' := [some (vr 12 466), some (vi l1), none, none, some (vl l4), none, none, some (vl l4), none, some (vi (l1 * 64))]) (And.intro rfl (And.intro rfl (And.intro rfl (And.intro rfl (And.intro rfl trivial))))) k
theorem bX12_freed_21 {G : zG} {d : Nat} {K : Int → zH → Prop} {l1 : Int} {l4 : Int} {l7 : Int} {l9 : Int} {h : zH} (k : ((0 : Int) ≤ l1 ∧ l1 < 14) ∧ zR l9 ∧ zR ((l1 * 64) + (h 495 l1)) ∧ (((l1 * 64) + (h 495 l1)) ≤ l9 → ((zcmp l7 l4) = 0 → tX12_freed_6 G d K l1 l4 0 h) ∧ (¬ (zcmp l7 l4) = 0 → tX12_freed_6 G d K l1 l4 1 h)) ∧ (¬ ((l1 * 64) + (h 495 l1)) ≤ l9 → ((0 : Int) ≤ l9 ∧ l9 < 896) ∧ zCb G d mX12_bit [vl l4, vi (h 500 l9)] h (fun x1 h2 => (x1 = false → tX12_freed_21 G d K l1 l4 l7 (l9 + 1) h2) ∧ (x1 = true → ((0 : Int) ≤ l9 ∧ l9 < 896) ∧ tX12_freed_21 G d K l1 (zlor l4 (zlshl 1 (h2 501 l9))) l7 (l9 + 1) h2)))) : tX12_freed_21 G d K l1 l4 l7 l9 h := by
  unfold tX12_freed_21
  refine z_iload dX12_freed_21 rfl rfl ?_
  refine z_iload_n 1 dX12_freed_23 rfl rfl rfl ?_
  refine z_bipush dX12_freed_24 rfl rfl ?_
  refine z_imul dX12_freed_26 rfl ?_
  refine z_aload_n 0 dX12_freed_27 rfl rfl (Nat.le_of_ble_eq_true rfl) rfl ?_
  refine z_getF 12 13 (x := 495) fX12_100 rfl dX12_freed_28 rfl rfl ?_
  refine z_iload_n 1 dX12_freed_31 rfl rfl rfl ?_
  obtain ⟨i9, k⟩ := k
  refine z_iald (x := (h 495 l1)) dX12_freed_32 (by rw [zl_495]; exact i9) rfl rfl ?_
  refine z_iadd dX12_freed_33 rfl ?_
  obtain ⟨r1, r2, ka, kb⟩ := k
  refine z_icmp_ge (tgt := 72) dX12_freed_34 rfl r1 r2 rfl ⟨fun q => ?_, fun q => ?_⟩
  · have k := ka q
    refine z_lload dX12_freed_72 rfl rfl ?_
    refine z_lload dX12_freed_74 rfl rfl ?_
    refine z_lcmp dX12_freed_76 rfl ?_
    obtain ⟨ka, kb⟩ := k
    refine z_if_eq (tgt := 84) dX12_freed_77 rfl (zcmp_R _ _) rfl ⟨fun q => ?_, fun q => ?_⟩
    · have k := ka q
      refine z_iconst dX12_freed_84 rfl ?_
      refine z_istore dX12_freed_85 (Nat.le_of_ble_eq_true rfl) (L' := [some (vr 12 466), some (vi l1), none, none, some (vl l4), none, some (vi 0), some (vl l7), none, some (vi l9)]) rfl rfl ?_
      refine z_goto (tgt := 6) dX12_freed_87 rfl ?_
      exact z_sub (L' := [some (vr 12 466), some (vi l1), none, none, some (vl l4), none, some (vi 0), none, none, none]) (And.intro rfl (And.intro rfl (And.intro rfl (And.intro rfl trivial)))) k
    · have k := kb q
      refine z_iconst dX12_freed_80 rfl ?_
      refine z_goto (tgt := 85) dX12_freed_81 rfl ?_
      refine z_istore dX12_freed_85 (Nat.le_of_ble_eq_true rfl) (L' := [some (vr 12 466), some (vi l1), none, none, some (vl l4), none, some (vi 1), some (vl l7), none, some (vi l9)]) rfl rfl ?_
      refine z_goto (tgt := 6) dX12_freed_87 rfl ?_
      exact z_sub (L' := [some (vr 12 466), some (vi l1), none, none, some (vl l4), none, some (vi 1), none, none, none]) (And.intro rfl (And.intro rfl (And.intro rfl (And.intro rfl trivial)))) k
  · have k := kb q
    refine z_lload dX12_freed_37 rfl rfl ?_
    refine z_aload_n 0 dX12_freed_39 rfl rfl (Nat.le_of_ble_eq_true rfl) rfl ?_
    refine z_getF 12 13 (x := 500) fX12_115 rfl dX12_freed_40 rfl rfl ?_
    refine z_iload dX12_freed_43 rfl rfl ?_
    obtain ⟨i9, k⟩ := k
    refine z_iald (x := (h 500 l9)) dX12_freed_45 (by rw [zl_500]; exact i9) rfl rfl ?_
    refine z_callSb sX12_bit kX12_366 dX12_freed_46 rfl (zRo_d d) (as := [vl l4, vi (h 500 l9)]) (rest := []) (Nat.le_of_ble_eq_true rfl) rfl rfl (zCb_mono (fun x1 h2 k => ?_) k)
    obtain ⟨ka, kb⟩ := k
    refine z_ifb_eq (tgt := 66) dX12_freed_49 rfl rfl ⟨fun q => ?_, fun q => ?_⟩
    · have k := ka q
      refine z_iinc dX12_freed_66 rfl (Nat.le_of_ble_eq_true rfl) (L' := [some (vr 12 466), some (vi l1), none, none, some (vl l4), none, none, some (vl l7), none, some (vi (l9 + 1))]) rfl rfl ?_
      refine z_goto (tgt := 21) dX12_freed_69 rfl ?_
      exact z_sub (L' := [some (vr 12 466), some (vi l1), none, none, some (vl l4), none, none, some (vl l7), none, some (vi (l9 + 1))]) (And.intro rfl (And.intro rfl (And.intro rfl (And.intro rfl (And.intro rfl trivial))))) k
    · have k := kb q
      refine z_lload dX12_freed_52 rfl rfl ?_
      refine z_lconst (x := 1) dX12_freed_54 rfl rfl ?_
      refine z_aload_n 0 dX12_freed_55 rfl rfl (Nat.le_of_ble_eq_true rfl) rfl ?_
      refine z_getF 12 13 (x := 501) fX12_118 rfl dX12_freed_56 rfl rfl ?_
      refine z_iload dX12_freed_59 rfl rfl ?_
      obtain ⟨i9, k⟩ := k
      refine z_iald (x := (h2 501 l9)) dX12_freed_61 (by rw [zl_501]; exact i9) rfl rfl ?_
      refine z_lshl dX12_freed_62 rfl ?_
      refine z_lor dX12_freed_63 rfl ?_
      refine z_lstore dX12_freed_64 (Nat.le_of_ble_eq_true rfl) (L' := [some (vr 12 466), some (vi l1), none, none, some (vl (zlor l4 (zlshl 1 (h2 501 l9)))), none, none, some (vl l7), none, some (vi l9)]) rfl rfl ?_
      refine z_iinc dX12_freed_66 rfl (Nat.le_of_ble_eq_true rfl) (L' := [some (vr 12 466), some (vi l1), none, none, some (vl (zlor l4 (zlshl 1 (h2 501 l9)))), none, none, some (vl l7), none, some (vi (l9 + 1))]) rfl rfl ?_
      refine z_goto (tgt := 21) dX12_freed_69 rfl ?_
      exact z_sub (L' := [some (vr 12 466), some (vi l1), none, none, some (vl (zlor l4 (zlshl 1 (h2 501 l9)))), none, none, some (vl l7), none, some (vi (l9 + 1))]) (And.intro rfl (And.intro rfl (And.intro rfl (And.intro rfl (And.intro rfl trivial))))) k
theorem eX12_freed {G : zG} {d : Nat} {K : Int → zH → Prop} {l1 : Int} {l2 : Int} {h : zH} (k : tX12_freed_0 G d K l1 l2 h) : zCl G (d + 1) mX12_freed [vr 12 466, vi l1, vl l2] h K := z_entry (by decide +kernel) (Nat.le_of_ble_eq_true rfl) rfl k
def tX12_stepped_0 (G : zG) (d : Nat) (K : Int → zH → Prop) (l1 : Int) (l2 : Int) (l4 : Int) (h : zH) : Prop := zTl G (d + 1) mX12_stepped K 0 [some (vr 12 466), some (vi l1), some (vl l2), none, some (vi l4), none, none, none] [] h
def tX12_stepped_6 (G : zG) (d : Nat) (K : Int → zH → Prop) (l1 : Int) (l2 : Int) (l4 : Int) (l5 : Int) (l7 : Int) (h : zH) : Prop := zTl G (d + 1) mX12_stepped K 6 [some (vr 12 466), some (vi l1), some (vl l2), none, some (vi l4), some (vl l5), none, some (vi l7)] [] h
theorem bX12_stepped_0 {G : zG} {d : Nat} {K : Int → zH → Prop} {l1 : Int} {l2 : Int} {l4 : Int} {h : zH} (k : tX12_stepped_6 G d K l1 l2 l4 0 0 h) : tX12_stepped_0 G d K l1 l2 l4 h := by
  unfold tX12_stepped_0
  refine z_lconst (x := 0) dX12_stepped_0 rfl rfl ?_
  refine z_lstore dX12_stepped_1 (Nat.le_of_ble_eq_true rfl) (L' := [some (vr 12 466), some (vi l1), some (vl l2), none, some (vi l4), some (vl 0), none, none]) rfl rfl ?_
  refine z_iconst dX12_stepped_3 rfl ?_
  refine z_istore dX12_stepped_4 (Nat.le_of_ble_eq_true rfl) (L' := [some (vr 12 466), some (vi l1), some (vl l2), none, some (vi l4), some (vl 0), none, some (vi 0)]) rfl rfl ?_
  exact z_sub (L' := [some (vr 12 466), some (vi l1), some (vl l2), none, some (vi l4), some (vl 0), none, some (vi 0)]) (And.intro rfl (And.intro rfl (And.intro rfl (And.intro rfl (And.intro rfl (And.intro rfl trivial)))))) k
theorem bX12_stepped_6 {G : zG} {d : Nat} {K : Int → zH → Prop} {l1 : Int} {l2 : Int} {l4 : Int} {l5 : Int} {l7 : Int} {h : zH} (k : ((0 : Int) ≤ l1 ∧ l1 < 14) ∧ zR l7 ∧ zR (h 494 l1) ∧ ((h 494 l1) ≤ l7 → zCl G d mX12_freed [vr 12 466, vi l1, vl l5] h (fun x1 h2 => K x1 h2)) ∧ (¬ (h 494 l1) ≤ l7 → ((0 : Int) ≤ ((l1 * 160) + l7) ∧ ((l1 * 160) + l7) < 2240) ∧ zCb G d mX12_bit [vl l2, vi (h 498 ((l1 * 160) + l7))] h (fun x3 h4 => (x3 = false → tX12_stepped_6 G d K l1 l2 l4 l5 (l7 + 1) h4) ∧ (x3 = true → zCb G d mX12_edgeHas [vr 12 466, vi l1, vi l7, vi l4] h4 (fun x5 h6 => (x5 = false → tX12_stepped_6 G d K l1 l2 l4 l5 (l7 + 1) h6) ∧ (x5 = true → ((0 : Int) ≤ ((l1 * 160) + l7) ∧ ((l1 * 160) + l7) < 2240) ∧ tX12_stepped_6 G d K l1 l2 l4 (zlor l5 (zlshl 1 (h6 499 ((l1 * 160) + l7)))) (l7 + 1) h6)))))) : tX12_stepped_6 G d K l1 l2 l4 l5 l7 h := by
  unfold tX12_stepped_6
  refine z_iload dX12_stepped_6 rfl rfl ?_
  refine z_aload_n 0 dX12_stepped_8 rfl rfl (Nat.le_of_ble_eq_true rfl) rfl ?_
  refine z_getF 12 13 (x := 494) fX12_97 rfl dX12_stepped_9 rfl rfl ?_
  refine z_iload_n 1 dX12_stepped_12 rfl rfl rfl ?_
  obtain ⟨i9, k⟩ := k
  refine z_iald (x := (h 494 l1)) dX12_stepped_13 (by rw [zl_494]; exact i9) rfl rfl ?_
  obtain ⟨r1, r2, ka, kb⟩ := k
  refine z_icmp_ge (tgt := 75) dX12_stepped_14 rfl r1 r2 rfl ⟨fun q => ?_, fun q => ?_⟩
  · have k := ka q
    refine z_aload_n 0 dX12_stepped_75 rfl rfl (Nat.le_of_ble_eq_true rfl) rfl ?_
    refine z_iload_n 1 dX12_stepped_76 rfl rfl rfl ?_
    refine z_lload dX12_stepped_77 rfl rfl ?_
    refine z_callVl vX12_freed kX12_530 dX12_stepped_79 rfl (zRo_d d) (as := [vi l1, vl l5]) (rest := []) (Nat.le_of_ble_eq_true rfl) rfl rfl (zCl_mono (fun x1 h2 k => ?_) k)
    exact z_lreturn rfl dX12_stepped_82 ⟨_, rfl, k⟩
  · have k := kb q
    refine z_lload_n 2 dX12_stepped_17 rfl rfl rfl ?_
    refine z_aload_n 0 dX12_stepped_18 rfl rfl (Nat.le_of_ble_eq_true rfl) rfl ?_
    refine z_getF 12 13 (x := 498) fX12_109 rfl dX12_stepped_19 rfl rfl ?_
    refine z_iload_n 1 dX12_stepped_22 rfl rfl rfl ?_
    refine z_sipush dX12_stepped_23 rfl rfl ?_
    refine z_imul dX12_stepped_26 rfl ?_
    refine z_iload dX12_stepped_27 rfl rfl ?_
    refine z_iadd dX12_stepped_29 rfl ?_
    obtain ⟨i9, k⟩ := k
    refine z_iald (x := (h 498 ((l1 * 160) + l7))) dX12_stepped_30 (by rw [zl_498]; exact i9) rfl rfl ?_
    refine z_callSb sX12_bit kX12_366 dX12_stepped_31 rfl (zRo_d d) (as := [vl l2, vi (h 498 ((l1 * 160) + l7))]) (rest := []) (Nat.le_of_ble_eq_true rfl) rfl rfl (zCb_mono (fun x3 h4 k => ?_) k)
    obtain ⟨ka, kb⟩ := k
    refine z_ifb_eq (tgt := 69) dX12_stepped_34 rfl rfl ⟨fun q => ?_, fun q => ?_⟩
    · have k := ka q
      refine z_iinc dX12_stepped_69 rfl (Nat.le_of_ble_eq_true rfl) (L' := [some (vr 12 466), some (vi l1), some (vl l2), none, some (vi l4), some (vl l5), none, some (vi (l7 + 1))]) rfl rfl ?_
      refine z_goto (tgt := 6) dX12_stepped_72 rfl ?_
      exact z_sub (L' := [some (vr 12 466), some (vi l1), some (vl l2), none, some (vi l4), some (vl l5), none, some (vi (l7 + 1))]) (And.intro rfl (And.intro rfl (And.intro rfl (And.intro rfl (And.intro rfl (And.intro rfl trivial)))))) k
    · have k := kb q
      refine z_aload_n 0 dX12_stepped_37 rfl rfl (Nat.le_of_ble_eq_true rfl) rfl ?_
      refine z_iload_n 1 dX12_stepped_38 rfl rfl rfl ?_
      refine z_iload dX12_stepped_39 rfl rfl ?_
      refine z_iload dX12_stepped_41 rfl rfl ?_
      refine z_callVb vX12_edgeHas kX12_527 dX12_stepped_43 rfl (zRo_d d) (as := [vi l1, vi l7, vi l4]) (rest := []) (Nat.le_of_ble_eq_true rfl) rfl rfl (zCb_mono (fun x5 h6 k => ?_) k)
      obtain ⟨ka, kb⟩ := k
      refine z_ifb_eq (tgt := 69) dX12_stepped_46 rfl rfl ⟨fun q => ?_, fun q => ?_⟩
      · have k := ka q
        refine z_iinc dX12_stepped_69 rfl (Nat.le_of_ble_eq_true rfl) (L' := [some (vr 12 466), some (vi l1), some (vl l2), none, some (vi l4), some (vl l5), none, some (vi (l7 + 1))]) rfl rfl ?_
        refine z_goto (tgt := 6) dX12_stepped_72 rfl ?_
        exact z_sub (L' := [some (vr 12 466), some (vi l1), some (vl l2), none, some (vi l4), some (vl l5), none, some (vi (l7 + 1))]) (And.intro rfl (And.intro rfl (And.intro rfl (And.intro rfl (And.intro rfl (And.intro rfl trivial)))))) k
      · have k := kb q
        refine z_lload dX12_stepped_49 rfl rfl ?_
        refine z_lconst (x := 1) dX12_stepped_51 rfl rfl ?_
        refine z_aload_n 0 dX12_stepped_52 rfl rfl (Nat.le_of_ble_eq_true rfl) rfl ?_
        refine z_getF 12 13 (x := 499) fX12_112 rfl dX12_stepped_53 rfl rfl ?_
        refine z_iload_n 1 dX12_stepped_56 rfl rfl rfl ?_
        refine z_sipush dX12_stepped_57 rfl rfl ?_
        refine z_imul dX12_stepped_60 rfl ?_
        refine z_iload dX12_stepped_61 rfl rfl ?_
        refine z_iadd dX12_stepped_63 rfl ?_
        obtain ⟨i9, k⟩ := k
        refine z_iald (x := (h6 499 ((l1 * 160) + l7))) dX12_stepped_64 (by rw [zl_499]; exact i9) rfl rfl ?_
        refine z_lshl dX12_stepped_65 rfl ?_
        refine z_lor dX12_stepped_66 rfl ?_
        refine z_lstore dX12_stepped_67 (Nat.le_of_ble_eq_true rfl) (L' := [some (vr 12 466), some (vi l1), some (vl l2), none, some (vi l4), some (vl (zlor l5 (zlshl 1 (h6 499 ((l1 * 160) + l7))))), none, some (vi l7)]) rfl rfl ?_
        refine z_iinc dX12_stepped_69 rfl (Nat.le_of_ble_eq_true rfl) (L' := [some (vr 12 466), some (vi l1), some (vl l2), none, some (vi l4), some (vl (zlor l5 (zlshl 1 (h6 499 ((l1 * 160) + l7))))), none, some (vi (l7 + 1))]) rfl rfl ?_
        refine z_goto (tgt := 6) dX12_stepped_72 rfl ?_
        exact z_sub (L' := [some (vr 12 466), some (vi l1), some (vl l2), none, some (vi l4), some (vl (zlor l5 (zlshl 1 (h6 499 ((l1 * 160) + l7))))), none, some (vi (l7 + 1))]) (And.intro rfl (And.intro rfl (And.intro rfl (And.intro rfl (And.intro rfl (And.intro rfl trivial)))))) k
theorem eX12_stepped {G : zG} {d : Nat} {K : Int → zH → Prop} {l1 : Int} {l2 : Int} {l4 : Int} {h : zH} (k : tX12_stepped_0 G d K l1 l2 l4 h) : zCl G (d + 1) mX12_stepped [vr 12 466, vi l1, vl l2, vi l4] h K := z_entry (by decide +kernel) (Nat.le_of_ble_eq_true rfl) rfl k
def tX12_gathers_0 (G : zG) (d : Nat) (K : Bool → zH → Prop) (l1 : Int) (l2 : Int) (h : zH) : Prop := zTb G (d + 1) mX12_gathers K 0 [some (vr 12 466), some (vi l1), some (vi l2), none, none, none, none, none, none, none] [] h
def tX12_gathers_30 (G : zG) (d : Nat) (K : Bool → zH → Prop) (l1 : Int) (l2 : Int) (l3 : Int) (l4 : Int) (l5 : Int) (h : zH) : Prop := zTb G (d + 1) mX12_gathers K 30 [some (vr 12 466), some (vi l1), some (vi l2), some (vi l3), some (vi l4), some (vi l5), none, none, none, none] [] h
def tX12_gathers_40 (G : zG) (d : Nat) (K : Bool → zH → Prop) (l1 : Int) (l2 : Int) (l3 : Int) (l4 : Int) (l5 : Int) (l6 : Int) (h : zH) : Prop := zTb G (d + 1) mX12_gathers K 40 [some (vr 12 466), some (vi l1), some (vi l2), some (vi l3), some (vi l4), some (vi l5), some (vi l6), none, none, none] [] h
theorem bX12_gathers_0 {G : zG} {d : Nat} {K : Bool → zH → Prop} {l1 : Int} {l2 : Int} {h : zH} (k : zCl G d mX12_freed [vr 12 466, vi l1, vl 1] h (fun x1 h2 => ((0 : Int) ≤ (l2 * 40) ∧ (l2 * 40) < 80) ∧ ((0 : Int) ≤ (l2 * 40) ∧ (l2 * 40) < 80) ∧ tX12_gathers_30 G d K l1 l2 (l2 * 40) 1 0 (zup (zup h2 505 (l2 * 40) x1) 508 (l2 * 40) (-1)))) : tX12_gathers_0 G d K l1 l2 h := by
  unfold tX12_gathers_0
  refine z_iload_n 2 dX12_gathers_0 rfl rfl rfl ?_
  refine z_bipush dX12_gathers_1 rfl rfl ?_
  refine z_imul dX12_gathers_3 rfl ?_
  refine z_istore_n 3 dX12_gathers_4 rfl (Nat.le_of_ble_eq_true rfl) (L' := [some (vr 12 466), some (vi l1), some (vi l2), some (vi (l2 * 40)), none, none, none, none, none, none]) rfl rfl ?_
  refine z_aload_n 0 dX12_gathers_5 rfl rfl (Nat.le_of_ble_eq_true rfl) rfl ?_
  refine z_getF 12 14 (x := 505) fX12_130 rfl dX12_gathers_6 rfl rfl ?_
  refine z_iload_n 3 dX12_gathers_9 rfl rfl rfl ?_
  refine z_aload_n 0 dX12_gathers_10 rfl rfl (Nat.le_of_ble_eq_true rfl) rfl ?_
  refine z_iload_n 1 dX12_gathers_11 rfl rfl rfl ?_
  refine z_lconst (x := 1) dX12_gathers_12 rfl rfl ?_
  refine z_callVl vX12_freed kX12_530 dX12_gathers_13 rfl (zRo_d d) (as := [vi l1, vl 1]) (rest := [vi (l2 * 40), vr 14 505]) (Nat.le_of_ble_eq_true rfl) rfl rfl (zCl_mono (fun x1 h2 k => ?_) k)
  obtain ⟨i9, k⟩ := k
  refine z_last dX12_gathers_16 (by rw [zl_505]; exact i9) rfl ?_
  refine z_aload_n 0 dX12_gathers_17 rfl rfl (Nat.le_of_ble_eq_true rfl) rfl ?_
  refine z_getF 12 13 (x := 508) fX12_139 rfl dX12_gathers_18 rfl rfl ?_
  refine z_iload_n 3 dX12_gathers_21 rfl rfl rfl ?_
  refine z_iconst dX12_gathers_22 rfl ?_
  obtain ⟨i9, k⟩ := k
  refine z_iast dX12_gathers_23 (by rw [zl_508]; exact i9) rfl ?_
  refine z_iconst dX12_gathers_24 rfl ?_
  refine z_istore dX12_gathers_25 (Nat.le_of_ble_eq_true rfl) (L' := [some (vr 12 466), some (vi l1), some (vi l2), some (vi (l2 * 40)), some (vi 1), none, none, none, none, none]) rfl rfl ?_
  refine z_iconst dX12_gathers_27 rfl ?_
  refine z_istore dX12_gathers_28 (Nat.le_of_ble_eq_true rfl) (L' := [some (vr 12 466), some (vi l1), some (vi l2), some (vi (l2 * 40)), some (vi 1), some (vi 0), none, none, none, none]) rfl rfl ?_
  exact z_sub (L' := [some (vr 12 466), some (vi l1), some (vi l2), some (vi (l2 * 40)), some (vi 1), some (vi 0), none, none, none, none]) (And.intro rfl (And.intro rfl (And.intro rfl (And.intro rfl (And.intro rfl (And.intro rfl trivial)))))) k
theorem bX12_gathers_30 {G : zG} {d : Nat} {K : Bool → zH → Prop} {l1 : Int} {l2 : Int} {l3 : Int} {l4 : Int} {l5 : Int} {h : zH} (k : zR l5 ∧ zR l4 ∧ (l4 ≤ l5 → ((0 : Int) ≤ l2 ∧ l2 < 2) ∧ K true (zup h 506 l2 l4)) ∧ (¬ l4 ≤ l5 → tX12_gathers_40 G d K l1 l2 l3 l4 l5 0 h)) : tX12_gathers_30 G d K l1 l2 l3 l4 l5 h := by
  unfold tX12_gathers_30
  refine z_iload dX12_gathers_30 rfl rfl ?_
  refine z_iload dX12_gathers_32 rfl rfl ?_
  obtain ⟨r1, r2, ka, kb⟩ := k
  refine z_icmp_ge (tgt := 173) dX12_gathers_34 rfl r1 r2 rfl ⟨fun q => ?_, fun q => ?_⟩
  · have k := ka q
    refine z_aload_n 0 dX12_gathers_173 rfl rfl (Nat.le_of_ble_eq_true rfl) rfl ?_
    refine z_getF 12 13 (x := 506) fX12_133 rfl dX12_gathers_174 rfl rfl ?_
    refine z_iload_n 2 dX12_gathers_177 rfl rfl rfl ?_
    refine z_iload dX12_gathers_178 rfl rfl ?_
    obtain ⟨i9, k⟩ := k
    refine z_iast dX12_gathers_180 (by rw [zl_506]; exact i9) rfl ?_
    refine z_iconst dX12_gathers_181 rfl ?_
    exact z_zreturn rfl (Or.inr rfl) dX12_gathers_182 ⟨true, rfl, k⟩
  · have k := kb q
    refine z_iconst dX12_gathers_37 rfl ?_
    refine z_istore dX12_gathers_38 (Nat.le_of_ble_eq_true rfl) (L' := [some (vr 12 466), some (vi l1), some (vi l2), some (vi l3), some (vi l4), some (vi l5), some (vi 0), none, none, none]) rfl rfl ?_
    exact z_sub (L' := [some (vr 12 466), some (vi l1), some (vi l2), some (vi l3), some (vi l4), some (vi l5), some (vi 0), none, none, none]) (And.intro rfl (And.intro rfl (And.intro rfl (And.intro rfl (And.intro rfl (And.intro rfl (And.intro rfl trivial))))))) k
theorem bX12_gathers_40 {G : zG} {d : Nat} {K : Bool → zH → Prop} {l1 : Int} {l2 : Int} {l3 : Int} {l4 : Int} {l5 : Int} {l6 : Int} {h : zH} (k : ((0 : Int) ≤ l1 ∧ l1 < 14) ∧ zR l6 ∧ zR (h 496 l1) ∧ ((h 496 l1) ≤ l6 → tX12_gathers_30 G d K l1 l2 l3 l4 (l5 + 1) h) ∧ (¬ (h 496 l1) ≤ l6 → ((0 : Int) ≤ (l3 + l5) ∧ (l3 + l5) < 80) ∧ zCl G d mX12_stepped [vr 12 466, vi l1, vl (h 505 (l3 + l5)), vi l6] h (fun x1 h2 => zCi G d mX12_sheafIn [vr 12 466, vi l3, vi l4, vl x1] h2 (fun x3 h4 => zR x3 ∧ (¬ x3 = 40 → zR x3 ∧ zR l4 ∧ (¬ x3 = l4 → ((0 : Int) ≤ (((l3 + l5) * 128) + l6) ∧ (((l3 + l5) * 128) + l6) < 10240) ∧ tX12_gathers_40 G d K l1 l2 l3 l4 l5 (l6 + 1) (zup h4 507 (((l3 + l5) * 128) + l6) x3)) ∧ (x3 = l4 → ((0 : Int) ≤ (l3 + x3) ∧ (l3 + x3) < 80) ∧ ((0 : Int) ≤ (l3 + x3) ∧ (l3 + x3) < 80) ∧ ((0 : Int) ≤ ((l1 * 128) + l6) ∧ ((l1 * 128) + l6) < 1792) ∧ ((0 : Int) ≤ (l3 + x3) ∧ (l3 + x3) < 80) ∧ ((0 : Int) ≤ (((l3 + l5) * 128) + l6) ∧ (((l3 + l5) * 128) + l6) < 10240) ∧ tX12_gathers_40 G d K l1 l2 l3 (l4 + 1) l5 (l6 + 1) (zup (zup (zup (zup h4 505 (l3 + x3) x1) 508 (l3 + x3) l5) 509 (l3 + x3) (h4 497 ((l1 * 128) + l6))) 507 (((l3 + l5) * 128) + l6) x3))) ∧ (x3 = 40 → K false h4))))) : tX12_gathers_40 G d K l1 l2 l3 l4 l5 l6 h := by
  unfold tX12_gathers_40
  refine z_iload dX12_gathers_40 rfl rfl ?_
  refine z_aload_n 0 dX12_gathers_42 rfl rfl (Nat.le_of_ble_eq_true rfl) rfl ?_
  refine z_getF 12 13 (x := 496) fX12_103 rfl dX12_gathers_43 rfl rfl ?_
  refine z_iload_n 1 dX12_gathers_46 rfl rfl rfl ?_
  obtain ⟨i9, k⟩ := k
  refine z_iald (x := (h 496 l1)) dX12_gathers_47 (by rw [zl_496]; exact i9) rfl rfl ?_
  obtain ⟨r1, r2, ka, kb⟩ := k
  refine z_icmp_ge (tgt := 167) dX12_gathers_48 rfl r1 r2 rfl ⟨fun q => ?_, fun q => ?_⟩
  · have k := ka q
    refine z_iinc dX12_gathers_167 rfl (Nat.le_of_ble_eq_true rfl) (L' := [some (vr 12 466), some (vi l1), some (vi l2), some (vi l3), some (vi l4), some (vi (l5 + 1)), some (vi l6), none, none, none]) rfl rfl ?_
    refine z_goto (tgt := 30) dX12_gathers_170 rfl ?_
    exact z_sub (L' := [some (vr 12 466), some (vi l1), some (vi l2), some (vi l3), some (vi l4), some (vi (l5 + 1)), none, none, none, none]) (And.intro rfl (And.intro rfl (And.intro rfl (And.intro rfl (And.intro rfl (And.intro rfl trivial)))))) k
  · have k := kb q
    refine z_aload_n 0 dX12_gathers_51 rfl rfl (Nat.le_of_ble_eq_true rfl) rfl ?_
    refine z_iload_n 1 dX12_gathers_52 rfl rfl rfl ?_
    refine z_aload_n 0 dX12_gathers_53 rfl rfl (Nat.le_of_ble_eq_true rfl) rfl ?_
    refine z_getF 12 14 (x := 505) fX12_130 rfl dX12_gathers_54 rfl rfl ?_
    refine z_iload_n 3 dX12_gathers_57 rfl rfl rfl ?_
    refine z_iload dX12_gathers_58 rfl rfl ?_
    refine z_iadd dX12_gathers_60 rfl ?_
    obtain ⟨i9, k⟩ := k
    refine z_lald (x := (h 505 (l3 + l5))) dX12_gathers_61 (by rw [zl_505]; exact i9) rfl rfl ?_
    refine z_iload dX12_gathers_62 rfl rfl ?_
    refine z_callVl vX12_stepped kX12_534 dX12_gathers_64 rfl (zRo_d d) (as := [vi l1, vl (h 505 (l3 + l5)), vi l6]) (rest := []) (Nat.le_of_ble_eq_true rfl) rfl rfl (zCl_mono (fun x1 h2 k => ?_) k)
    refine z_lstore dX12_gathers_67 (Nat.le_of_ble_eq_true rfl) (L' := [some (vr 12 466), some (vi l1), some (vi l2), some (vi l3), some (vi l4), some (vi l5), some (vi l6), some (vl x1), none, none]) rfl rfl ?_
    refine z_aload_n 0 dX12_gathers_69 rfl rfl (Nat.le_of_ble_eq_true rfl) rfl ?_
    refine z_iload_n 3 dX12_gathers_70 rfl rfl rfl ?_
    refine z_iload dX12_gathers_71 rfl rfl ?_
    refine z_lload dX12_gathers_73 rfl rfl ?_
    refine z_callVi vX12_sheafIn kX12_538 dX12_gathers_75 rfl (zRo_d d) (as := [vi l3, vi l4, vl x1]) (rest := []) (Nat.le_of_ble_eq_true rfl) rfl rfl (zCi_mono (fun x3 h4 k => ?_) k)
    refine z_istore dX12_gathers_78 (Nat.le_of_ble_eq_true rfl) (L' := [some (vr 12 466), some (vi l1), some (vi l2), some (vi l3), some (vi l4), some (vi l5), some (vi l6), some (vl x1), none, some (vi x3)]) rfl rfl ?_
    refine z_iload dX12_gathers_80 rfl rfl ?_
    refine z_bipush dX12_gathers_82 rfl rfl ?_
    obtain ⟨r1, ka, kb⟩ := k
    refine z_icmp_ne (tgt := 89) dX12_gathers_84 rfl r1 ⟨by decide, by decide⟩ rfl ⟨fun q => ?_, fun q => ?_⟩
    · have k := ka q
      refine z_iload dX12_gathers_89 rfl rfl ?_
      refine z_iload dX12_gathers_91 rfl rfl ?_
      obtain ⟨r1, r2, ka, kb⟩ := k
      refine z_icmp_ne (tgt := 143) dX12_gathers_93 rfl r1 r2 rfl ⟨fun q => ?_, fun q => ?_⟩
      · have k := ka q
        refine z_aload_n 0 dX12_gathers_143 rfl rfl (Nat.le_of_ble_eq_true rfl) rfl ?_
        refine z_getF 12 13 (x := 507) fX12_136 rfl dX12_gathers_144 rfl rfl ?_
        refine z_iload_n 3 dX12_gathers_147 rfl rfl rfl ?_
        refine z_iload dX12_gathers_148 rfl rfl ?_
        refine z_iadd dX12_gathers_150 rfl ?_
        refine z_sipush dX12_gathers_151 rfl rfl ?_
        refine z_imul dX12_gathers_154 rfl ?_
        refine z_iload dX12_gathers_155 rfl rfl ?_
        refine z_iadd dX12_gathers_157 rfl ?_
        refine z_iload dX12_gathers_158 rfl rfl ?_
        obtain ⟨i9, k⟩ := k
        refine z_iast dX12_gathers_160 (by rw [zl_507]; exact i9) rfl ?_
        refine z_iinc dX12_gathers_161 rfl (Nat.le_of_ble_eq_true rfl) (L' := [some (vr 12 466), some (vi l1), some (vi l2), some (vi l3), some (vi l4), some (vi l5), some (vi (l6 + 1)), some (vl x1), none, some (vi x3)]) rfl rfl ?_
        refine z_goto (tgt := 40) dX12_gathers_164 rfl ?_
        exact z_sub (L' := [some (vr 12 466), some (vi l1), some (vi l2), some (vi l3), some (vi l4), some (vi l5), some (vi (l6 + 1)), none, none, none]) (And.intro rfl (And.intro rfl (And.intro rfl (And.intro rfl (And.intro rfl (And.intro rfl (And.intro rfl trivial))))))) k
      · have k := kb q
        refine z_aload_n 0 dX12_gathers_96 rfl rfl (Nat.le_of_ble_eq_true rfl) rfl ?_
        refine z_getF 12 14 (x := 505) fX12_130 rfl dX12_gathers_97 rfl rfl ?_
        refine z_iload_n 3 dX12_gathers_100 rfl rfl rfl ?_
        refine z_iload dX12_gathers_101 rfl rfl ?_
        refine z_iadd dX12_gathers_103 rfl ?_
        refine z_lload dX12_gathers_104 rfl rfl ?_
        obtain ⟨i9, k⟩ := k
        refine z_last dX12_gathers_106 (by rw [zl_505]; exact i9) rfl ?_
        refine z_aload_n 0 dX12_gathers_107 rfl rfl (Nat.le_of_ble_eq_true rfl) rfl ?_
        refine z_getF 12 13 (x := 508) fX12_139 rfl dX12_gathers_108 rfl rfl ?_
        refine z_iload_n 3 dX12_gathers_111 rfl rfl rfl ?_
        refine z_iload dX12_gathers_112 rfl rfl ?_
        refine z_iadd dX12_gathers_114 rfl ?_
        refine z_iload dX12_gathers_115 rfl rfl ?_
        obtain ⟨i9, k⟩ := k
        refine z_iast dX12_gathers_117 (by rw [zl_508]; exact i9) rfl ?_
        refine z_aload_n 0 dX12_gathers_118 rfl rfl (Nat.le_of_ble_eq_true rfl) rfl ?_
        refine z_getF 12 13 (x := 509) fX12_142 rfl dX12_gathers_119 rfl rfl ?_
        refine z_iload_n 3 dX12_gathers_122 rfl rfl rfl ?_
        refine z_iload dX12_gathers_123 rfl rfl ?_
        refine z_iadd dX12_gathers_125 rfl ?_
        refine z_aload_n 0 dX12_gathers_126 rfl rfl (Nat.le_of_ble_eq_true rfl) rfl ?_
        refine z_getF 12 13 (x := 497) fX12_106 rfl dX12_gathers_127 rfl rfl ?_
        refine z_iload_n 1 dX12_gathers_130 rfl rfl rfl ?_
        refine z_sipush dX12_gathers_131 rfl rfl ?_
        refine z_imul dX12_gathers_134 rfl ?_
        refine z_iload dX12_gathers_135 rfl rfl ?_
        refine z_iadd dX12_gathers_137 rfl ?_
        obtain ⟨i9, k⟩ := k
        refine z_iald (x := (h4 497 ((l1 * 128) + l6))) dX12_gathers_138 (by rw [zl_497]; exact i9) (by simp [zup]) rfl ?_
        obtain ⟨i9, k⟩ := k
        refine z_iast dX12_gathers_139 (by rw [zl_509]; exact i9) rfl ?_
        refine z_iinc dX12_gathers_140 rfl (Nat.le_of_ble_eq_true rfl) (L' := [some (vr 12 466), some (vi l1), some (vi l2), some (vi l3), some (vi (l4 + 1)), some (vi l5), some (vi l6), some (vl x1), none, some (vi x3)]) rfl rfl ?_
        refine z_aload_n 0 dX12_gathers_143 rfl rfl (Nat.le_of_ble_eq_true rfl) rfl ?_
        refine z_getF 12 13 (x := 507) fX12_136 rfl dX12_gathers_144 rfl rfl ?_
        refine z_iload_n 3 dX12_gathers_147 rfl rfl rfl ?_
        refine z_iload dX12_gathers_148 rfl rfl ?_
        refine z_iadd dX12_gathers_150 rfl ?_
        refine z_sipush dX12_gathers_151 rfl rfl ?_
        refine z_imul dX12_gathers_154 rfl ?_
        refine z_iload dX12_gathers_155 rfl rfl ?_
        refine z_iadd dX12_gathers_157 rfl ?_
        refine z_iload dX12_gathers_158 rfl rfl ?_
        obtain ⟨i9, k⟩ := k
        refine z_iast dX12_gathers_160 (by rw [zl_507]; exact i9) rfl ?_
        refine z_iinc dX12_gathers_161 rfl (Nat.le_of_ble_eq_true rfl) (L' := [some (vr 12 466), some (vi l1), some (vi l2), some (vi l3), some (vi (l4 + 1)), some (vi l5), some (vi (l6 + 1)), some (vl x1), none, some (vi x3)]) rfl rfl ?_
        refine z_goto (tgt := 40) dX12_gathers_164 rfl ?_
        exact z_sub (L' := [some (vr 12 466), some (vi l1), some (vi l2), some (vi l3), some (vi (l4 + 1)), some (vi l5), some (vi (l6 + 1)), none, none, none]) (And.intro rfl (And.intro rfl (And.intro rfl (And.intro rfl (And.intro rfl (And.intro rfl (And.intro rfl trivial))))))) k
    · have k := kb q
      refine z_iconst dX12_gathers_87 rfl ?_
      exact z_zreturn rfl (Or.inl rfl) dX12_gathers_88 ⟨false, rfl, k⟩
theorem eX12_gathers {G : zG} {d : Nat} {K : Bool → zH → Prop} {l1 : Int} {l2 : Int} {h : zH} (k : tX12_gathers_0 G d K l1 l2 h) : zCb G (d + 1) mX12_gathers [vr 12 466, vi l1, vi l2] h K := z_entry (by decide +kernel) (Nat.le_of_ble_eq_true rfl) rfl k
def tX12_sheafIn_0 (G : zG) (d : Nat) (K : Int → zH → Prop) (l1 : Int) (l2 : Int) (l3 : Int) (h : zH) : Prop := zTi G d mX12_sheafIn K 0 [some (vr 12 466), some (vi l1), some (vi l2), some (vl l3), none, none] [] h
def tX12_sheafIn_3 (G : zG) (d : Nat) (K : Int → zH → Prop) (l1 : Int) (l2 : Int) (l3 : Int) (l5 : Int) (h : zH) : Prop := zTi G d mX12_sheafIn K 3 [some (vr 12 466), some (vi l1), some (vi l2), some (vl l3), none, some (vi l5)] [] h
theorem bX12_sheafIn_0 {G : zG} {d : Nat} {K : Int → zH → Prop} {l1 : Int} {l2 : Int} {l3 : Int} {h : zH} (k : tX12_sheafIn_3 G d K l1 l2 l3 0 h) : tX12_sheafIn_0 G d K l1 l2 l3 h := by
  unfold tX12_sheafIn_0
  refine z_iconst dX12_sheafIn_0 rfl ?_
  refine z_istore dX12_sheafIn_1 (Nat.le_of_ble_eq_true rfl) (L' := [some (vr 12 466), some (vi l1), some (vi l2), some (vl l3), none, some (vi 0)]) rfl rfl ?_
  exact z_sub (L' := [some (vr 12 466), some (vi l1), some (vi l2), some (vl l3), none, some (vi 0)]) (And.intro rfl (And.intro rfl (And.intro rfl (And.intro rfl (And.intro rfl trivial))))) k
theorem bX12_sheafIn_3 {G : zG} {d : Nat} {K : Int → zH → Prop} {l1 : Int} {l2 : Int} {l3 : Int} {l5 : Int} {h : zH} (k : zR l5 ∧ zR l2 ∧ (l2 ≤ l5 → K l5 h) ∧ (¬ l2 ≤ l5 → ((0 : Int) ≤ (l1 + l5) ∧ (l1 + l5) < 80) ∧ ((zcmp (h 505 (l1 + l5)) l3) = 0 → K l5 h) ∧ (¬ (zcmp (h 505 (l1 + l5)) l3) = 0 → tX12_sheafIn_3 G d K l1 l2 l3 (l5 + 1) h))) : tX12_sheafIn_3 G d K l1 l2 l3 l5 h := by
  unfold tX12_sheafIn_3
  refine z_iload dX12_sheafIn_3 rfl rfl ?_
  refine z_iload_n 2 dX12_sheafIn_5 rfl rfl rfl ?_
  obtain ⟨r1, r2, ka, kb⟩ := k
  refine z_icmp_ge (tgt := 29) dX12_sheafIn_6 rfl r1 r2 rfl ⟨fun q => ?_, fun q => ?_⟩
  · have k := ka q
    refine z_iload dX12_sheafIn_29 rfl rfl ?_
    exact z_ireturn rfl dX12_sheafIn_31 ⟨_, rfl, k⟩
  · have k := kb q
    refine z_aload_n 0 dX12_sheafIn_9 rfl rfl (Nat.le_of_ble_eq_true rfl) rfl ?_
    refine z_getF 12 14 (x := 505) fX12_130 rfl dX12_sheafIn_10 rfl rfl ?_
    refine z_iload_n 1 dX12_sheafIn_13 rfl rfl rfl ?_
    refine z_iload dX12_sheafIn_14 rfl rfl ?_
    refine z_iadd dX12_sheafIn_16 rfl ?_
    obtain ⟨i9, k⟩ := k
    refine z_lald (x := (h 505 (l1 + l5))) dX12_sheafIn_17 (by rw [zl_505]; exact i9) rfl rfl ?_
    refine z_lload_n 3 dX12_sheafIn_18 rfl rfl rfl ?_
    refine z_lcmp dX12_sheafIn_19 rfl ?_
    obtain ⟨ka, kb⟩ := k
    refine z_if_eq (tgt := 29) dX12_sheafIn_20 rfl (zcmp_R _ _) rfl ⟨fun q => ?_, fun q => ?_⟩
    · have k := ka q
      refine z_iload dX12_sheafIn_29 rfl rfl ?_
      exact z_ireturn rfl dX12_sheafIn_31 ⟨_, rfl, k⟩
    · have k := kb q
      refine z_iinc dX12_sheafIn_23 rfl (Nat.le_of_ble_eq_true rfl) (L' := [some (vr 12 466), some (vi l1), some (vi l2), some (vl l3), none, some (vi (l5 + 1))]) rfl rfl ?_
      refine z_goto (tgt := 3) dX12_sheafIn_26 rfl ?_
      exact z_sub (L' := [some (vr 12 466), some (vi l1), some (vi l2), some (vl l3), none, some (vi (l5 + 1))]) (And.intro rfl (And.intro rfl (And.intro rfl (And.intro rfl (And.intro rfl trivial))))) k
theorem eX12_sheafIn {G : zG} {d : Nat} {K : Int → zH → Prop} {l1 : Int} {l2 : Int} {l3 : Int} {h : zH} (k : tX12_sheafIn_0 G d K l1 l2 l3 h) : zCi G d mX12_sheafIn [vr 12 466, vi l1, vi l2, vl l3] h K := z_entry (by decide +kernel) (Nat.le_of_ble_eq_true rfl) rfl k
def tX12_goesTo_0 (G : zG) (d : Nat) (K : Int → zH → Prop) (l1 : Int) (l2 : Int) (l3 : Int) (h : zH) : Prop := zTi G d mX12_goesTo K 0 [some (vr 12 466), some (vi l1), some (vi l2), some (vi l3)] [] h
theorem bX12_goesTo_0 {G : zG} {d : Nat} {K : Int → zH → Prop} {l1 : Int} {l2 : Int} {l3 : Int} {h : zH} (k : ((0 : Int) ≤ ((((l1 * 40) + l2) * 128) + l3) ∧ ((((l1 * 40) + l2) * 128) + l3) < 10240) ∧ K (h 507 ((((l1 * 40) + l2) * 128) + l3)) h) : tX12_goesTo_0 G d K l1 l2 l3 h := by
  unfold tX12_goesTo_0
  refine z_aload_n 0 dX12_goesTo_0 rfl rfl (Nat.le_of_ble_eq_true rfl) rfl ?_
  refine z_getF 12 13 (x := 507) fX12_136 rfl dX12_goesTo_1 rfl rfl ?_
  refine z_iload_n 1 dX12_goesTo_4 rfl rfl rfl ?_
  refine z_bipush dX12_goesTo_5 rfl rfl ?_
  refine z_imul dX12_goesTo_7 rfl ?_
  refine z_iload_n 2 dX12_goesTo_8 rfl rfl rfl ?_
  refine z_iadd dX12_goesTo_9 rfl ?_
  refine z_sipush dX12_goesTo_10 rfl rfl ?_
  refine z_imul dX12_goesTo_13 rfl ?_
  refine z_iload_n 3 dX12_goesTo_14 rfl rfl rfl ?_
  refine z_iadd dX12_goesTo_15 rfl ?_
  obtain ⟨i9, k⟩ := k
  refine z_iald (x := (h 507 ((((l1 * 40) + l2) * 128) + l3))) dX12_goesTo_16 (by rw [zl_507]; exact i9) rfl rfl ?_
  exact z_ireturn rfl dX12_goesTo_17 ⟨_, rfl, k⟩
theorem eX12_goesTo {G : zG} {d : Nat} {K : Int → zH → Prop} {l1 : Int} {l2 : Int} {l3 : Int} {h : zH} (k : tX12_goesTo_0 G d K l1 l2 l3 h) : zCi G d mX12_goesTo [vr 12 466, vi l1, vi l2, vi l3] h K := z_entry (by decide +kernel) (Nat.le_of_ble_eq_true rfl) rfl k
def tX12_sheafEnds_0 (G : zG) (d : Nat) (K : Bool → zH → Prop) (l1 : Int) (l2 : Int) (l3 : Int) (h : zH) : Prop := zTb G d mX12_sheafEnds K 0 [some (vr 12 466), some (vi l1), some (vi l2), some (vi l3)] [] h
theorem bX12_sheafEnds_0 {G : zG} {d : Nat} {K : Bool → zH → Prop} {l1 : Int} {l2 : Int} {l3 : Int} {h : zH} (k : ((0 : Int) ≤ ((l2 * 40) + l3) ∧ ((l2 * 40) + l3) < 80) ∧ ((0 : Int) ≤ l1 ∧ l1 < 14) ∧ ((zcmp (zland (h 505 ((l2 * 40) + l3)) (h 502 l1)) 0) = 0 → K false h) ∧ (¬ (zcmp (zland (h 505 ((l2 * 40) + l3)) (h 502 l1)) 0) = 0 → K true h)) : tX12_sheafEnds_0 G d K l1 l2 l3 h := by
  unfold tX12_sheafEnds_0
  refine z_aload_n 0 dX12_sheafEnds_0 rfl rfl (Nat.le_of_ble_eq_true rfl) rfl ?_
  refine z_getF 12 14 (x := 505) fX12_130 rfl dX12_sheafEnds_1 rfl rfl ?_
  refine z_iload_n 2 dX12_sheafEnds_4 rfl rfl rfl ?_
  refine z_bipush dX12_sheafEnds_5 rfl rfl ?_
  refine z_imul dX12_sheafEnds_7 rfl ?_
  refine z_iload_n 3 dX12_sheafEnds_8 rfl rfl rfl ?_
  refine z_iadd dX12_sheafEnds_9 rfl ?_
  obtain ⟨i9, k⟩ := k
  refine z_lald (x := (h 505 ((l2 * 40) + l3))) dX12_sheafEnds_10 (by rw [zl_505]; exact i9) rfl rfl ?_
  refine z_aload_n 0 dX12_sheafEnds_11 rfl rfl (Nat.le_of_ble_eq_true rfl) rfl ?_
  refine z_getF 12 14 (x := 502) fX12_121 rfl dX12_sheafEnds_12 rfl rfl ?_
  refine z_iload_n 1 dX12_sheafEnds_15 rfl rfl rfl ?_
  obtain ⟨i9, k⟩ := k
  refine z_lald (x := (h 502 l1)) dX12_sheafEnds_16 (by rw [zl_502]; exact i9) rfl rfl ?_
  refine z_land dX12_sheafEnds_17 rfl ?_
  refine z_lconst (x := 0) dX12_sheafEnds_18 rfl rfl ?_
  refine z_lcmp dX12_sheafEnds_19 rfl ?_
  obtain ⟨ka, kb⟩ := k
  refine z_if_eq (tgt := 27) dX12_sheafEnds_20 rfl (zcmp_R _ _) rfl ⟨fun q => ?_, fun q => ?_⟩
  · have k := ka q
    refine z_iconst dX12_sheafEnds_27 rfl ?_
    exact z_zreturn rfl (Or.inl rfl) dX12_sheafEnds_28 ⟨false, rfl, k⟩
  · have k := kb q
    refine z_iconst dX12_sheafEnds_23 rfl ?_
    refine z_goto (tgt := 28) dX12_sheafEnds_24 rfl ?_
    exact z_zreturn rfl (Or.inr rfl) dX12_sheafEnds_28 ⟨true, rfl, k⟩
theorem eX12_sheafEnds {G : zG} {d : Nat} {K : Bool → zH → Prop} {l1 : Int} {l2 : Int} {l3 : Int} {h : zH} (k : tX12_sheafEnds_0 G d K l1 l2 l3 h) : zCb G d mX12_sheafEnds [vr 12 466, vi l1, vi l2, vi l3] h K := z_entry (by decide +kernel) (Nat.le_of_ble_eq_true rfl) rfl k
def tX12_parts_0 (G : zG) (d : Nat) (K : zH → Prop) (l1 : Int) (l2 : Int) (h : zH) : Prop := zTv G (d + 1) mX12_parts K 0 [some (vr 12 466), some (vi l1), some (vi l2), none, none, none] [] h
def tX12_parts_10 (G : zG) (d : Nat) (K : zH → Prop) (l1 : Int) (l2 : Int) (l3 : Int) (l4 : Int) (h : zH) : Prop := zTv G (d + 1) mX12_parts K 10 [some (vr 12 466), some (vi l1), some (vi l2), some (vi l3), some (vi l4), none] [] h
def tX12_parts_19 (G : zG) (d : Nat) (K : zH → Prop) (l1 : Int) (l2 : Int) (l3 : Int) (l4 : Int) (l5 : Int) (h : zH) : Prop := zTv G (d + 1) mX12_parts K 19 [some (vr 12 466), some (vi l1), some (vi l2), some (vi l3), some (vi l4), some (vi l5)] [] h
def tX12_parts_79 (G : zG) (d : Nat) (K : zH → Prop) (l1 : Int) (l2 : Int) (h : zH) : Prop := zTv G (d + 1) mX12_parts K 79 [some (vr 12 466), some (vi l1), some (vi l2), none, none, none] [] h
theorem bX12_parts_0 {G : zG} {d : Nat} {K : zH → Prop} {l1 : Int} {l2 : Int} {h : zH} (k : ((0 : Int) ≤ l2 ∧ l2 < 2) ∧ tX12_parts_10 G d K l1 l2 (h 506 l2) 0 h) : tX12_parts_0 G d K l1 l2 h := by
  unfold tX12_parts_0
  refine z_aload_n 0 dX12_parts_0 rfl rfl (Nat.le_of_ble_eq_true rfl) rfl ?_
  refine z_getF 12 13 (x := 506) fX12_133 rfl dX12_parts_1 rfl rfl ?_
  refine z_iload_n 2 dX12_parts_4 rfl rfl rfl ?_
  obtain ⟨i9, k⟩ := k
  refine z_iald (x := (h 506 l2)) dX12_parts_5 (by rw [zl_506]; exact i9) rfl rfl ?_
  refine z_istore_n 3 dX12_parts_6 rfl (Nat.le_of_ble_eq_true rfl) (L' := [some (vr 12 466), some (vi l1), some (vi l2), some (vi (h 506 l2)), none, none]) rfl rfl ?_
  refine z_iconst dX12_parts_7 rfl ?_
  refine z_istore dX12_parts_8 (Nat.le_of_ble_eq_true rfl) (L' := [some (vr 12 466), some (vi l1), some (vi l2), some (vi (h 506 l2)), some (vi 0), none]) rfl rfl ?_
  exact z_sub (L' := [some (vr 12 466), some (vi l1), some (vi l2), some (vi (h 506 l2)), some (vi 0), none]) (And.intro rfl (And.intro rfl (And.intro rfl (And.intro rfl (And.intro rfl trivial))))) k
theorem bX12_parts_10 {G : zG} {d : Nat} {K : zH → Prop} {l1 : Int} {l2 : Int} {l3 : Int} {l4 : Int} {h : zH} (k : zR l4 ∧ zR l3 ∧ (l3 ≤ l4 → tX12_parts_79 G d K l1 l2 (zup h 466 75 0)) ∧ (¬ l3 ≤ l4 → tX12_parts_19 G d K l1 l2 l3 l4 0 h)) : tX12_parts_10 G d K l1 l2 l3 l4 h := by
  unfold tX12_parts_10
  refine z_iload dX12_parts_10 rfl rfl ?_
  refine z_iload_n 3 dX12_parts_12 rfl rfl rfl ?_
  obtain ⟨r1, r2, ka, kb⟩ := k
  refine z_icmp_ge (tgt := 74) dX12_parts_13 rfl r1 r2 rfl ⟨fun q => ?_, fun q => ?_⟩
  · have k := ka q
    refine z_aload_n 0 dX12_parts_74 rfl rfl (Nat.le_of_ble_eq_true rfl) rfl ?_
    refine z_iconst dX12_parts_75 rfl ?_
    refine z_putI 12 gX12_545 dX12_parts_76 rfl ?_
    exact z_sub (L' := [some (vr 12 466), some (vi l1), some (vi l2), none, none, none]) (And.intro rfl (And.intro rfl (And.intro rfl trivial))) k
  · have k := kb q
    refine z_iconst dX12_parts_16 rfl ?_
    refine z_istore dX12_parts_17 (Nat.le_of_ble_eq_true rfl) (L' := [some (vr 12 466), some (vi l1), some (vi l2), some (vi l3), some (vi l4), some (vi 0)]) rfl rfl ?_
    exact z_sub (L' := [some (vr 12 466), some (vi l1), some (vi l2), some (vi l3), some (vi l4), some (vi 0)]) (And.intro rfl (And.intro rfl (And.intro rfl (And.intro rfl (And.intro rfl (And.intro rfl trivial)))))) k
theorem bX12_parts_19 {G : zG} {d : Nat} {K : zH → Prop} {l1 : Int} {l2 : Int} {l3 : Int} {l4 : Int} {l5 : Int} {h : zH} (k : zR l5 ∧ zR l3 ∧ (l3 ≤ l5 → tX12_parts_10 G d K l1 l2 l3 (l4 + 1) h) ∧ (¬ l3 ≤ l5 → zCb G d mX12_sheafEnds [vr 12 466, vi l1, vi l2, vi l4] h (fun x1 h2 => zCb G d mX12_sheafEnds [vr 12 466, vi l1, vi l2, vi l5] h2 (fun x3 h4 => (bi x1 = bi x3 → ((0 : Int) ≤ ((l4 * 40) + l5) ∧ ((l4 * 40) + l5) < 1600) ∧ tX12_parts_19 G d K l1 l2 l3 l4 (l5 + 1) (zup h4 513 ((l4 * 40) + l5) (-1))) ∧ (¬ bi x1 = bi x3 → ((0 : Int) ≤ ((l4 * 40) + l5) ∧ ((l4 * 40) + l5) < 1600) ∧ tX12_parts_19 G d K l1 l2 l3 l4 (l5 + 1) (zup h4 513 ((l4 * 40) + l5) 0)))))) : tX12_parts_19 G d K l1 l2 l3 l4 l5 h := by
  unfold tX12_parts_19
  refine z_iload dX12_parts_19 rfl rfl ?_
  refine z_iload_n 3 dX12_parts_21 rfl rfl rfl ?_
  obtain ⟨r1, r2, ka, kb⟩ := k
  refine z_icmp_ge (tgt := 68) dX12_parts_22 rfl r1 r2 rfl ⟨fun q => ?_, fun q => ?_⟩
  · have k := ka q
    refine z_iinc dX12_parts_68 rfl (Nat.le_of_ble_eq_true rfl) (L' := [some (vr 12 466), some (vi l1), some (vi l2), some (vi l3), some (vi (l4 + 1)), some (vi l5)]) rfl rfl ?_
    refine z_goto (tgt := 10) dX12_parts_71 rfl ?_
    exact z_sub (L' := [some (vr 12 466), some (vi l1), some (vi l2), some (vi l3), some (vi (l4 + 1)), none]) (And.intro rfl (And.intro rfl (And.intro rfl (And.intro rfl (And.intro rfl trivial))))) k
  · have k := kb q
    refine z_aload_n 0 dX12_parts_25 rfl rfl (Nat.le_of_ble_eq_true rfl) rfl ?_
    refine z_getF 12 13 (x := 513) fX12_154 rfl dX12_parts_26 rfl rfl ?_
    refine z_iload dX12_parts_29 rfl rfl ?_
    refine z_bipush dX12_parts_31 rfl rfl ?_
    refine z_imul dX12_parts_33 rfl ?_
    refine z_iload dX12_parts_34 rfl rfl ?_
    refine z_iadd dX12_parts_36 rfl ?_
    refine z_aload_n 0 dX12_parts_37 rfl rfl (Nat.le_of_ble_eq_true rfl) rfl ?_
    refine z_iload_n 1 dX12_parts_38 rfl rfl rfl ?_
    refine z_iload_n 2 dX12_parts_39 rfl rfl rfl ?_
    refine z_iload dX12_parts_40 rfl rfl ?_
    refine z_callVb vX12_sheafEnds kX12_542 dX12_parts_42 rfl (zRo_d d) (as := [vi l1, vi l2, vi l4]) (rest := [vi ((l4 * 40) + l5), vr 13 513]) (Nat.le_of_ble_eq_true rfl) rfl rfl (zCb_mono (fun x1 h2 k => ?_) k)
    refine z_aload_n 0 dX12_parts_45 rfl rfl (Nat.le_of_ble_eq_true rfl) rfl ?_
    refine z_iload_n 1 dX12_parts_46 rfl rfl rfl ?_
    refine z_iload_n 2 dX12_parts_47 rfl rfl rfl ?_
    refine z_iload dX12_parts_48 rfl rfl ?_
    refine z_callVb vX12_sheafEnds kX12_542 dX12_parts_50 rfl (zRo_d d) (as := [vi l1, vi l2, vi l5]) (rest := [vi (bi x1), vi ((l4 * 40) + l5), vr 13 513]) (Nat.le_of_ble_eq_true rfl) rfl rfl (zCb_mono (fun x3 h4 k => ?_) k)
    obtain ⟨ka, kb⟩ := k
    refine z_icmp_eq (tgt := 60) dX12_parts_53 rfl (bi_R _) (bi_R _) rfl ⟨fun q => ?_, fun q => ?_⟩
    · have k := ka q
      refine z_iconst dX12_parts_60 rfl ?_
      obtain ⟨i9, k⟩ := k
      refine z_iast dX12_parts_61 (by rw [zl_513]; exact i9) rfl ?_
      refine z_iinc dX12_parts_62 rfl (Nat.le_of_ble_eq_true rfl) (L' := [some (vr 12 466), some (vi l1), some (vi l2), some (vi l3), some (vi l4), some (vi (l5 + 1))]) rfl rfl ?_
      refine z_goto (tgt := 19) dX12_parts_65 rfl ?_
      exact z_sub (L' := [some (vr 12 466), some (vi l1), some (vi l2), some (vi l3), some (vi l4), some (vi (l5 + 1))]) (And.intro rfl (And.intro rfl (And.intro rfl (And.intro rfl (And.intro rfl (And.intro rfl trivial)))))) k
    · have k := kb q
      refine z_iconst dX12_parts_56 rfl ?_
      refine z_goto (tgt := 61) dX12_parts_57 rfl ?_
      obtain ⟨i9, k⟩ := k
      refine z_iast dX12_parts_61 (by rw [zl_513]; exact i9) rfl ?_
      refine z_iinc dX12_parts_62 rfl (Nat.le_of_ble_eq_true rfl) (L' := [some (vr 12 466), some (vi l1), some (vi l2), some (vi l3), some (vi l4), some (vi (l5 + 1))]) rfl rfl ?_
      refine z_goto (tgt := 19) dX12_parts_65 rfl ?_
      exact z_sub (L' := [some (vr 12 466), some (vi l1), some (vi l2), some (vi l3), some (vi l4), some (vi (l5 + 1))]) (And.intro rfl (And.intro rfl (And.intro rfl (And.intro rfl (And.intro rfl (And.intro rfl trivial)))))) k
theorem bX12_parts_79 {G : zG} {d : Nat} {K : zH → Prop} {l1 : Int} {l2 : Int} {h : zH} (k : zCb G d mX12_partsMore [vr 12 466, vi l1, vi l2, vi ((h 466 75) + 1)] h (fun x1 h2 => (x1 = false → K h2) ∧ (x1 = true → tX12_parts_79 G d K l1 l2 (zup h2 466 75 ((h2 466 75) + 1))))) : tX12_parts_79 G d K l1 l2 h := by
  unfold tX12_parts_79
  refine z_aload_n 0 dX12_parts_79 rfl rfl (Nat.le_of_ble_eq_true rfl) rfl ?_
  refine z_iload_n 1 dX12_parts_80 rfl rfl rfl ?_
  refine z_iload_n 2 dX12_parts_81 rfl rfl rfl ?_
  refine z_aload_n 0 dX12_parts_82 rfl rfl (Nat.le_of_ble_eq_true rfl) rfl ?_
  refine z_getI 12 (x := (h 466 75)) fX12_545 rfl dX12_parts_83 rfl rfl ?_
  refine z_iconst dX12_parts_86 rfl ?_
  refine z_iadd dX12_parts_87 rfl ?_
  refine z_callVb vX12_partsMore kX12_548 dX12_parts_88 rfl (zRo_d d) (as := [vi l1, vi l2, vi ((h 466 75) + 1)]) (rest := []) (Nat.le_of_ble_eq_true rfl) rfl rfl (zCb_mono (fun x1 h2 k => ?_) k)
  obtain ⟨ka, kb⟩ := k
  refine z_ifb_eq (tgt := 107) dX12_parts_91 rfl rfl ⟨fun q => ?_, fun q => ?_⟩
  · have k := ka q
    exact z_return rfl dX12_parts_107 ⟨rfl, k⟩
  · have k := kb q
    refine z_aload_n 0 dX12_parts_94 rfl rfl (Nat.le_of_ble_eq_true rfl) rfl ?_
    refine z_dup dX12_parts_95 (fun q => by cases q) rfl ?_
    refine z_getI 12 (x := (h2 466 75)) fX12_545 rfl dX12_parts_96 rfl rfl ?_
    refine z_iconst dX12_parts_99 rfl ?_
    refine z_iadd dX12_parts_100 rfl ?_
    refine z_putI 12 gX12_545 dX12_parts_101 rfl ?_
    refine z_goto (tgt := 79) dX12_parts_104 rfl ?_
    exact z_sub (L' := [some (vr 12 466), some (vi l1), some (vi l2), none, none, none]) (And.intro rfl (And.intro rfl (And.intro rfl trivial))) k
theorem eX12_parts {G : zG} {d : Nat} {K : zH → Prop} {l1 : Int} {l2 : Int} {h : zH} (k : tX12_parts_0 G d K l1 l2 h) : zCv G (d + 1) mX12_parts [vr 12 466, vi l1, vi l2] h K := z_entry (by decide +kernel) (Nat.le_of_ble_eq_true rfl) rfl k
def tX12_partsMore_0 (G : zG) (d : Nat) (K : Bool → zH → Prop) (l1 : Int) (l2 : Int) (l3 : Int) (h : zH) : Prop := zTb G (d + 1) mX12_partsMore K 0 [some (vr 12 466), some (vi l1), some (vi l2), some (vi l3), none, none, none] [] h
def tX12_partsMore_6 (G : zG) (d : Nat) (K : Bool → zH → Prop) (l1 : Int) (l2 : Int) (l3 : Int) (l4 : Int) (l5 : Int) (h : zH) : Prop := zTb G (d + 1) mX12_partsMore K 6 [some (vr 12 466), some (vi l1), some (vi l2), some (vi l3), some (vi l4), some (vi l5), none] [] h
def tX12_partsMore_20 (G : zG) (d : Nat) (K : Bool → zH → Prop) (l1 : Int) (l2 : Int) (l3 : Int) (l4 : Int) (l5 : Int) (l6 : Int) (h : zH) : Prop := zTb G (d + 1) mX12_partsMore K 20 [some (vr 12 466), some (vi l1), some (vi l2), some (vi l3), some (vi l4), some (vi l5), some (vi l6)] [] h
theorem bX12_partsMore_0 {G : zG} {d : Nat} {K : Bool → zH → Prop} {l1 : Int} {l2 : Int} {l3 : Int} {h : zH} (k : tX12_partsMore_6 G d K l1 l2 l3 0 0 h) : tX12_partsMore_0 G d K l1 l2 l3 h := by
  unfold tX12_partsMore_0
  refine z_iconst dX12_partsMore_0 rfl ?_
  refine z_istore dX12_partsMore_1 (Nat.le_of_ble_eq_true rfl) (L' := [some (vr 12 466), some (vi l1), some (vi l2), some (vi l3), some (vi 0), none, none]) rfl rfl ?_
  refine z_iconst dX12_partsMore_3 rfl ?_
  refine z_istore dX12_partsMore_4 (Nat.le_of_ble_eq_true rfl) (L' := [some (vr 12 466), some (vi l1), some (vi l2), some (vi l3), some (vi 0), some (vi 0), none]) rfl rfl ?_
  exact z_sub (L' := [some (vr 12 466), some (vi l1), some (vi l2), some (vi l3), some (vi 0), some (vi 0), none]) (And.intro rfl (And.intro rfl (And.intro rfl (And.intro rfl (And.intro rfl (And.intro rfl trivial)))))) k
theorem bX12_partsMore_6 {G : zG} {d : Nat} {K : Bool → zH → Prop} {l1 : Int} {l2 : Int} {l3 : Int} {l4 : Int} {l5 : Int} {h : zH} (k : ((0 : Int) ≤ l2 ∧ l2 < 2) ∧ zR l5 ∧ zR (h 506 l2) ∧ ((h 506 l2) ≤ l5 → (∃ b1, l4 = bi b1 ∧ K b1 h)) ∧ (¬ (h 506 l2) ≤ l5 → tX12_partsMore_20 G d K l1 l2 l3 l4 l5 0 h)) : tX12_partsMore_6 G d K l1 l2 l3 l4 l5 h := by
  unfold tX12_partsMore_6
  refine z_iload dX12_partsMore_6 rfl rfl ?_
  refine z_aload_n 0 dX12_partsMore_8 rfl rfl (Nat.le_of_ble_eq_true rfl) rfl ?_
  refine z_getF 12 13 (x := 506) fX12_133 rfl dX12_partsMore_9 rfl rfl ?_
  refine z_iload_n 2 dX12_partsMore_12 rfl rfl rfl ?_
  obtain ⟨i9, k⟩ := k
  refine z_iald (x := (h 506 l2)) dX12_partsMore_13 (by rw [zl_506]; exact i9) rfl rfl ?_
  obtain ⟨r1, r2, ka, kb⟩ := k
  refine z_icmp_ge (tgt := 105) dX12_partsMore_14 rfl r1 r2 rfl ⟨fun q => ?_, fun q => ?_⟩
  · have k := ka q
    refine z_iload dX12_partsMore_105 rfl rfl ?_
    obtain ⟨b9, e9, k⟩ := k
    exact z_zreturn rfl (by rw [e9]; exact bi_01 b9) dX12_partsMore_107 ⟨b9, by rw [e9], k⟩
  · have k := kb q
    refine z_iconst dX12_partsMore_17 rfl ?_
    refine z_istore dX12_partsMore_18 (Nat.le_of_ble_eq_true rfl) (L' := [some (vr 12 466), some (vi l1), some (vi l2), some (vi l3), some (vi l4), some (vi l5), some (vi 0)]) rfl rfl ?_
    exact z_sub (L' := [some (vr 12 466), some (vi l1), some (vi l2), some (vi l3), some (vi l4), some (vi l5), some (vi 0)]) (And.intro rfl (And.intro rfl (And.intro rfl (And.intro rfl (And.intro rfl (And.intro rfl (And.intro rfl trivial))))))) k
theorem bX12_partsMore_20 {G : zG} {d : Nat} {K : Bool → zH → Prop} {l1 : Int} {l2 : Int} {l3 : Int} {l4 : Int} {l5 : Int} {l6 : Int} {h : zH} (k : zR l6 ∧ zR l5 ∧ (l5 ≤ l6 → tX12_partsMore_6 G d K l1 l2 l3 l4 (l5 + 1) h) ∧ (¬ l5 ≤ l6 → ((0 : Int) ≤ ((l5 * 40) + l6) ∧ ((l5 * 40) + l6) < 1600) ∧ zR (h 513 ((l5 * 40) + l6)) ∧ (¬ (h 513 ((l5 * 40) + l6)) = (-1) → tX12_partsMore_20 G d K l1 l2 l3 l4 l5 (l6 + 1) h) ∧ ((h 513 ((l5 * 40) + l6)) = (-1) → zCi G d mX12_partingBlock [vr 12 466, vi l1, vi l2, vi l5, vi l6, vi l3] h (fun x1 h2 => zR x1 ∧ (¬ x1 = (-1) → ((0 : Int) ≤ ((l5 * 40) + l6) ∧ ((l5 * 40) + l6) < 1600) ∧ ((0 : Int) ≤ ((l6 * 40) + l5) ∧ ((l6 * 40) + l5) < 1600) ∧ tX12_partsMore_20 G d K l1 l2 l3 1 l5 (l6 + 1) (zup (zup h2 513 ((l5 * 40) + l6) l3) 513 ((l6 * 40) + l5) l3)) ∧ (x1 = (-1) → tX12_partsMore_20 G d K l1 l2 l3 l4 l5 (l6 + 1) h2))))) : tX12_partsMore_20 G d K l1 l2 l3 l4 l5 l6 h := by
  unfold tX12_partsMore_20
  refine z_iload dX12_partsMore_20 rfl rfl ?_
  refine z_iload dX12_partsMore_22 rfl rfl ?_
  obtain ⟨r1, r2, ka, kb⟩ := k
  refine z_icmp_ge (tgt := 99) dX12_partsMore_24 rfl r1 r2 rfl ⟨fun q => ?_, fun q => ?_⟩
  · have k := ka q
    refine z_iinc dX12_partsMore_99 rfl (Nat.le_of_ble_eq_true rfl) (L' := [some (vr 12 466), some (vi l1), some (vi l2), some (vi l3), some (vi l4), some (vi (l5 + 1)), some (vi l6)]) rfl rfl ?_
    refine z_goto (tgt := 6) dX12_partsMore_102 rfl ?_
    exact z_sub (L' := [some (vr 12 466), some (vi l1), some (vi l2), some (vi l3), some (vi l4), some (vi (l5 + 1)), none]) (And.intro rfl (And.intro rfl (And.intro rfl (And.intro rfl (And.intro rfl (And.intro rfl trivial)))))) k
  · have k := kb q
    refine z_aload_n 0 dX12_partsMore_27 rfl rfl (Nat.le_of_ble_eq_true rfl) rfl ?_
    refine z_getF 12 13 (x := 513) fX12_154 rfl dX12_partsMore_28 rfl rfl ?_
    refine z_iload dX12_partsMore_31 rfl rfl ?_
    refine z_bipush dX12_partsMore_33 rfl rfl ?_
    refine z_imul dX12_partsMore_35 rfl ?_
    refine z_iload dX12_partsMore_36 rfl rfl ?_
    refine z_iadd dX12_partsMore_38 rfl ?_
    obtain ⟨i9, k⟩ := k
    refine z_iald (x := (h 513 ((l5 * 40) + l6))) dX12_partsMore_39 (by rw [zl_513]; exact i9) rfl rfl ?_
    refine z_iconst dX12_partsMore_40 rfl ?_
    obtain ⟨r1, ka, kb⟩ := k
    refine z_icmp_ne (tgt := 93) dX12_partsMore_41 rfl r1 ⟨by decide, by decide⟩ rfl ⟨fun q => ?_, fun q => ?_⟩
    · have k := ka q
      refine z_iinc dX12_partsMore_93 rfl (Nat.le_of_ble_eq_true rfl) (L' := [some (vr 12 466), some (vi l1), some (vi l2), some (vi l3), some (vi l4), some (vi l5), some (vi (l6 + 1))]) rfl rfl ?_
      refine z_goto (tgt := 20) dX12_partsMore_96 rfl ?_
      exact z_sub (L' := [some (vr 12 466), some (vi l1), some (vi l2), some (vi l3), some (vi l4), some (vi l5), some (vi (l6 + 1))]) (And.intro rfl (And.intro rfl (And.intro rfl (And.intro rfl (And.intro rfl (And.intro rfl (And.intro rfl trivial))))))) k
    · have k := kb q
      refine z_aload_n 0 dX12_partsMore_44 rfl rfl (Nat.le_of_ble_eq_true rfl) rfl ?_
      refine z_iload_n 1 dX12_partsMore_45 rfl rfl rfl ?_
      refine z_iload_n 2 dX12_partsMore_46 rfl rfl rfl ?_
      refine z_iload dX12_partsMore_47 rfl rfl ?_
      refine z_iload dX12_partsMore_49 rfl rfl ?_
      refine z_iload_n 3 dX12_partsMore_51 rfl rfl rfl ?_
      refine z_callVi vX12_partingBlock kX12_551 dX12_partsMore_52 rfl (zRo_d d) (as := [vi l1, vi l2, vi l5, vi l6, vi l3]) (rest := []) (Nat.le_of_ble_eq_true rfl) rfl rfl (zCi_mono (fun x1 h2 k => ?_) k)
      refine z_iconst dX12_partsMore_55 rfl ?_
      obtain ⟨r1, ka, kb⟩ := k
      refine z_icmp_ne (tgt := 62) dX12_partsMore_56 rfl r1 ⟨by decide, by decide⟩ rfl ⟨fun q => ?_, fun q => ?_⟩
      · have k := ka q
        refine z_aload_n 0 dX12_partsMore_62 rfl rfl (Nat.le_of_ble_eq_true rfl) rfl ?_
        refine z_getF 12 13 (x := 513) fX12_154 rfl dX12_partsMore_63 rfl rfl ?_
        refine z_iload dX12_partsMore_66 rfl rfl ?_
        refine z_bipush dX12_partsMore_68 rfl rfl ?_
        refine z_imul dX12_partsMore_70 rfl ?_
        refine z_iload dX12_partsMore_71 rfl rfl ?_
        refine z_iadd dX12_partsMore_73 rfl ?_
        refine z_iload_n 3 dX12_partsMore_74 rfl rfl rfl ?_
        obtain ⟨i9, k⟩ := k
        refine z_iast dX12_partsMore_75 (by rw [zl_513]; exact i9) rfl ?_
        refine z_aload_n 0 dX12_partsMore_76 rfl rfl (Nat.le_of_ble_eq_true rfl) rfl ?_
        refine z_getF 12 13 (x := 513) fX12_154 rfl dX12_partsMore_77 rfl rfl ?_
        refine z_iload dX12_partsMore_80 rfl rfl ?_
        refine z_bipush dX12_partsMore_82 rfl rfl ?_
        refine z_imul dX12_partsMore_84 rfl ?_
        refine z_iload dX12_partsMore_85 rfl rfl ?_
        refine z_iadd dX12_partsMore_87 rfl ?_
        refine z_iload_n 3 dX12_partsMore_88 rfl rfl rfl ?_
        obtain ⟨i9, k⟩ := k
        refine z_iast dX12_partsMore_89 (by rw [zl_513]; exact i9) rfl ?_
        refine z_iconst dX12_partsMore_90 rfl ?_
        refine z_istore dX12_partsMore_91 (Nat.le_of_ble_eq_true rfl) (L' := [some (vr 12 466), some (vi l1), some (vi l2), some (vi l3), some (vi 1), some (vi l5), some (vi l6)]) rfl rfl ?_
        refine z_iinc dX12_partsMore_93 rfl (Nat.le_of_ble_eq_true rfl) (L' := [some (vr 12 466), some (vi l1), some (vi l2), some (vi l3), some (vi 1), some (vi l5), some (vi (l6 + 1))]) rfl rfl ?_
        refine z_goto (tgt := 20) dX12_partsMore_96 rfl ?_
        exact z_sub (L' := [some (vr 12 466), some (vi l1), some (vi l2), some (vi l3), some (vi 1), some (vi l5), some (vi (l6 + 1))]) (And.intro rfl (And.intro rfl (And.intro rfl (And.intro rfl (And.intro rfl (And.intro rfl (And.intro rfl trivial))))))) k
      · have k := kb q
        refine z_goto (tgt := 93) dX12_partsMore_59 rfl ?_
        refine z_iinc dX12_partsMore_93 rfl (Nat.le_of_ble_eq_true rfl) (L' := [some (vr 12 466), some (vi l1), some (vi l2), some (vi l3), some (vi l4), some (vi l5), some (vi (l6 + 1))]) rfl rfl ?_
        refine z_goto (tgt := 20) dX12_partsMore_96 rfl ?_
        exact z_sub (L' := [some (vr 12 466), some (vi l1), some (vi l2), some (vi l3), some (vi l4), some (vi l5), some (vi (l6 + 1))]) (And.intro rfl (And.intro rfl (And.intro rfl (And.intro rfl (And.intro rfl (And.intro rfl (And.intro rfl trivial))))))) k
theorem eX12_partsMore {G : zG} {d : Nat} {K : Bool → zH → Prop} {l1 : Int} {l2 : Int} {l3 : Int} {h : zH} (k : tX12_partsMore_0 G d K l1 l2 l3 h) : zCb G (d + 1) mX12_partsMore [vr 12 466, vi l1, vi l2, vi l3] h K := z_entry (by decide +kernel) (Nat.le_of_ble_eq_true rfl) rfl k
def tX12_partingBlock_0 (G : zG) (d : Nat) (K : Int → zH → Prop) (l1 : Int) (l2 : Int) (l3 : Int) (l4 : Int) (l5 : Int) (h : zH) : Prop := zTi G (d + 1) mX12_partingBlock K 0 [some (vr 12 466), some (vi l1), some (vi l2), some (vi l3), some (vi l4), some (vi l5), none] [] h
def tX12_partingBlock_3 (G : zG) (d : Nat) (K : Int → zH → Prop) (l1 : Int) (l2 : Int) (l3 : Int) (l4 : Int) (l5 : Int) (l6 : Int) (h : zH) : Prop := zTi G (d + 1) mX12_partingBlock K 3 [some (vr 12 466), some (vi l1), some (vi l2), some (vi l3), some (vi l4), some (vi l5), some (vi l6)] [] h
theorem bX12_partingBlock_0 {G : zG} {d : Nat} {K : Int → zH → Prop} {l1 : Int} {l2 : Int} {l3 : Int} {l4 : Int} {l5 : Int} {h : zH} (k : tX12_partingBlock_3 G d K l1 l2 l3 l4 l5 0 h) : tX12_partingBlock_0 G d K l1 l2 l3 l4 l5 h := by
  unfold tX12_partingBlock_0
  refine z_iconst dX12_partingBlock_0 rfl ?_
  refine z_istore dX12_partingBlock_1 (Nat.le_of_ble_eq_true rfl) (L' := [some (vr 12 466), some (vi l1), some (vi l2), some (vi l3), some (vi l4), some (vi l5), some (vi 0)]) rfl rfl ?_
  exact z_sub (L' := [some (vr 12 466), some (vi l1), some (vi l2), some (vi l3), some (vi l4), some (vi l5), some (vi 0)]) (And.intro rfl (And.intro rfl (And.intro rfl (And.intro rfl (And.intro rfl (And.intro rfl (And.intro rfl trivial))))))) k
theorem bX12_partingBlock_3 {G : zG} {d : Nat} {K : Int → zH → Prop} {l1 : Int} {l2 : Int} {l3 : Int} {l4 : Int} {l5 : Int} {l6 : Int} {h : zH} (k : ((0 : Int) ≤ l1 ∧ l1 < 14) ∧ zR l6 ∧ zR (h 496 l1) ∧ ((h 496 l1) ≤ l6 → K (-1) h) ∧ (¬ (h 496 l1) ≤ l6 → zCi G d mX12_goesTo [vr 12 466, vi l2, vi l3, vi l6] h (fun x1 h2 => zCi G d mX12_goesTo [vr 12 466, vi l2, vi l4, vi l6] h2 (fun x3 h4 => ((0 : Int) ≤ ((x1 * 40) + x3) ∧ ((x1 * 40) + x3) < 1600) ∧ zR (h4 513 ((x1 * 40) + x3)) ∧ zR (l5 - 1) ∧ (¬ (h4 513 ((x1 * 40) + x3)) = (l5 - 1) → tX12_partingBlock_3 G d K l1 l2 l3 l4 l5 (l6 + 1) h4) ∧ ((h4 513 ((x1 * 40) + x3)) = (l5 - 1) → K l6 h4))))) : tX12_partingBlock_3 G d K l1 l2 l3 l4 l5 l6 h := by
  unfold tX12_partingBlock_3
  refine z_iload dX12_partingBlock_3 rfl rfl ?_
  refine z_aload_n 0 dX12_partingBlock_5 rfl rfl (Nat.le_of_ble_eq_true rfl) rfl ?_
  refine z_getF 12 13 (x := 496) fX12_103 rfl dX12_partingBlock_6 rfl rfl ?_
  refine z_iload_n 1 dX12_partingBlock_9 rfl rfl rfl ?_
  obtain ⟨i9, k⟩ := k
  refine z_iald (x := (h 496 l1)) dX12_partingBlock_10 (by rw [zl_496]; exact i9) rfl rfl ?_
  obtain ⟨r1, r2, ka, kb⟩ := k
  refine z_icmp_ge (tgt := 56) dX12_partingBlock_11 rfl r1 r2 rfl ⟨fun q => ?_, fun q => ?_⟩
  · have k := ka q
    refine z_iconst dX12_partingBlock_56 rfl ?_
    exact z_ireturn rfl dX12_partingBlock_57 ⟨_, rfl, k⟩
  · have k := kb q
    refine z_aload_n 0 dX12_partingBlock_14 rfl rfl (Nat.le_of_ble_eq_true rfl) rfl ?_
    refine z_getF 12 13 (x := 513) fX12_154 rfl dX12_partingBlock_15 rfl rfl ?_
    refine z_aload_n 0 dX12_partingBlock_18 rfl rfl (Nat.le_of_ble_eq_true rfl) rfl ?_
    refine z_iload_n 2 dX12_partingBlock_19 rfl rfl rfl ?_
    refine z_iload_n 3 dX12_partingBlock_20 rfl rfl rfl ?_
    refine z_iload dX12_partingBlock_21 rfl rfl ?_
    refine z_callVi vX12_goesTo kX12_555 dX12_partingBlock_23 rfl (zRo_d d) (as := [vi l2, vi l3, vi l6]) (rest := [vr 13 513]) (Nat.le_of_ble_eq_true rfl) rfl rfl (zCi_mono (fun x1 h2 k => ?_) k)
    refine z_bipush dX12_partingBlock_26 rfl rfl ?_
    refine z_imul dX12_partingBlock_28 rfl ?_
    refine z_aload_n 0 dX12_partingBlock_29 rfl rfl (Nat.le_of_ble_eq_true rfl) rfl ?_
    refine z_iload_n 2 dX12_partingBlock_30 rfl rfl rfl ?_
    refine z_iload dX12_partingBlock_31 rfl rfl ?_
    refine z_iload dX12_partingBlock_33 rfl rfl ?_
    refine z_callVi vX12_goesTo kX12_555 dX12_partingBlock_35 rfl (zRo_d d) (as := [vi l2, vi l4, vi l6]) (rest := [vi (x1 * 40), vr 13 513]) (Nat.le_of_ble_eq_true rfl) rfl rfl (zCi_mono (fun x3 h4 k => ?_) k)
    refine z_iadd dX12_partingBlock_38 rfl ?_
    obtain ⟨i9, k⟩ := k
    refine z_iald (x := (h4 513 ((x1 * 40) + x3))) dX12_partingBlock_39 (by rw [zl_513]; exact i9) rfl rfl ?_
    refine z_iload dX12_partingBlock_40 rfl rfl ?_
    refine z_iconst dX12_partingBlock_42 rfl ?_
    refine z_isub dX12_partingBlock_43 rfl ?_
    obtain ⟨r1, r2, ka, kb⟩ := k
    refine z_icmp_ne (tgt := 50) dX12_partingBlock_44 rfl r1 r2 rfl ⟨fun q => ?_, fun q => ?_⟩
    · have k := ka q
      refine z_iinc dX12_partingBlock_50 rfl (Nat.le_of_ble_eq_true rfl) (L' := [some (vr 12 466), some (vi l1), some (vi l2), some (vi l3), some (vi l4), some (vi l5), some (vi (l6 + 1))]) rfl rfl ?_
      refine z_goto (tgt := 3) dX12_partingBlock_53 rfl ?_
      exact z_sub (L' := [some (vr 12 466), some (vi l1), some (vi l2), some (vi l3), some (vi l4), some (vi l5), some (vi (l6 + 1))]) (And.intro rfl (And.intro rfl (And.intro rfl (And.intro rfl (And.intro rfl (And.intro rfl (And.intro rfl trivial))))))) k
    · have k := kb q
      refine z_iload dX12_partingBlock_47 rfl rfl ?_
      exact z_ireturn rfl dX12_partingBlock_49 ⟨_, rfl, k⟩
theorem eX12_partingBlock {G : zG} {d : Nat} {K : Int → zH → Prop} {l1 : Int} {l2 : Int} {l3 : Int} {l4 : Int} {l5 : Int} {h : zH} (k : tX12_partingBlock_0 G d K l1 l2 l3 l4 l5 h) : zCi G (d + 1) mX12_partingBlock [vr 12 466, vi l1, vi l2, vi l3, vi l4, vi l5] h K := z_entry (by decide +kernel) (Nat.le_of_ble_eq_true rfl) rfl k
def tX12_sorts_0 (G : zG) (d : Nat) (K : zH → Prop) (l1 : Int) (l2 : Int) (h : zH) : Prop := zTv G (d + 1) mX12_sorts K 0 [some (vr 12 466), some (vi l1), some (vi l2), none, none, none, none] [] h
def tX12_sorts_24 (G : zG) (d : Nat) (K : zH → Prop) (l2 : Int) (l3 : Int) (l4 : Int) (l5 : Int) (h : zH) : Prop := zTv G (d + 1) mX12_sorts K 24 [some (vr 12 466), none, some (vi l2), some (vi l3), some (vi l4), some (vi l5), none] [] h
def tX12_sorts_38 (G : zG) (d : Nat) (K : zH → Prop) (l2 : Int) (l3 : Int) (l4 : Int) (l5 : Int) (l6 : Int) (h : zH) : Prop := zTv G (d + 1) mX12_sorts K 38 [some (vr 12 466), none, some (vi l2), some (vi l3), some (vi l4), some (vi l5), some (vi l6)] [] h
theorem bX12_sorts_0 {G : zG} {d : Nat} {K : zH → Prop} {l1 : Int} {l2 : Int} {h : zH} (k : zCb G d mX12_gathers [vr 12 466, vi l1, vi l2] h (fun x1 h2 => zCv G d mX12_parts [vr 12 466, vi l1, vi l2] h2 (fun h4 => tX12_sorts_24 G d K l2 (l2 * 40) 0 0 h4))) : tX12_sorts_0 G d K l1 l2 h := by
  unfold tX12_sorts_0
  refine z_aload_n 0 dX12_sorts_0 rfl rfl (Nat.le_of_ble_eq_true rfl) rfl ?_
  refine z_iload_n 1 dX12_sorts_1 rfl rfl rfl ?_
  refine z_iload_n 2 dX12_sorts_2 rfl rfl rfl ?_
  refine z_callVb vX12_gathers kX12_521 dX12_sorts_3 rfl (zRo_d d) (as := [vi l1, vi l2]) (rest := []) (Nat.le_of_ble_eq_true rfl) rfl rfl (zCb_mono (fun x1 h2 k => ?_) k)
  refine z_pop dX12_sorts_6 (fun q => by cases q) rfl ?_
  refine z_aload_n 0 dX12_sorts_7 rfl rfl (Nat.le_of_ble_eq_true rfl) rfl ?_
  refine z_iload_n 1 dX12_sorts_8 rfl rfl rfl ?_
  refine z_iload_n 2 dX12_sorts_9 rfl rfl rfl ?_
  refine z_callVv vX12_parts kX12_558 dX12_sorts_10 rfl (zRo_d d) (as := [vi l1, vi l2]) (rest := []) (Nat.le_of_ble_eq_true rfl) rfl rfl (zCv_mono (fun h4 k => ?_) k)
  refine z_iload_n 2 dX12_sorts_13 rfl rfl rfl ?_
  refine z_bipush dX12_sorts_14 rfl rfl ?_
  refine z_imul dX12_sorts_16 rfl ?_
  refine z_istore_n 3 dX12_sorts_17 rfl (Nat.le_of_ble_eq_true rfl) (L' := [some (vr 12 466), some (vi l1), some (vi l2), some (vi (l2 * 40)), none, none, none]) rfl rfl ?_
  refine z_iconst dX12_sorts_18 rfl ?_
  refine z_istore dX12_sorts_19 (Nat.le_of_ble_eq_true rfl) (L' := [some (vr 12 466), some (vi l1), some (vi l2), some (vi (l2 * 40)), some (vi 0), none, none]) rfl rfl ?_
  refine z_iconst dX12_sorts_21 rfl ?_
  refine z_istore dX12_sorts_22 (Nat.le_of_ble_eq_true rfl) (L' := [some (vr 12 466), some (vi l1), some (vi l2), some (vi (l2 * 40)), some (vi 0), some (vi 0), none]) rfl rfl ?_
  exact z_sub (L' := [some (vr 12 466), none, some (vi l2), some (vi (l2 * 40)), some (vi 0), some (vi 0), none]) (And.intro rfl (And.intro rfl (And.intro rfl (And.intro rfl (And.intro rfl trivial))))) k
theorem bX12_sorts_24 {G : zG} {d : Nat} {K : zH → Prop} {l2 : Int} {l3 : Int} {l4 : Int} {l5 : Int} {h : zH} (k : ((0 : Int) ≤ l2 ∧ l2 < 2) ∧ zR l5 ∧ zR (h 506 l2) ∧ ((h 506 l2) ≤ l5 → ((0 : Int) ≤ l2 ∧ l2 < 2) ∧ K (zup h 512 l2 l4)) ∧ (¬ (h 506 l2) ≤ l5 → tX12_sorts_38 G d K l2 l3 l4 l5 0 h)) : tX12_sorts_24 G d K l2 l3 l4 l5 h := by
  unfold tX12_sorts_24
  refine z_iload dX12_sorts_24 rfl rfl ?_
  refine z_aload_n 0 dX12_sorts_26 rfl rfl (Nat.le_of_ble_eq_true rfl) rfl ?_
  refine z_getF 12 13 (x := 506) fX12_133 rfl dX12_sorts_27 rfl rfl ?_
  refine z_iload_n 2 dX12_sorts_30 rfl rfl rfl ?_
  obtain ⟨i9, k⟩ := k
  refine z_iald (x := (h 506 l2)) dX12_sorts_31 (by rw [zl_506]; exact i9) rfl rfl ?_
  obtain ⟨r1, r2, ka, kb⟩ := k
  refine z_icmp_ge (tgt := 116) dX12_sorts_32 rfl r1 r2 rfl ⟨fun q => ?_, fun q => ?_⟩
  · have k := ka q
    refine z_aload_n 0 dX12_sorts_116 rfl rfl (Nat.le_of_ble_eq_true rfl) rfl ?_
    refine z_getF 12 13 (x := 512) fX12_151 rfl dX12_sorts_117 rfl rfl ?_
    refine z_iload_n 2 dX12_sorts_120 rfl rfl rfl ?_
    refine z_iload dX12_sorts_121 rfl rfl ?_
    obtain ⟨i9, k⟩ := k
    refine z_iast dX12_sorts_123 (by rw [zl_512]; exact i9) rfl ?_
    exact z_return rfl dX12_sorts_124 ⟨rfl, k⟩
  · have k := kb q
    refine z_iconst dX12_sorts_35 rfl ?_
    refine z_istore dX12_sorts_36 (Nat.le_of_ble_eq_true rfl) (L' := [some (vr 12 466), none, some (vi l2), some (vi l3), some (vi l4), some (vi l5), some (vi 0)]) rfl rfl ?_
    exact z_sub (L' := [some (vr 12 466), none, some (vi l2), some (vi l3), some (vi l4), some (vi l5), some (vi 0)]) (And.intro rfl (And.intro rfl (And.intro rfl (And.intro rfl (And.intro rfl (And.intro rfl trivial)))))) k
theorem bX12_sorts_38 {G : zG} {d : Nat} {K : zH → Prop} {l2 : Int} {l3 : Int} {l4 : Int} {l5 : Int} {l6 : Int} {h : zH} (k : zR l6 ∧ zR l4 ∧ (l4 ≤ l6 → ((0 : Int) ≤ (l3 + l5) ∧ (l3 + l5) < 80) ∧ zR l6 ∧ zR l4 ∧ (l4 ≤ l6 → ((0 : Int) ≤ (l3 + l4) ∧ (l3 + l4) < 80) ∧ tX12_sorts_24 G d K l2 l3 (l4 + 1) (l5 + 1) (zup (zup h 510 (l3 + l5) l6) 511 (l3 + l4) l5)) ∧ (¬ l4 ≤ l6 → tX12_sorts_24 G d K l2 l3 l4 (l5 + 1) (zup h 510 (l3 + l5) l6))) ∧ (¬ l4 ≤ l6 → ((0 : Int) ≤ (l3 + l6) ∧ (l3 + l6) < 80) ∧ ((0 : Int) ≤ ((l5 * 40) + (h 511 (l3 + l6))) ∧ ((l5 * 40) + (h 511 (l3 + l6))) < 1600) ∧ zR (h 513 ((l5 * 40) + (h 511 (l3 + l6)))) ∧ ((h 513 ((l5 * 40) + (h 511 (l3 + l6)))) = (-1) → ((0 : Int) ≤ (l3 + l5) ∧ (l3 + l5) < 80) ∧ zR l6 ∧ zR l4 ∧ (l4 ≤ l6 → ((0 : Int) ≤ (l3 + l4) ∧ (l3 + l4) < 80) ∧ tX12_sorts_24 G d K l2 l3 (l4 + 1) (l5 + 1) (zup (zup h 510 (l3 + l5) l6) 511 (l3 + l4) l5)) ∧ (¬ l4 ≤ l6 → tX12_sorts_24 G d K l2 l3 l4 (l5 + 1) (zup h 510 (l3 + l5) l6))) ∧ (¬ (h 513 ((l5 * 40) + (h 511 (l3 + l6)))) = (-1) → tX12_sorts_38 G d K l2 l3 l4 l5 (l6 + 1) h))) : tX12_sorts_38 G d K l2 l3 l4 l5 l6 h := by
  unfold tX12_sorts_38
  refine z_iload dX12_sorts_38 rfl rfl ?_
  refine z_iload dX12_sorts_40 rfl rfl ?_
  obtain ⟨r1, r2, ka, kb⟩ := k
  refine z_icmp_ge (tgt := 75) dX12_sorts_42 rfl r1 r2 rfl ⟨fun q => ?_, fun q => ?_⟩
  · have k := ka q
    refine z_aload_n 0 dX12_sorts_75 rfl rfl (Nat.le_of_ble_eq_true rfl) rfl ?_
    refine z_getF 12 13 (x := 510) fX12_145 rfl dX12_sorts_76 rfl rfl ?_
    refine z_iload_n 3 dX12_sorts_79 rfl rfl rfl ?_
    refine z_iload dX12_sorts_80 rfl rfl ?_
    refine z_iadd dX12_sorts_82 rfl ?_
    refine z_iload dX12_sorts_83 rfl rfl ?_
    obtain ⟨i9, k⟩ := k
    refine z_iast dX12_sorts_85 (by rw [zl_510]; exact i9) rfl ?_
    refine z_iload dX12_sorts_86 rfl rfl ?_
    refine z_iload dX12_sorts_88 rfl rfl ?_
    obtain ⟨r1, r2, ka, kb⟩ := k
    refine z_icmp_ge (tgt := 96) dX12_sorts_90 rfl r1 r2 rfl ⟨fun q => ?_, fun q => ?_⟩
    · have k := ka q
      refine z_aload_n 0 dX12_sorts_96 rfl rfl (Nat.le_of_ble_eq_true rfl) rfl ?_
      refine z_getF 12 13 (x := 511) fX12_148 rfl dX12_sorts_97 rfl rfl ?_
      refine z_iload_n 3 dX12_sorts_100 rfl rfl rfl ?_
      refine z_iload dX12_sorts_101 rfl rfl ?_
      refine z_iadd dX12_sorts_103 rfl ?_
      refine z_iload dX12_sorts_104 rfl rfl ?_
      obtain ⟨i9, k⟩ := k
      refine z_iast dX12_sorts_106 (by rw [zl_511]; exact i9) rfl ?_
      refine z_iinc dX12_sorts_107 rfl (Nat.le_of_ble_eq_true rfl) (L' := [some (vr 12 466), none, some (vi l2), some (vi l3), some (vi (l4 + 1)), some (vi l5), some (vi l6)]) rfl rfl ?_
      refine z_iinc dX12_sorts_110 rfl (Nat.le_of_ble_eq_true rfl) (L' := [some (vr 12 466), none, some (vi l2), some (vi l3), some (vi (l4 + 1)), some (vi (l5 + 1)), some (vi l6)]) rfl rfl ?_
      refine z_goto (tgt := 24) dX12_sorts_113 rfl ?_
      exact z_sub (L' := [some (vr 12 466), none, some (vi l2), some (vi l3), some (vi (l4 + 1)), some (vi (l5 + 1)), none]) (And.intro rfl (And.intro rfl (And.intro rfl (And.intro rfl (And.intro rfl trivial))))) k
    · have k := kb q
      refine z_goto (tgt := 110) dX12_sorts_93 rfl ?_
      refine z_iinc dX12_sorts_110 rfl (Nat.le_of_ble_eq_true rfl) (L' := [some (vr 12 466), none, some (vi l2), some (vi l3), some (vi l4), some (vi (l5 + 1)), some (vi l6)]) rfl rfl ?_
      refine z_goto (tgt := 24) dX12_sorts_113 rfl ?_
      exact z_sub (L' := [some (vr 12 466), none, some (vi l2), some (vi l3), some (vi l4), some (vi (l5 + 1)), none]) (And.intro rfl (And.intro rfl (And.intro rfl (And.intro rfl (And.intro rfl trivial))))) k
  · have k := kb q
    refine z_aload_n 0 dX12_sorts_45 rfl rfl (Nat.le_of_ble_eq_true rfl) rfl ?_
    refine z_getF 12 13 (x := 513) fX12_154 rfl dX12_sorts_46 rfl rfl ?_
    refine z_iload dX12_sorts_49 rfl rfl ?_
    refine z_bipush dX12_sorts_51 rfl rfl ?_
    refine z_imul dX12_sorts_53 rfl ?_
    refine z_aload_n 0 dX12_sorts_54 rfl rfl (Nat.le_of_ble_eq_true rfl) rfl ?_
    refine z_getF 12 13 (x := 511) fX12_148 rfl dX12_sorts_55 rfl rfl ?_
    refine z_iload_n 3 dX12_sorts_58 rfl rfl rfl ?_
    refine z_iload dX12_sorts_59 rfl rfl ?_
    refine z_iadd dX12_sorts_61 rfl ?_
    obtain ⟨i9, k⟩ := k
    refine z_iald (x := (h 511 (l3 + l6))) dX12_sorts_62 (by rw [zl_511]; exact i9) rfl rfl ?_
    refine z_iadd dX12_sorts_63 rfl ?_
    obtain ⟨i9, k⟩ := k
    refine z_iald (x := (h 513 ((l5 * 40) + (h 511 (l3 + l6))))) dX12_sorts_64 (by rw [zl_513]; exact i9) rfl rfl ?_
    refine z_iconst dX12_sorts_65 rfl ?_
    obtain ⟨r1, ka, kb⟩ := k
    refine z_icmp_eq (tgt := 75) dX12_sorts_66 rfl r1 ⟨by decide, by decide⟩ rfl ⟨fun q => ?_, fun q => ?_⟩
    · have k := ka q
      refine z_aload_n 0 dX12_sorts_75 rfl rfl (Nat.le_of_ble_eq_true rfl) rfl ?_
      refine z_getF 12 13 (x := 510) fX12_145 rfl dX12_sorts_76 rfl rfl ?_
      refine z_iload_n 3 dX12_sorts_79 rfl rfl rfl ?_
      refine z_iload dX12_sorts_80 rfl rfl ?_
      refine z_iadd dX12_sorts_82 rfl ?_
      refine z_iload dX12_sorts_83 rfl rfl ?_
      obtain ⟨i9, k⟩ := k
      refine z_iast dX12_sorts_85 (by rw [zl_510]; exact i9) rfl ?_
      refine z_iload dX12_sorts_86 rfl rfl ?_
      refine z_iload dX12_sorts_88 rfl rfl ?_
      obtain ⟨r1, r2, ka, kb⟩ := k
      refine z_icmp_ge (tgt := 96) dX12_sorts_90 rfl r1 r2 rfl ⟨fun q => ?_, fun q => ?_⟩
      · have k := ka q
        refine z_aload_n 0 dX12_sorts_96 rfl rfl (Nat.le_of_ble_eq_true rfl) rfl ?_
        refine z_getF 12 13 (x := 511) fX12_148 rfl dX12_sorts_97 rfl rfl ?_
        refine z_iload_n 3 dX12_sorts_100 rfl rfl rfl ?_
        refine z_iload dX12_sorts_101 rfl rfl ?_
        refine z_iadd dX12_sorts_103 rfl ?_
        refine z_iload dX12_sorts_104 rfl rfl ?_
        obtain ⟨i9, k⟩ := k
        refine z_iast dX12_sorts_106 (by rw [zl_511]; exact i9) rfl ?_
        refine z_iinc dX12_sorts_107 rfl (Nat.le_of_ble_eq_true rfl) (L' := [some (vr 12 466), none, some (vi l2), some (vi l3), some (vi (l4 + 1)), some (vi l5), some (vi l6)]) rfl rfl ?_
        refine z_iinc dX12_sorts_110 rfl (Nat.le_of_ble_eq_true rfl) (L' := [some (vr 12 466), none, some (vi l2), some (vi l3), some (vi (l4 + 1)), some (vi (l5 + 1)), some (vi l6)]) rfl rfl ?_
        refine z_goto (tgt := 24) dX12_sorts_113 rfl ?_
        exact z_sub (L' := [some (vr 12 466), none, some (vi l2), some (vi l3), some (vi (l4 + 1)), some (vi (l5 + 1)), none]) (And.intro rfl (And.intro rfl (And.intro rfl (And.intro rfl (And.intro rfl trivial))))) k
      · have k := kb q
        refine z_goto (tgt := 110) dX12_sorts_93 rfl ?_
        refine z_iinc dX12_sorts_110 rfl (Nat.le_of_ble_eq_true rfl) (L' := [some (vr 12 466), none, some (vi l2), some (vi l3), some (vi l4), some (vi (l5 + 1)), some (vi l6)]) rfl rfl ?_
        refine z_goto (tgt := 24) dX12_sorts_113 rfl ?_
        exact z_sub (L' := [some (vr 12 466), none, some (vi l2), some (vi l3), some (vi l4), some (vi (l5 + 1)), none]) (And.intro rfl (And.intro rfl (And.intro rfl (And.intro rfl (And.intro rfl trivial))))) k
    · have k := kb q
      refine z_iinc dX12_sorts_69 rfl (Nat.le_of_ble_eq_true rfl) (L' := [some (vr 12 466), none, some (vi l2), some (vi l3), some (vi l4), some (vi l5), some (vi (l6 + 1))]) rfl rfl ?_
      refine z_goto (tgt := 38) dX12_sorts_72 rfl ?_
      exact z_sub (L' := [some (vr 12 466), none, some (vi l2), some (vi l3), some (vi l4), some (vi l5), some (vi (l6 + 1))]) (And.intro rfl (And.intro rfl (And.intro rfl (And.intro rfl (And.intro rfl (And.intro rfl trivial)))))) k
theorem eX12_sorts {G : zG} {d : Nat} {K : zH → Prop} {l1 : Int} {l2 : Int} {h : zH} (k : tX12_sorts_0 G d K l1 l2 h) : zCv G (d + 1) mX12_sorts [vr 12 466, vi l1, vi l2] h K := z_entry (by decide +kernel) (Nat.le_of_ble_eq_true rfl) rfl k
def tX12_classGoes_0 (G : zG) (d : Nat) (K : Int → zH → Prop) (l1 : Int) (l2 : Int) (l3 : Int) (h : zH) : Prop := zTi G (d + 1) mX12_classGoes K 0 [some (vr 12 466), some (vi l1), some (vi l2), some (vi l3)] [] h
theorem bX12_classGoes_0 {G : zG} {d : Nat} {K : Int → zH → Prop} {l1 : Int} {l2 : Int} {l3 : Int} {h : zH} (k : ((0 : Int) ≤ ((l1 * 40) + l2) ∧ ((l1 * 40) + l2) < 80) ∧ zCi G d mX12_goesTo [vr 12 466, vi l1, vi (h 511 ((l1 * 40) + l2)), vi l3] h (fun x1 h2 => ((0 : Int) ≤ ((l1 * 40) + x1) ∧ ((l1 * 40) + x1) < 80) ∧ K (h2 510 ((l1 * 40) + x1)) h2)) : tX12_classGoes_0 G d K l1 l2 l3 h := by
  unfold tX12_classGoes_0
  refine z_aload_n 0 dX12_classGoes_0 rfl rfl (Nat.le_of_ble_eq_true rfl) rfl ?_
  refine z_getF 12 13 (x := 510) fX12_145 rfl dX12_classGoes_1 rfl rfl ?_
  refine z_iload_n 1 dX12_classGoes_4 rfl rfl rfl ?_
  refine z_bipush dX12_classGoes_5 rfl rfl ?_
  refine z_imul dX12_classGoes_7 rfl ?_
  refine z_aload_n 0 dX12_classGoes_8 rfl rfl (Nat.le_of_ble_eq_true rfl) rfl ?_
  refine z_iload_n 1 dX12_classGoes_9 rfl rfl rfl ?_
  refine z_aload_n 0 dX12_classGoes_10 rfl rfl (Nat.le_of_ble_eq_true rfl) rfl ?_
  refine z_getF 12 13 (x := 511) fX12_148 rfl dX12_classGoes_11 rfl rfl ?_
  refine z_iload_n 1 dX12_classGoes_14 rfl rfl rfl ?_
  refine z_bipush dX12_classGoes_15 rfl rfl ?_
  refine z_imul dX12_classGoes_17 rfl ?_
  refine z_iload_n 2 dX12_classGoes_18 rfl rfl rfl ?_
  refine z_iadd dX12_classGoes_19 rfl ?_
  obtain ⟨i9, k⟩ := k
  refine z_iald (x := (h 511 ((l1 * 40) + l2))) dX12_classGoes_20 (by rw [zl_511]; exact i9) rfl rfl ?_
  refine z_iload_n 3 dX12_classGoes_21 rfl rfl rfl ?_
  refine z_callVi vX12_goesTo kX12_555 dX12_classGoes_22 rfl (zRo_d d) (as := [vi l1, vi (h 511 ((l1 * 40) + l2)), vi l3]) (rest := [vi (l1 * 40), vr 13 510]) (Nat.le_of_ble_eq_true rfl) rfl rfl (zCi_mono (fun x1 h2 k => ?_) k)
  refine z_iadd dX12_classGoes_25 rfl ?_
  obtain ⟨i9, k⟩ := k
  refine z_iald (x := (h2 510 ((l1 * 40) + x1))) dX12_classGoes_26 (by rw [zl_510]; exact i9) rfl rfl ?_
  exact z_ireturn rfl dX12_classGoes_27 ⟨_, rfl, k⟩
theorem eX12_classGoes {G : zG} {d : Nat} {K : Int → zH → Prop} {l1 : Int} {l2 : Int} {l3 : Int} {h : zH} (k : tX12_classGoes_0 G d K l1 l2 l3 h) : zCi G (d + 1) mX12_classGoes [vr 12 466, vi l1, vi l2, vi l3] h K := z_entry (by decide +kernel) (Nat.le_of_ble_eq_true rfl) rfl k
def tX12_classEnds_0 (G : zG) (d : Nat) (K : Bool → zH → Prop) (l1 : Int) (l2 : Int) (l3 : Int) (h : zH) : Prop := zTb G (d + 1) mX12_classEnds K 0 [some (vr 12 466), some (vi l1), some (vi l2), some (vi l3)] [] h
theorem bX12_classEnds_0 {G : zG} {d : Nat} {K : Bool → zH → Prop} {l1 : Int} {l2 : Int} {l3 : Int} {h : zH} (k : ((0 : Int) ≤ ((l2 * 40) + l3) ∧ ((l2 * 40) + l3) < 80) ∧ zCb G d mX12_sheafEnds [vr 12 466, vi l1, vi l2, vi (h 511 ((l2 * 40) + l3))] h (fun x1 h2 => K x1 h2)) : tX12_classEnds_0 G d K l1 l2 l3 h := by
  unfold tX12_classEnds_0
  refine z_aload_n 0 dX12_classEnds_0 rfl rfl (Nat.le_of_ble_eq_true rfl) rfl ?_
  refine z_iload_n 1 dX12_classEnds_1 rfl rfl rfl ?_
  refine z_iload_n 2 dX12_classEnds_2 rfl rfl rfl ?_
  refine z_aload_n 0 dX12_classEnds_3 rfl rfl (Nat.le_of_ble_eq_true rfl) rfl ?_
  refine z_getF 12 13 (x := 511) fX12_148 rfl dX12_classEnds_4 rfl rfl ?_
  refine z_iload_n 2 dX12_classEnds_7 rfl rfl rfl ?_
  refine z_bipush dX12_classEnds_8 rfl rfl ?_
  refine z_imul dX12_classEnds_10 rfl ?_
  refine z_iload_n 3 dX12_classEnds_11 rfl rfl rfl ?_
  refine z_iadd dX12_classEnds_12 rfl ?_
  obtain ⟨i9, k⟩ := k
  refine z_iald (x := (h 511 ((l2 * 40) + l3))) dX12_classEnds_13 (by rw [zl_511]; exact i9) rfl rfl ?_
  refine z_callVb vX12_sheafEnds kX12_542 dX12_classEnds_14 rfl (zRo_d d) (as := [vi l1, vi l2, vi (h 511 ((l2 * 40) + l3))]) (rest := []) (Nat.le_of_ble_eq_true rfl) rfl rfl (zCb_mono (fun x1 h2 k => ?_) k)
  exact z_zreturn rfl (bi_01 _) dX12_classEnds_17 ⟨_, rfl, k⟩
theorem eX12_classEnds {G : zG} {d : Nat} {K : Bool → zH → Prop} {l1 : Int} {l2 : Int} {l3 : Int} {h : zH} (k : tX12_classEnds_0 G d K l1 l2 l3 h) : zCb G (d + 1) mX12_classEnds [vr 12 466, vi l1, vi l2, vi l3] h K := z_entry (by decide +kernel) (Nat.le_of_ble_eq_true rfl) rfl k
def tX12_isMachine_0 (G : zG) (d : Nat) (K : Bool → zH → Prop) (l1 : Int) (h : zH) : Prop := zTb G d mX12_isMachine K 0 [some (vr 12 466), some (vi l1)] [] h
theorem bX12_isMachine_0 {G : zG} {d : Nat} {K : Bool → zH → Prop} {l1 : Int} {h : zH} (k : zR l1 ∧ (l1 < 0 → K false h) ∧ (¬ l1 < 0 → zR l1 ∧ zR (h 466 64) ∧ ((h 466 64) ≤ l1 → K false h) ∧ (¬ (h 466 64) ≤ l1 → K true h))) : tX12_isMachine_0 G d K l1 h := by
  unfold tX12_isMachine_0
  refine z_iload_n 1 dX12_isMachine_0 rfl rfl rfl ?_
  obtain ⟨r1, ka, kb⟩ := k
  refine z_if_lt (tgt := 16) dX12_isMachine_1 rfl r1 rfl ⟨fun q => ?_, fun q => ?_⟩
  · have k := ka q
    refine z_iconst dX12_isMachine_16 rfl ?_
    exact z_zreturn rfl (Or.inl rfl) dX12_isMachine_17 ⟨false, rfl, k⟩
  · have k := kb q
    refine z_iload_n 1 dX12_isMachine_4 rfl rfl rfl ?_
    refine z_aload_n 0 dX12_isMachine_5 rfl rfl (Nat.le_of_ble_eq_true rfl) rfl ?_
    refine z_getI 12 (x := (h 466 64)) fX12_441 rfl dX12_isMachine_6 rfl rfl ?_
    obtain ⟨r1, r2, ka, kb⟩ := k
    refine z_icmp_ge (tgt := 16) dX12_isMachine_9 rfl r1 r2 rfl ⟨fun q => ?_, fun q => ?_⟩
    · have k := ka q
      refine z_iconst dX12_isMachine_16 rfl ?_
      exact z_zreturn rfl (Or.inl rfl) dX12_isMachine_17 ⟨false, rfl, k⟩
    · have k := kb q
      refine z_iconst dX12_isMachine_12 rfl ?_
      refine z_goto (tgt := 17) dX12_isMachine_13 rfl ?_
      exact z_zreturn rfl (Or.inr rfl) dX12_isMachine_17 ⟨true, rfl, k⟩
theorem eX12_isMachine {G : zG} {d : Nat} {K : Bool → zH → Prop} {l1 : Int} {h : zH} (k : tX12_isMachine_0 G d K l1 h) : zCb G d mX12_isMachine [vr 12 466, vi l1] h K := z_entry (by decide +kernel) (Nat.le_of_ble_eq_true rfl) rfl k
def tX12_bitsIn_0 (G : zG) (d : Nat) (K : Int → zH → Prop) (l0 : Int) (h : zH) : Prop := zTi G (d + 1) mX12_bitsIn K 0 [some (vl l0), none, none, none] [] h
def tX12_bitsIn_4 (G : zG) (d : Nat) (K : Int → zH → Prop) (l0 : Int) (l2 : Int) (l3 : Int) (h : zH) : Prop := zTi G (d + 1) mX12_bitsIn K 4 [some (vl l0), none, some (vi l2), some (vi l3)] [] h
theorem bX12_bitsIn_0 {G : zG} {d : Nat} {K : Int → zH → Prop} {l0 : Int} {h : zH} (k : tX12_bitsIn_4 G d K l0 0 0 h) : tX12_bitsIn_0 G d K l0 h := by
  unfold tX12_bitsIn_0
  refine z_iconst dX12_bitsIn_0 rfl ?_
  refine z_istore_n 2 dX12_bitsIn_1 rfl (Nat.le_of_ble_eq_true rfl) (L' := [some (vl l0), none, some (vi 0), none]) rfl rfl ?_
  refine z_iconst dX12_bitsIn_2 rfl ?_
  refine z_istore_n 3 dX12_bitsIn_3 rfl (Nat.le_of_ble_eq_true rfl) (L' := [some (vl l0), none, some (vi 0), some (vi 0)]) rfl rfl ?_
  exact z_sub (L' := [some (vl l0), none, some (vi 0), some (vi 0)]) (And.intro rfl (And.intro rfl (And.intro rfl trivial))) k
theorem bX12_bitsIn_4 {G : zG} {d : Nat} {K : Int → zH → Prop} {l0 : Int} {l2 : Int} {l3 : Int} {h : zH} (k : zR l3 ∧ (64 ≤ l3 → K l2 h) ∧ (¬ 64 ≤ l3 → zCb G d mX12_bit [vl l0, vi l3] h (fun x1 h2 => (x1 = false → tX12_bitsIn_4 G d K l0 (l2 + 0) (l3 + 1) h2) ∧ (x1 = true → tX12_bitsIn_4 G d K l0 (l2 + 1) (l3 + 1) h2)))) : tX12_bitsIn_4 G d K l0 l2 l3 h := by
  unfold tX12_bitsIn_4
  refine z_iload_n 3 dX12_bitsIn_4 rfl rfl rfl ?_
  refine z_bipush dX12_bitsIn_5 rfl rfl ?_
  obtain ⟨r1, ka, kb⟩ := k
  refine z_icmp_ge (tgt := 32) dX12_bitsIn_7 rfl r1 ⟨by decide, by decide⟩ rfl ⟨fun q => ?_, fun q => ?_⟩
  · have k := ka q
    refine z_iload_n 2 dX12_bitsIn_32 rfl rfl rfl ?_
    exact z_ireturn rfl dX12_bitsIn_33 ⟨_, rfl, k⟩
  · have k := kb q
    refine z_iload_n 2 dX12_bitsIn_10 rfl rfl rfl ?_
    refine z_lload_n 0 dX12_bitsIn_11 rfl rfl rfl ?_
    refine z_iload_n 3 dX12_bitsIn_12 rfl rfl rfl ?_
    refine z_callSb sX12_bit kX12_366 dX12_bitsIn_13 rfl (zRo_d d) (as := [vl l0, vi l3]) (rest := [vi l2]) (Nat.le_of_ble_eq_true rfl) rfl rfl (zCb_mono (fun x1 h2 k => ?_) k)
    obtain ⟨ka, kb⟩ := k
    refine z_ifb_eq (tgt := 23) dX12_bitsIn_16 rfl rfl ⟨fun q => ?_, fun q => ?_⟩
    · have k := ka q
      refine z_iconst dX12_bitsIn_23 rfl ?_
      refine z_iadd dX12_bitsIn_24 rfl ?_
      refine z_istore_n 2 dX12_bitsIn_25 rfl (Nat.le_of_ble_eq_true rfl) (L' := [some (vl l0), none, some (vi (l2 + 0)), some (vi l3)]) rfl rfl ?_
      refine z_iinc dX12_bitsIn_26 rfl (Nat.le_of_ble_eq_true rfl) (L' := [some (vl l0), none, some (vi (l2 + 0)), some (vi (l3 + 1))]) rfl rfl ?_
      refine z_goto (tgt := 4) dX12_bitsIn_29 rfl ?_
      exact z_sub (L' := [some (vl l0), none, some (vi (l2 + 0)), some (vi (l3 + 1))]) (And.intro rfl (And.intro rfl (And.intro rfl trivial))) k
    · have k := kb q
      refine z_iconst dX12_bitsIn_19 rfl ?_
      refine z_goto (tgt := 24) dX12_bitsIn_20 rfl ?_
      refine z_iadd dX12_bitsIn_24 rfl ?_
      refine z_istore_n 2 dX12_bitsIn_25 rfl (Nat.le_of_ble_eq_true rfl) (L' := [some (vl l0), none, some (vi (l2 + 1)), some (vi l3)]) rfl rfl ?_
      refine z_iinc dX12_bitsIn_26 rfl (Nat.le_of_ble_eq_true rfl) (L' := [some (vl l0), none, some (vi (l2 + 1)), some (vi (l3 + 1))]) rfl rfl ?_
      refine z_goto (tgt := 4) dX12_bitsIn_29 rfl ?_
      exact z_sub (L' := [some (vl l0), none, some (vi (l2 + 1)), some (vi (l3 + 1))]) (And.intro rfl (And.intro rfl (And.intro rfl trivial))) k
theorem eX12_bitsIn {G : zG} {d : Nat} {K : Int → zH → Prop} {l0 : Int} {h : zH} (k : tX12_bitsIn_0 G d K l0 h) : zCi G (d + 1) mX12_bitsIn [vl l0] h K := z_entry (by decide +kernel) (Nat.le_of_ble_eq_true rfl) rfl k
def tX12_size_0 (G : zG) (d : Nat) (K : Int → zH → Prop) (l1 : Int) (l2 : Int) (h : zH) : Prop := zTi G (d + 1) mX12_size K 0 [some (vr 12 466), some (vi l1), some (vi l2)] [] h
theorem bX12_size_0 {G : zG} {d : Nat} {K : Int → zH → Prop} {l1 : Int} {l2 : Int} {h : zH} (k : zCb G d mX12_isMachine [vr 12 466, vi l1] (zup h 466 0 0) (fun x1 h2 => (x1 = false → zCi G d mX12_refused [vr 12 466, vi 1] h2 (fun x3 h4 => K x3 h4)) ∧ (x1 = true → zCb G d mX12_in [vi l2, vi 0, vi 6] h2 (fun x5 h6 => (x5 = true → zR l2 ∧ (l2 < 0 ∨ 5 < l2 → zCv G d mX12_sorts [vr 12 466, vi l1, vi 0] h6 (fun h8 => zR l2 ∧ (¬ l2 = 4 → zCi G d mX12_good [vr 12 466, vi (h8 512 0)] h8 (fun x9 h10 => K x9 h10)) ∧ (l2 = 4 → zCi G d mX12_good [vr 12 466, vi (h8 506 0)] h8 (fun x11 h12 => K x11 h12)))) ∧ (l2 = 0 → ((0 : Int) ≤ l1 ∧ l1 < 14) ∧ zCi G d mX12_good [vr 12 466, vi (h6 493 l1)] h6 (fun x13 h14 => K x13 h14)) ∧ (l2 = 1 → ((0 : Int) ≤ l1 ∧ l1 < 14) ∧ zCi G d mX12_good [vr 12 466, vi (h6 494 l1)] h6 (fun x15 h16 => K x15 h16)) ∧ (l2 = 2 → ((0 : Int) ≤ l1 ∧ l1 < 14) ∧ zCi G d mX12_good [vr 12 466, vi (h6 495 l1)] h6 (fun x17 h18 => K x17 h18)) ∧ (l2 = 3 → ((0 : Int) ≤ l1 ∧ l1 < 14) ∧ zCi G d mX12_bitsIn [vl (h6 502 l1)] h6 (fun x19 h20 => zCi G d mX12_good [vr 12 466, vi x19] h20 (fun x21 h22 => K x21 h22))) ∧ (l2 = 4 → zCv G d mX12_sorts [vr 12 466, vi l1, vi 0] h6 (fun h24 => zR l2 ∧ (¬ l2 = 4 → zCi G d mX12_good [vr 12 466, vi (h24 512 0)] h24 (fun x25 h26 => K x25 h26)) ∧ (l2 = 4 → zCi G d mX12_good [vr 12 466, vi (h24 506 0)] h24 (fun x27 h28 => K x27 h28)))) ∧ (l2 = 5 → ((0 : Int) ≤ l1 ∧ l1 < 14) ∧ zCi G d mX12_good [vr 12 466, vi (h6 496 l1)] h6 (fun x29 h30 => K x29 h30))) ∧ (x5 = false → zCi G d mX12_refused [vr 12 466, vi 1] h6 (fun x31 h32 => K x31 h32)))))) : tX12_size_0 G d K l1 l2 h := by
  unfold tX12_size_0
  refine z_aload_n 0 dX12_size_0 rfl rfl (Nat.le_of_ble_eq_true rfl) rfl ?_
  refine z_iconst dX12_size_1 rfl ?_
  refine z_putI 12 gX12_190 dX12_size_2 rfl ?_
  refine z_aload_n 0 dX12_size_5 rfl rfl (Nat.le_of_ble_eq_true rfl) rfl ?_
  refine z_iload_n 1 dX12_size_6 rfl rfl rfl ?_
  refine z_callVb vX12_isMachine kX12_561 dX12_size_7 rfl (zRo_d d) (as := [vi l1]) (rest := []) (Nat.le_of_ble_eq_true rfl) rfl rfl (zCb_mono (fun x1 h2 k => ?_) k)
  obtain ⟨ka, kb⟩ := k
  refine z_ifb_eq (tgt := 23) dX12_size_10 rfl rfl ⟨fun q => ?_, fun q => ?_⟩
  · have k := ka q
    refine z_aload_n 0 dX12_size_23 rfl rfl (Nat.le_of_ble_eq_true rfl) rfl ?_
    refine z_iconst dX12_size_24 rfl ?_
    refine z_callVi vX12_refused kX12_426 dX12_size_25 rfl (zRo_d d) (as := [vi 1]) (rest := []) (Nat.le_of_ble_eq_true rfl) rfl rfl (zCi_mono (fun x3 h4 k => ?_) k)
    exact z_ireturn rfl dX12_size_28 ⟨_, rfl, k⟩
  · have k := kb q
    refine z_iload_n 2 dX12_size_13 rfl rfl rfl ?_
    refine z_iconst dX12_size_14 rfl ?_
    refine z_bipush dX12_size_15 rfl rfl ?_
    refine z_callSb sX12_in kX12_201 dX12_size_17 rfl (zRo_d d) (as := [vi l2, vi 0, vi 6]) (rest := []) (Nat.le_of_ble_eq_true rfl) rfl rfl (zCb_mono (fun x5 h6 k => ?_) k)
    obtain ⟨ka, kb⟩ := k
    refine z_ifb_ne (tgt := 29) dX12_size_20 rfl rfl ⟨fun q => ?_, fun q => ?_⟩
    · have k := ka q
      refine z_iload_n 2 dX12_size_29 rfl rfl rfl ?_
      obtain ⟨r1, kd, k_0, k_1, k_2, k_3, k_4, k_5⟩ := k
      refine z_table (dt := 126) (ts := [68, 79, 90, 101, 126, 115]) dX12_size_30 r1 rfl rfl rfl ⟨fun q => ?_, fun i t hi q => ?_⟩
      · have k := kd q
        refine z_aload_n 0 dX12_size_126 rfl rfl (Nat.le_of_ble_eq_true rfl) rfl ?_
        refine z_iload_n 1 dX12_size_127 rfl rfl rfl ?_
        refine z_iconst dX12_size_128 rfl ?_
        refine z_callVv vX12_sorts kX12_568 dX12_size_129 rfl (zRo_d d) (as := [vi l1, vi 0]) (rest := []) (Nat.le_of_ble_eq_true rfl) rfl rfl (zCv_mono (fun h8 k => ?_) k)
        refine z_aload_n 0 dX12_size_132 rfl rfl (Nat.le_of_ble_eq_true rfl) rfl ?_
        refine z_iload_n 2 dX12_size_133 rfl rfl rfl ?_
        refine z_iconst dX12_size_134 rfl ?_
        obtain ⟨r1, ka, kb⟩ := k
        refine z_icmp_ne (tgt := 147) dX12_size_135 rfl r1 ⟨by decide, by decide⟩ rfl ⟨fun q => ?_, fun q => ?_⟩
        · have k := ka q
          refine z_aload_n 0 dX12_size_147 rfl rfl (Nat.le_of_ble_eq_true rfl) rfl ?_
          refine z_getF 12 13 (x := 512) fX12_151 rfl dX12_size_148 rfl rfl ?_
          refine z_iconst dX12_size_151 rfl ?_
          refine z_iald (x := (h8 512 0)) dX12_size_152 (by rw [zl_512]; decide) rfl rfl ?_
          refine z_callVi vX12_good kX12_196 dX12_size_153 rfl (zRo_d d) (as := [vi (h8 512 0)]) (rest := []) (Nat.le_of_ble_eq_true rfl) rfl rfl (zCi_mono (fun x9 h10 k => ?_) k)
          exact z_ireturn rfl dX12_size_156 ⟨_, rfl, k⟩
        · have k := kb q
          refine z_aload_n 0 dX12_size_138 rfl rfl (Nat.le_of_ble_eq_true rfl) rfl ?_
          refine z_getF 12 13 (x := 506) fX12_133 rfl dX12_size_139 rfl rfl ?_
          refine z_iconst dX12_size_142 rfl ?_
          refine z_iald (x := (h8 506 0)) dX12_size_143 (by rw [zl_506]; decide) rfl rfl ?_
          refine z_goto (tgt := 153) dX12_size_144 rfl ?_
          refine z_callVi vX12_good kX12_196 dX12_size_153 rfl (zRo_d d) (as := [vi (h8 506 0)]) (rest := []) (Nat.le_of_ble_eq_true rfl) rfl rfl (zCi_mono (fun x11 h12 k => ?_) k)
          exact z_ireturn rfl dX12_size_156 ⟨_, rfl, k⟩
      · match i, hi, q with
        | 0, hi, q =>
          cases hi
          have k := k_0 (by omega)
          refine z_aload_n 0 dX12_size_68 rfl rfl (Nat.le_of_ble_eq_true rfl) rfl ?_
          refine z_aload_n 0 dX12_size_69 rfl rfl (Nat.le_of_ble_eq_true rfl) rfl ?_
          refine z_getF 12 13 (x := 493) fX12_94 rfl dX12_size_70 rfl rfl ?_
          refine z_iload_n 1 dX12_size_73 rfl rfl rfl ?_
          obtain ⟨i9, k⟩ := k
          refine z_iald (x := (h6 493 l1)) dX12_size_74 (by rw [zl_493]; exact i9) rfl rfl ?_
          refine z_callVi vX12_good kX12_196 dX12_size_75 rfl (zRo_d d) (as := [vi (h6 493 l1)]) (rest := []) (Nat.le_of_ble_eq_true rfl) rfl rfl (zCi_mono (fun x13 h14 k => ?_) k)
          exact z_ireturn rfl dX12_size_78 ⟨_, rfl, k⟩
        | 1, hi, q =>
          cases hi
          have k := k_1 (by omega)
          refine z_aload_n 0 dX12_size_79 rfl rfl (Nat.le_of_ble_eq_true rfl) rfl ?_
          refine z_aload_n 0 dX12_size_80 rfl rfl (Nat.le_of_ble_eq_true rfl) rfl ?_
          refine z_getF 12 13 (x := 494) fX12_97 rfl dX12_size_81 rfl rfl ?_
          refine z_iload_n 1 dX12_size_84 rfl rfl rfl ?_
          obtain ⟨i9, k⟩ := k
          refine z_iald (x := (h6 494 l1)) dX12_size_85 (by rw [zl_494]; exact i9) rfl rfl ?_
          refine z_callVi vX12_good kX12_196 dX12_size_86 rfl (zRo_d d) (as := [vi (h6 494 l1)]) (rest := []) (Nat.le_of_ble_eq_true rfl) rfl rfl (zCi_mono (fun x15 h16 k => ?_) k)
          exact z_ireturn rfl dX12_size_89 ⟨_, rfl, k⟩
        | 2, hi, q =>
          cases hi
          have k := k_2 (by omega)
          refine z_aload_n 0 dX12_size_90 rfl rfl (Nat.le_of_ble_eq_true rfl) rfl ?_
          refine z_aload_n 0 dX12_size_91 rfl rfl (Nat.le_of_ble_eq_true rfl) rfl ?_
          refine z_getF 12 13 (x := 495) fX12_100 rfl dX12_size_92 rfl rfl ?_
          refine z_iload_n 1 dX12_size_95 rfl rfl rfl ?_
          obtain ⟨i9, k⟩ := k
          refine z_iald (x := (h6 495 l1)) dX12_size_96 (by rw [zl_495]; exact i9) rfl rfl ?_
          refine z_callVi vX12_good kX12_196 dX12_size_97 rfl (zRo_d d) (as := [vi (h6 495 l1)]) (rest := []) (Nat.le_of_ble_eq_true rfl) rfl rfl (zCi_mono (fun x17 h18 k => ?_) k)
          exact z_ireturn rfl dX12_size_100 ⟨_, rfl, k⟩
        | 3, hi, q =>
          cases hi
          have k := k_3 (by omega)
          refine z_aload_n 0 dX12_size_101 rfl rfl (Nat.le_of_ble_eq_true rfl) rfl ?_
          refine z_aload_n 0 dX12_size_102 rfl rfl (Nat.le_of_ble_eq_true rfl) rfl ?_
          refine z_getF 12 14 (x := 502) fX12_121 rfl dX12_size_103 rfl rfl ?_
          refine z_iload_n 1 dX12_size_106 rfl rfl rfl ?_
          obtain ⟨i9, k⟩ := k
          refine z_lald (x := (h6 502 l1)) dX12_size_107 (by rw [zl_502]; exact i9) rfl rfl ?_
          refine z_callSi sX12_bitsIn kX12_564 dX12_size_108 rfl (zRo_d d) (as := [vl (h6 502 l1)]) (rest := [vr 12 466]) (Nat.le_of_ble_eq_true rfl) rfl rfl (zCi_mono (fun x19 h20 k => ?_) k)
          refine z_callVi vX12_good kX12_196 dX12_size_111 rfl (zRo_d d) (as := [vi x19]) (rest := []) (Nat.le_of_ble_eq_true rfl) rfl rfl (zCi_mono (fun x21 h22 k => ?_) k)
          exact z_ireturn rfl dX12_size_114 ⟨_, rfl, k⟩
        | 4, hi, q =>
          cases hi
          have k := k_4 (by omega)
          refine z_aload_n 0 dX12_size_126 rfl rfl (Nat.le_of_ble_eq_true rfl) rfl ?_
          refine z_iload_n 1 dX12_size_127 rfl rfl rfl ?_
          refine z_iconst dX12_size_128 rfl ?_
          refine z_callVv vX12_sorts kX12_568 dX12_size_129 rfl (zRo_d d) (as := [vi l1, vi 0]) (rest := []) (Nat.le_of_ble_eq_true rfl) rfl rfl (zCv_mono (fun h24 k => ?_) k)
          refine z_aload_n 0 dX12_size_132 rfl rfl (Nat.le_of_ble_eq_true rfl) rfl ?_
          refine z_iload_n 2 dX12_size_133 rfl rfl rfl ?_
          refine z_iconst dX12_size_134 rfl ?_
          obtain ⟨r1, ka, kb⟩ := k
          refine z_icmp_ne (tgt := 147) dX12_size_135 rfl r1 ⟨by decide, by decide⟩ rfl ⟨fun q => ?_, fun q => ?_⟩
          · have k := ka q
            refine z_aload_n 0 dX12_size_147 rfl rfl (Nat.le_of_ble_eq_true rfl) rfl ?_
            refine z_getF 12 13 (x := 512) fX12_151 rfl dX12_size_148 rfl rfl ?_
            refine z_iconst dX12_size_151 rfl ?_
            refine z_iald (x := (h24 512 0)) dX12_size_152 (by rw [zl_512]; decide) rfl rfl ?_
            refine z_callVi vX12_good kX12_196 dX12_size_153 rfl (zRo_d d) (as := [vi (h24 512 0)]) (rest := []) (Nat.le_of_ble_eq_true rfl) rfl rfl (zCi_mono (fun x25 h26 k => ?_) k)
            exact z_ireturn rfl dX12_size_156 ⟨_, rfl, k⟩
          · have k := kb q
            refine z_aload_n 0 dX12_size_138 rfl rfl (Nat.le_of_ble_eq_true rfl) rfl ?_
            refine z_getF 12 13 (x := 506) fX12_133 rfl dX12_size_139 rfl rfl ?_
            refine z_iconst dX12_size_142 rfl ?_
            refine z_iald (x := (h24 506 0)) dX12_size_143 (by rw [zl_506]; decide) rfl rfl ?_
            refine z_goto (tgt := 153) dX12_size_144 rfl ?_
            refine z_callVi vX12_good kX12_196 dX12_size_153 rfl (zRo_d d) (as := [vi (h24 506 0)]) (rest := []) (Nat.le_of_ble_eq_true rfl) rfl rfl (zCi_mono (fun x27 h28 k => ?_) k)
            exact z_ireturn rfl dX12_size_156 ⟨_, rfl, k⟩
        | 5, hi, q =>
          cases hi
          have k := k_5 (by omega)
          refine z_aload_n 0 dX12_size_115 rfl rfl (Nat.le_of_ble_eq_true rfl) rfl ?_
          refine z_aload_n 0 dX12_size_116 rfl rfl (Nat.le_of_ble_eq_true rfl) rfl ?_
          refine z_getF 12 13 (x := 496) fX12_103 rfl dX12_size_117 rfl rfl ?_
          refine z_iload_n 1 dX12_size_120 rfl rfl rfl ?_
          obtain ⟨i9, k⟩ := k
          refine z_iald (x := (h6 496 l1)) dX12_size_121 (by rw [zl_496]; exact i9) rfl rfl ?_
          refine z_callVi vX12_good kX12_196 dX12_size_122 rfl (zRo_d d) (as := [vi (h6 496 l1)]) (rest := []) (Nat.le_of_ble_eq_true rfl) rfl rfl (zCi_mono (fun x29 h30 k => ?_) k)
          exact z_ireturn rfl dX12_size_125 ⟨_, rfl, k⟩
        | i + 6, hi, q =>
          exact absurd hi (by simp)
    · have k := kb q
      refine z_aload_n 0 dX12_size_23 rfl rfl (Nat.le_of_ble_eq_true rfl) rfl ?_
      refine z_iconst dX12_size_24 rfl ?_
      refine z_callVi vX12_refused kX12_426 dX12_size_25 rfl (zRo_d d) (as := [vi 1]) (rest := []) (Nat.le_of_ble_eq_true rfl) rfl rfl (zCi_mono (fun x31 h32 k => ?_) k)
      exact z_ireturn rfl dX12_size_28 ⟨_, rfl, k⟩
theorem eX12_size {G : zG} {d : Nat} {K : Int → zH → Prop} {l1 : Int} {l2 : Int} {h : zH} (k : tX12_size_0 G d K l1 l2 h) : zCi G (d + 1) mX12_size [vr 12 466, vi l1, vi l2] h K := z_entry (by decide +kernel) (Nat.le_of_ble_eq_true rfl) rfl k
def tX12_isEdge_0 (G : zG) (d : Nat) (K : Bool → zH → Prop) (l1 : Int) (l2 : Int) (h : zH) : Prop := zTb G (d + 1) mX12_isEdge K 0 [some (vr 12 466), some (vi l1), some (vi l2)] [] h
theorem bX12_isEdge_0 {G : zG} {d : Nat} {K : Bool → zH → Prop} {l1 : Int} {l2 : Int} {h : zH} (k : zCb G d mX12_isMachine [vr 12 466, vi l1] h (fun x1 h2 => (x1 = false → K false h2) ∧ (x1 = true → zR l2 ∧ (l2 < 0 → K false h2) ∧ (¬ l2 < 0 → ((0 : Int) ≤ l1 ∧ l1 < 14) ∧ zR l2 ∧ zR (h2 494 l1) ∧ ((h2 494 l1) ≤ l2 → K false h2) ∧ (¬ (h2 494 l1) ≤ l2 → K true h2))))) : tX12_isEdge_0 G d K l1 l2 h := by
  unfold tX12_isEdge_0
  refine z_aload_n 0 dX12_isEdge_0 rfl rfl (Nat.le_of_ble_eq_true rfl) rfl ?_
  refine z_iload_n 1 dX12_isEdge_1 rfl rfl rfl ?_
  refine z_callVb vX12_isMachine kX12_561 dX12_isEdge_2 rfl (zRo_d d) (as := [vi l1]) (rest := []) (Nat.le_of_ble_eq_true rfl) rfl rfl (zCb_mono (fun x1 h2 k => ?_) k)
  obtain ⟨ka, kb⟩ := k
  refine z_ifb_eq (tgt := 26) dX12_isEdge_5 rfl rfl ⟨fun q => ?_, fun q => ?_⟩
  · have k := ka q
    refine z_iconst dX12_isEdge_26 rfl ?_
    exact z_zreturn rfl (Or.inl rfl) dX12_isEdge_27 ⟨false, rfl, k⟩
  · have k := kb q
    refine z_iload_n 2 dX12_isEdge_8 rfl rfl rfl ?_
    obtain ⟨r1, ka, kb⟩ := k
    refine z_if_lt (tgt := 26) dX12_isEdge_9 rfl r1 rfl ⟨fun q => ?_, fun q => ?_⟩
    · have k := ka q
      refine z_iconst dX12_isEdge_26 rfl ?_
      exact z_zreturn rfl (Or.inl rfl) dX12_isEdge_27 ⟨false, rfl, k⟩
    · have k := kb q
      refine z_iload_n 2 dX12_isEdge_12 rfl rfl rfl ?_
      refine z_aload_n 0 dX12_isEdge_13 rfl rfl (Nat.le_of_ble_eq_true rfl) rfl ?_
      refine z_getF 12 13 (x := 494) fX12_97 rfl dX12_isEdge_14 rfl rfl ?_
      refine z_iload_n 1 dX12_isEdge_17 rfl rfl rfl ?_
      obtain ⟨i9, k⟩ := k
      refine z_iald (x := (h2 494 l1)) dX12_isEdge_18 (by rw [zl_494]; exact i9) rfl rfl ?_
      obtain ⟨r1, r2, ka, kb⟩ := k
      refine z_icmp_ge (tgt := 26) dX12_isEdge_19 rfl r1 r2 rfl ⟨fun q => ?_, fun q => ?_⟩
      · have k := ka q
        refine z_iconst dX12_isEdge_26 rfl ?_
        exact z_zreturn rfl (Or.inl rfl) dX12_isEdge_27 ⟨false, rfl, k⟩
      · have k := kb q
        refine z_iconst dX12_isEdge_22 rfl ?_
        refine z_goto (tgt := 27) dX12_isEdge_23 rfl ?_
        exact z_zreturn rfl (Or.inr rfl) dX12_isEdge_27 ⟨true, rfl, k⟩
theorem eX12_isEdge {G : zG} {d : Nat} {K : Bool → zH → Prop} {l1 : Int} {l2 : Int} {h : zH} (k : tX12_isEdge_0 G d K l1 l2 h) : zCb G (d + 1) mX12_isEdge [vr 12 466, vi l1, vi l2] h K := z_entry (by decide +kernel) (Nat.le_of_ble_eq_true rfl) rfl k
def tX12_edgeRanges_0 (G : zG) (d : Nat) (K : Int → zH → Prop) (l1 : Int) (l2 : Int) (h : zH) : Prop := zTi G (d + 1) mX12_edgeRanges K 0 [some (vr 12 466), some (vi l1), some (vi l2), none, none] [] h
def tX12_edgeRanges_5 (G : zG) (d : Nat) (K : Int → zH → Prop) (l1 : Int) (l2 : Int) (l3 : Int) (l4 : Int) (h : zH) : Prop := zTi G (d + 1) mX12_edgeRanges K 5 [some (vr 12 466), some (vi l1), some (vi l2), some (vi l3), some (vi l4)] [] h
theorem bX12_edgeRanges_0 {G : zG} {d : Nat} {K : Int → zH → Prop} {l1 : Int} {l2 : Int} {h : zH} (k : tX12_edgeRanges_5 G d K l1 l2 0 0 h) : tX12_edgeRanges_0 G d K l1 l2 h := by
  unfold tX12_edgeRanges_0
  refine z_iconst dX12_edgeRanges_0 rfl ?_
  refine z_istore_n 3 dX12_edgeRanges_1 rfl (Nat.le_of_ble_eq_true rfl) (L' := [some (vr 12 466), some (vi l1), some (vi l2), some (vi 0), none]) rfl rfl ?_
  refine z_iconst dX12_edgeRanges_2 rfl ?_
  refine z_istore dX12_edgeRanges_3 (Nat.le_of_ble_eq_true rfl) (L' := [some (vr 12 466), some (vi l1), some (vi l2), some (vi 0), some (vi 0)]) rfl rfl ?_
  exact z_sub (L' := [some (vr 12 466), some (vi l1), some (vi l2), some (vi 0), some (vi 0)]) (And.intro rfl (And.intro rfl (And.intro rfl (And.intro rfl (And.intro rfl trivial))))) k
theorem bX12_edgeRanges_5 {G : zG} {d : Nat} {K : Int → zH → Prop} {l1 : Int} {l2 : Int} {l3 : Int} {l4 : Int} {h : zH} (k : ((0 : Int) ≤ l1 ∧ l1 < 14) ∧ zR l4 ∧ zR (h 496 l1) ∧ ((h 496 l1) ≤ l4 → K l3 h) ∧ (¬ (h 496 l1) ≤ l4 → zCb G d mX12_edgeHas [vr 12 466, vi l1, vi l2, vi l4] h (fun x1 h2 => (x1 = false → tX12_edgeRanges_5 G d K l1 l2 (l3 + 0) (l4 + 1) h2) ∧ (x1 = true → zR l4 ∧ (l4 = 0 → tX12_edgeRanges_5 G d K l1 l2 (l3 + 1) (l4 + 1) h2) ∧ (¬ l4 = 0 → zCb G d mX12_edgeHas [vr 12 466, vi l1, vi l2, vi (l4 - 1)] h2 (fun x3 h4 => (x3 = true → tX12_edgeRanges_5 G d K l1 l2 (l3 + 0) (l4 + 1) h4) ∧ (x3 = false → tX12_edgeRanges_5 G d K l1 l2 (l3 + 1) (l4 + 1) h4))))))) : tX12_edgeRanges_5 G d K l1 l2 l3 l4 h := by
  unfold tX12_edgeRanges_5
  refine z_iload dX12_edgeRanges_5 rfl rfl ?_
  refine z_aload_n 0 dX12_edgeRanges_7 rfl rfl (Nat.le_of_ble_eq_true rfl) rfl ?_
  refine z_getF 12 13 (x := 496) fX12_103 rfl dX12_edgeRanges_8 rfl rfl ?_
  refine z_iload_n 1 dX12_edgeRanges_11 rfl rfl rfl ?_
  obtain ⟨i9, k⟩ := k
  refine z_iald (x := (h 496 l1)) dX12_edgeRanges_12 (by rw [zl_496]; exact i9) rfl rfl ?_
  obtain ⟨r1, r2, ka, kb⟩ := k
  refine z_icmp_ge (tgt := 59) dX12_edgeRanges_13 rfl r1 r2 rfl ⟨fun q => ?_, fun q => ?_⟩
  · have k := ka q
    refine z_iload_n 3 dX12_edgeRanges_59 rfl rfl rfl ?_
    exact z_ireturn rfl dX12_edgeRanges_60 ⟨_, rfl, k⟩
  · have k := kb q
    refine z_iload_n 3 dX12_edgeRanges_16 rfl rfl rfl ?_
    refine z_aload_n 0 dX12_edgeRanges_17 rfl rfl (Nat.le_of_ble_eq_true rfl) rfl ?_
    refine z_iload_n 1 dX12_edgeRanges_18 rfl rfl rfl ?_
    refine z_iload_n 2 dX12_edgeRanges_19 rfl rfl rfl ?_
    refine z_iload dX12_edgeRanges_20 rfl rfl ?_
    refine z_callVb vX12_edgeHas kX12_527 dX12_edgeRanges_22 rfl (zRo_d d) (as := [vi l1, vi l2, vi l4]) (rest := [vi l3]) (Nat.le_of_ble_eq_true rfl) rfl rfl (zCb_mono (fun x1 h2 k => ?_) k)
    obtain ⟨ka, kb⟩ := k
    refine z_ifb_eq (tgt := 50) dX12_edgeRanges_25 rfl rfl ⟨fun q => ?_, fun q => ?_⟩
    · have k := ka q
      refine z_iconst dX12_edgeRanges_50 rfl ?_
      refine z_iadd dX12_edgeRanges_51 rfl ?_
      refine z_istore_n 3 dX12_edgeRanges_52 rfl (Nat.le_of_ble_eq_true rfl) (L' := [some (vr 12 466), some (vi l1), some (vi l2), some (vi (l3 + 0)), some (vi l4)]) rfl rfl ?_
      refine z_iinc dX12_edgeRanges_53 rfl (Nat.le_of_ble_eq_true rfl) (L' := [some (vr 12 466), some (vi l1), some (vi l2), some (vi (l3 + 0)), some (vi (l4 + 1))]) rfl rfl ?_
      refine z_goto (tgt := 5) dX12_edgeRanges_56 rfl ?_
      exact z_sub (L' := [some (vr 12 466), some (vi l1), some (vi l2), some (vi (l3 + 0)), some (vi (l4 + 1))]) (And.intro rfl (And.intro rfl (And.intro rfl (And.intro rfl (And.intro rfl trivial))))) k
    · have k := kb q
      refine z_iload dX12_edgeRanges_28 rfl rfl ?_
      obtain ⟨r1, ka, kb⟩ := k
      refine z_if_eq (tgt := 46) dX12_edgeRanges_30 rfl r1 rfl ⟨fun q => ?_, fun q => ?_⟩
      · have k := ka q
        refine z_iconst dX12_edgeRanges_46 rfl ?_
        refine z_goto (tgt := 51) dX12_edgeRanges_47 rfl ?_
        refine z_iadd dX12_edgeRanges_51 rfl ?_
        refine z_istore_n 3 dX12_edgeRanges_52 rfl (Nat.le_of_ble_eq_true rfl) (L' := [some (vr 12 466), some (vi l1), some (vi l2), some (vi (l3 + 1)), some (vi l4)]) rfl rfl ?_
        refine z_iinc dX12_edgeRanges_53 rfl (Nat.le_of_ble_eq_true rfl) (L' := [some (vr 12 466), some (vi l1), some (vi l2), some (vi (l3 + 1)), some (vi (l4 + 1))]) rfl rfl ?_
        refine z_goto (tgt := 5) dX12_edgeRanges_56 rfl ?_
        exact z_sub (L' := [some (vr 12 466), some (vi l1), some (vi l2), some (vi (l3 + 1)), some (vi (l4 + 1))]) (And.intro rfl (And.intro rfl (And.intro rfl (And.intro rfl (And.intro rfl trivial))))) k
      · have k := kb q
        refine z_aload_n 0 dX12_edgeRanges_33 rfl rfl (Nat.le_of_ble_eq_true rfl) rfl ?_
        refine z_iload_n 1 dX12_edgeRanges_34 rfl rfl rfl ?_
        refine z_iload_n 2 dX12_edgeRanges_35 rfl rfl rfl ?_
        refine z_iload dX12_edgeRanges_36 rfl rfl ?_
        refine z_iconst dX12_edgeRanges_38 rfl ?_
        refine z_isub dX12_edgeRanges_39 rfl ?_
        refine z_callVb vX12_edgeHas kX12_527 dX12_edgeRanges_40 rfl (zRo_d d) (as := [vi l1, vi l2, vi (l4 - 1)]) (rest := [vi l3]) (Nat.le_of_ble_eq_true rfl) rfl rfl (zCb_mono (fun x3 h4 k => ?_) k)
        obtain ⟨ka, kb⟩ := k
        refine z_ifb_ne (tgt := 50) dX12_edgeRanges_43 rfl rfl ⟨fun q => ?_, fun q => ?_⟩
        · have k := ka q
          refine z_iconst dX12_edgeRanges_50 rfl ?_
          refine z_iadd dX12_edgeRanges_51 rfl ?_
          refine z_istore_n 3 dX12_edgeRanges_52 rfl (Nat.le_of_ble_eq_true rfl) (L' := [some (vr 12 466), some (vi l1), some (vi l2), some (vi (l3 + 0)), some (vi l4)]) rfl rfl ?_
          refine z_iinc dX12_edgeRanges_53 rfl (Nat.le_of_ble_eq_true rfl) (L' := [some (vr 12 466), some (vi l1), some (vi l2), some (vi (l3 + 0)), some (vi (l4 + 1))]) rfl rfl ?_
          refine z_goto (tgt := 5) dX12_edgeRanges_56 rfl ?_
          exact z_sub (L' := [some (vr 12 466), some (vi l1), some (vi l2), some (vi (l3 + 0)), some (vi (l4 + 1))]) (And.intro rfl (And.intro rfl (And.intro rfl (And.intro rfl (And.intro rfl trivial))))) k
        · have k := kb q
          refine z_iconst dX12_edgeRanges_46 rfl ?_
          refine z_goto (tgt := 51) dX12_edgeRanges_47 rfl ?_
          refine z_iadd dX12_edgeRanges_51 rfl ?_
          refine z_istore_n 3 dX12_edgeRanges_52 rfl (Nat.le_of_ble_eq_true rfl) (L' := [some (vr 12 466), some (vi l1), some (vi l2), some (vi (l3 + 1)), some (vi l4)]) rfl rfl ?_
          refine z_iinc dX12_edgeRanges_53 rfl (Nat.le_of_ble_eq_true rfl) (L' := [some (vr 12 466), some (vi l1), some (vi l2), some (vi (l3 + 1)), some (vi (l4 + 1))]) rfl rfl ?_
          refine z_goto (tgt := 5) dX12_edgeRanges_56 rfl ?_
          exact z_sub (L' := [some (vr 12 466), some (vi l1), some (vi l2), some (vi (l3 + 1)), some (vi (l4 + 1))]) (And.intro rfl (And.intro rfl (And.intro rfl (And.intro rfl (And.intro rfl trivial))))) k
theorem eX12_edgeRanges {G : zG} {d : Nat} {K : Int → zH → Prop} {l1 : Int} {l2 : Int} {h : zH} (k : tX12_edgeRanges_0 G d K l1 l2 h) : zCi G (d + 1) mX12_edgeRanges [vr 12 466, vi l1, vi l2] h K := z_entry (by decide +kernel) (Nat.le_of_ble_eq_true rfl) rfl k
def tX12_edgeLetters_0 (G : zG) (d : Nat) (K : Int → zH → Prop) (l1 : Int) (l2 : Int) (h : zH) : Prop := zTi G (d + 1) mX12_edgeLetters K 0 [some (vr 12 466), some (vi l1), some (vi l2), none, none] [] h
def tX12_edgeLetters_5 (G : zG) (d : Nat) (K : Int → zH → Prop) (l1 : Int) (l2 : Int) (l3 : Int) (l4 : Int) (h : zH) : Prop := zTi G (d + 1) mX12_edgeLetters K 5 [some (vr 12 466), some (vi l1), some (vi l2), some (vi l3), some (vi l4)] [] h
theorem bX12_edgeLetters_0 {G : zG} {d : Nat} {K : Int → zH → Prop} {l1 : Int} {l2 : Int} {h : zH} (k : tX12_edgeLetters_5 G d K l1 l2 0 0 h) : tX12_edgeLetters_0 G d K l1 l2 h := by
  unfold tX12_edgeLetters_0
  refine z_iconst dX12_edgeLetters_0 rfl ?_
  refine z_istore_n 3 dX12_edgeLetters_1 rfl (Nat.le_of_ble_eq_true rfl) (L' := [some (vr 12 466), some (vi l1), some (vi l2), some (vi 0), none]) rfl rfl ?_
  refine z_iconst dX12_edgeLetters_2 rfl ?_
  refine z_istore dX12_edgeLetters_3 (Nat.le_of_ble_eq_true rfl) (L' := [some (vr 12 466), some (vi l1), some (vi l2), some (vi 0), some (vi 0)]) rfl rfl ?_
  exact z_sub (L' := [some (vr 12 466), some (vi l1), some (vi l2), some (vi 0), some (vi 0)]) (And.intro rfl (And.intro rfl (And.intro rfl (And.intro rfl (And.intro rfl trivial))))) k
theorem bX12_edgeLetters_5 {G : zG} {d : Nat} {K : Int → zH → Prop} {l1 : Int} {l2 : Int} {l3 : Int} {l4 : Int} {h : zH} (k : ((0 : Int) ≤ l1 ∧ l1 < 14) ∧ zR l4 ∧ zR (h 496 l1) ∧ ((h 496 l1) ≤ l4 → K l3 h) ∧ (¬ (h 496 l1) ≤ l4 → zCb G d mX12_edgeHas [vr 12 466, vi l1, vi l2, vi l4] h (fun x1 h2 => (x1 = false → tX12_edgeLetters_5 G d K l1 l2 (l3 + 0) (l4 + 1) h2) ∧ (x1 = true → zCi G d mX12_blockEnd [vr 12 466, vi l1, vi l4] h2 (fun x3 h4 => ((0 : Int) ≤ ((l1 * 128) + l4) ∧ ((l1 * 128) + l4) < 1792) ∧ tX12_edgeLetters_5 G d K l1 l2 (l3 + (x3 - (h4 497 ((l1 * 128) + l4)))) (l4 + 1) h4))))) : tX12_edgeLetters_5 G d K l1 l2 l3 l4 h := by
  unfold tX12_edgeLetters_5
  refine z_iload dX12_edgeLetters_5 rfl rfl ?_
  refine z_aload_n 0 dX12_edgeLetters_7 rfl rfl (Nat.le_of_ble_eq_true rfl) rfl ?_
  refine z_getF 12 13 (x := 496) fX12_103 rfl dX12_edgeLetters_8 rfl rfl ?_
  refine z_iload_n 1 dX12_edgeLetters_11 rfl rfl rfl ?_
  obtain ⟨i9, k⟩ := k
  refine z_iald (x := (h 496 l1)) dX12_edgeLetters_12 (by rw [zl_496]; exact i9) rfl rfl ?_
  obtain ⟨r1, r2, ka, kb⟩ := k
  refine z_icmp_ge (tgt := 61) dX12_edgeLetters_13 rfl r1 r2 rfl ⟨fun q => ?_, fun q => ?_⟩
  · have k := ka q
    refine z_iload_n 3 dX12_edgeLetters_61 rfl rfl rfl ?_
    exact z_ireturn rfl dX12_edgeLetters_62 ⟨_, rfl, k⟩
  · have k := kb q
    refine z_iload_n 3 dX12_edgeLetters_16 rfl rfl rfl ?_
    refine z_aload_n 0 dX12_edgeLetters_17 rfl rfl (Nat.le_of_ble_eq_true rfl) rfl ?_
    refine z_iload_n 1 dX12_edgeLetters_18 rfl rfl rfl ?_
    refine z_iload_n 2 dX12_edgeLetters_19 rfl rfl rfl ?_
    refine z_iload dX12_edgeLetters_20 rfl rfl ?_
    refine z_callVb vX12_edgeHas kX12_527 dX12_edgeLetters_22 rfl (zRo_d d) (as := [vi l1, vi l2, vi l4]) (rest := [vi l3]) (Nat.le_of_ble_eq_true rfl) rfl rfl (zCb_mono (fun x1 h2 k => ?_) k)
    obtain ⟨ka, kb⟩ := k
    refine z_ifb_eq (tgt := 52) dX12_edgeLetters_25 rfl rfl ⟨fun q => ?_, fun q => ?_⟩
    · have k := ka q
      refine z_iconst dX12_edgeLetters_52 rfl ?_
      refine z_iadd dX12_edgeLetters_53 rfl ?_
      refine z_istore_n 3 dX12_edgeLetters_54 rfl (Nat.le_of_ble_eq_true rfl) (L' := [some (vr 12 466), some (vi l1), some (vi l2), some (vi (l3 + 0)), some (vi l4)]) rfl rfl ?_
      refine z_iinc dX12_edgeLetters_55 rfl (Nat.le_of_ble_eq_true rfl) (L' := [some (vr 12 466), some (vi l1), some (vi l2), some (vi (l3 + 0)), some (vi (l4 + 1))]) rfl rfl ?_
      refine z_goto (tgt := 5) dX12_edgeLetters_58 rfl ?_
      exact z_sub (L' := [some (vr 12 466), some (vi l1), some (vi l2), some (vi (l3 + 0)), some (vi (l4 + 1))]) (And.intro rfl (And.intro rfl (And.intro rfl (And.intro rfl (And.intro rfl trivial))))) k
    · have k := kb q
      refine z_aload_n 0 dX12_edgeLetters_28 rfl rfl (Nat.le_of_ble_eq_true rfl) rfl ?_
      refine z_iload_n 1 dX12_edgeLetters_29 rfl rfl rfl ?_
      refine z_iload dX12_edgeLetters_30 rfl rfl ?_
      refine z_callVi vX12_blockEnd kX12_571 dX12_edgeLetters_32 rfl (zRo_d d) (as := [vi l1, vi l4]) (rest := [vi l3]) (Nat.le_of_ble_eq_true rfl) rfl rfl (zCi_mono (fun x3 h4 k => ?_) k)
      refine z_aload_n 0 dX12_edgeLetters_35 rfl rfl (Nat.le_of_ble_eq_true rfl) rfl ?_
      refine z_getF 12 13 (x := 497) fX12_106 rfl dX12_edgeLetters_36 rfl rfl ?_
      refine z_iload_n 1 dX12_edgeLetters_39 rfl rfl rfl ?_
      refine z_sipush dX12_edgeLetters_40 rfl rfl ?_
      refine z_imul dX12_edgeLetters_43 rfl ?_
      refine z_iload dX12_edgeLetters_44 rfl rfl ?_
      refine z_iadd dX12_edgeLetters_46 rfl ?_
      obtain ⟨i9, k⟩ := k
      refine z_iald (x := (h4 497 ((l1 * 128) + l4))) dX12_edgeLetters_47 (by rw [zl_497]; exact i9) rfl rfl ?_
      refine z_isub dX12_edgeLetters_48 rfl ?_
      refine z_goto (tgt := 53) dX12_edgeLetters_49 rfl ?_
      refine z_iadd dX12_edgeLetters_53 rfl ?_
      refine z_istore_n 3 dX12_edgeLetters_54 rfl (Nat.le_of_ble_eq_true rfl) (L' := [some (vr 12 466), some (vi l1), some (vi l2), some (vi (l3 + (x3 - (h4 497 ((l1 * 128) + l4))))), some (vi l4)]) rfl rfl ?_
      refine z_iinc dX12_edgeLetters_55 rfl (Nat.le_of_ble_eq_true rfl) (L' := [some (vr 12 466), some (vi l1), some (vi l2), some (vi (l3 + (x3 - (h4 497 ((l1 * 128) + l4))))), some (vi (l4 + 1))]) rfl rfl ?_
      refine z_goto (tgt := 5) dX12_edgeLetters_58 rfl ?_
      exact z_sub (L' := [some (vr 12 466), some (vi l1), some (vi l2), some (vi (l3 + (x3 - (h4 497 ((l1 * 128) + l4))))), some (vi (l4 + 1))]) (And.intro rfl (And.intro rfl (And.intro rfl (And.intro rfl (And.intro rfl trivial))))) k
theorem eX12_edgeLetters {G : zG} {d : Nat} {K : Int → zH → Prop} {l1 : Int} {l2 : Int} {h : zH} (k : tX12_edgeLetters_0 G d K l1 l2 h) : zCi G (d + 1) mX12_edgeLetters [vr 12 466, vi l1, vi l2] h K := z_entry (by decide +kernel) (Nat.le_of_ble_eq_true rfl) rfl k
def tX12_edge_0 (G : zG) (d : Nat) (K : Int → zH → Prop) (l1 : Int) (l2 : Int) (l3 : Int) (h : zH) : Prop := zTi G (d + 1) mX12_edge K 0 [some (vr 12 466), some (vi l1), some (vi l2), some (vi l3)] [] h
theorem bX12_edge_0 {G : zG} {d : Nat} {K : Int → zH → Prop} {l1 : Int} {l2 : Int} {l3 : Int} {h : zH} (k : zCb G d mX12_isEdge [vr 12 466, vi l1, vi l2] (zup h 466 0 0) (fun x1 h2 => (x1 = false → zCi G d mX12_refused [vr 12 466, vi 1] h2 (fun x3 h4 => K x3 h4)) ∧ (x1 = true → zCb G d mX12_in [vi l3, vi 0, vi 3] h2 (fun x5 h6 => (x5 = true → zR l3 ∧ (l3 < 0 ∨ 2 < l3 → zCi G d mX12_edgeLetters [vr 12 466, vi l1, vi l2] h6 (fun x7 h8 => zCi G d mX12_good [vr 12 466, vi x7] h8 (fun x9 h10 => K x9 h10))) ∧ (l3 = 0 → ((0 : Int) ≤ ((l1 * 160) + l2) ∧ ((l1 * 160) + l2) < 2240) ∧ zCi G d mX12_good [vr 12 466, vi (h6 498 ((l1 * 160) + l2))] h6 (fun x11 h12 => K x11 h12)) ∧ (l3 = 1 → ((0 : Int) ≤ ((l1 * 160) + l2) ∧ ((l1 * 160) + l2) < 2240) ∧ zCi G d mX12_good [vr 12 466, vi (h6 499 ((l1 * 160) + l2))] h6 (fun x13 h14 => K x13 h14)) ∧ (l3 = 2 → zCi G d mX12_edgeRanges [vr 12 466, vi l1, vi l2] h6 (fun x15 h16 => zCi G d mX12_good [vr 12 466, vi x15] h16 (fun x17 h18 => K x17 h18)))) ∧ (x5 = false → zCi G d mX12_refused [vr 12 466, vi 1] h6 (fun x19 h20 => K x19 h20)))))) : tX12_edge_0 G d K l1 l2 l3 h := by
  unfold tX12_edge_0
  refine z_aload_n 0 dX12_edge_0 rfl rfl (Nat.le_of_ble_eq_true rfl) rfl ?_
  refine z_iconst dX12_edge_1 rfl ?_
  refine z_putI 12 gX12_190 dX12_edge_2 rfl ?_
  refine z_aload_n 0 dX12_edge_5 rfl rfl (Nat.le_of_ble_eq_true rfl) rfl ?_
  refine z_iload_n 1 dX12_edge_6 rfl rfl rfl ?_
  refine z_iload_n 2 dX12_edge_7 rfl rfl rfl ?_
  refine z_callVb vX12_isEdge kX12_574 dX12_edge_8 rfl (zRo_d d) (as := [vi l1, vi l2]) (rest := []) (Nat.le_of_ble_eq_true rfl) rfl rfl (zCb_mono (fun x1 h2 k => ?_) k)
  obtain ⟨ka, kb⟩ := k
  refine z_ifb_eq (tgt := 23) dX12_edge_11 rfl rfl ⟨fun q => ?_, fun q => ?_⟩
  · have k := ka q
    refine z_aload_n 0 dX12_edge_23 rfl rfl (Nat.le_of_ble_eq_true rfl) rfl ?_
    refine z_iconst dX12_edge_24 rfl ?_
    refine z_callVi vX12_refused kX12_426 dX12_edge_25 rfl (zRo_d d) (as := [vi 1]) (rest := []) (Nat.le_of_ble_eq_true rfl) rfl rfl (zCi_mono (fun x3 h4 k => ?_) k)
    exact z_ireturn rfl dX12_edge_28 ⟨_, rfl, k⟩
  · have k := kb q
    refine z_iload_n 3 dX12_edge_14 rfl rfl rfl ?_
    refine z_iconst dX12_edge_15 rfl ?_
    refine z_iconst dX12_edge_16 rfl ?_
    refine z_callSb sX12_in kX12_201 dX12_edge_17 rfl (zRo_d d) (as := [vi l3, vi 0, vi 3]) (rest := []) (Nat.le_of_ble_eq_true rfl) rfl rfl (zCb_mono (fun x5 h6 k => ?_) k)
    obtain ⟨ka, kb⟩ := k
    refine z_ifb_ne (tgt := 29) dX12_edge_20 rfl rfl ⟨fun q => ?_, fun q => ?_⟩
    · have k := ka q
      refine z_iload_n 3 dX12_edge_29 rfl rfl rfl ?_
      obtain ⟨r1, kd, k_0, k_1, k_2⟩ := k
      refine z_table (dt := 101) (ts := [56, 73, 90]) dX12_edge_30 r1 rfl rfl rfl ⟨fun q => ?_, fun i t hi q => ?_⟩
      · have k := kd q
        refine z_aload_n 0 dX12_edge_101 rfl rfl (Nat.le_of_ble_eq_true rfl) rfl ?_
        refine z_aload_n 0 dX12_edge_102 rfl rfl (Nat.le_of_ble_eq_true rfl) rfl ?_
        refine z_iload_n 1 dX12_edge_103 rfl rfl rfl ?_
        refine z_iload_n 2 dX12_edge_104 rfl rfl rfl ?_
        refine z_callVi vX12_edgeLetters kX12_580 dX12_edge_105 rfl (zRo_d d) (as := [vi l1, vi l2]) (rest := [vr 12 466]) (Nat.le_of_ble_eq_true rfl) rfl rfl (zCi_mono (fun x7 h8 k => ?_) k)
        refine z_callVi vX12_good kX12_196 dX12_edge_108 rfl (zRo_d d) (as := [vi x7]) (rest := []) (Nat.le_of_ble_eq_true rfl) rfl rfl (zCi_mono (fun x9 h10 k => ?_) k)
        exact z_ireturn rfl dX12_edge_111 ⟨_, rfl, k⟩
      · match i, hi, q with
        | 0, hi, q =>
          cases hi
          have k := k_0 (by omega)
          refine z_aload_n 0 dX12_edge_56 rfl rfl (Nat.le_of_ble_eq_true rfl) rfl ?_
          refine z_aload_n 0 dX12_edge_57 rfl rfl (Nat.le_of_ble_eq_true rfl) rfl ?_
          refine z_getF 12 13 (x := 498) fX12_109 rfl dX12_edge_58 rfl rfl ?_
          refine z_iload_n 1 dX12_edge_61 rfl rfl rfl ?_
          refine z_sipush dX12_edge_62 rfl rfl ?_
          refine z_imul dX12_edge_65 rfl ?_
          refine z_iload_n 2 dX12_edge_66 rfl rfl rfl ?_
          refine z_iadd dX12_edge_67 rfl ?_
          obtain ⟨i9, k⟩ := k
          refine z_iald (x := (h6 498 ((l1 * 160) + l2))) dX12_edge_68 (by rw [zl_498]; exact i9) rfl rfl ?_
          refine z_callVi vX12_good kX12_196 dX12_edge_69 rfl (zRo_d d) (as := [vi (h6 498 ((l1 * 160) + l2))]) (rest := []) (Nat.le_of_ble_eq_true rfl) rfl rfl (zCi_mono (fun x11 h12 k => ?_) k)
          exact z_ireturn rfl dX12_edge_72 ⟨_, rfl, k⟩
        | 1, hi, q =>
          cases hi
          have k := k_1 (by omega)
          refine z_aload_n 0 dX12_edge_73 rfl rfl (Nat.le_of_ble_eq_true rfl) rfl ?_
          refine z_aload_n 0 dX12_edge_74 rfl rfl (Nat.le_of_ble_eq_true rfl) rfl ?_
          refine z_getF 12 13 (x := 499) fX12_112 rfl dX12_edge_75 rfl rfl ?_
          refine z_iload_n 1 dX12_edge_78 rfl rfl rfl ?_
          refine z_sipush dX12_edge_79 rfl rfl ?_
          refine z_imul dX12_edge_82 rfl ?_
          refine z_iload_n 2 dX12_edge_83 rfl rfl rfl ?_
          refine z_iadd dX12_edge_84 rfl ?_
          obtain ⟨i9, k⟩ := k
          refine z_iald (x := (h6 499 ((l1 * 160) + l2))) dX12_edge_85 (by rw [zl_499]; exact i9) rfl rfl ?_
          refine z_callVi vX12_good kX12_196 dX12_edge_86 rfl (zRo_d d) (as := [vi (h6 499 ((l1 * 160) + l2))]) (rest := []) (Nat.le_of_ble_eq_true rfl) rfl rfl (zCi_mono (fun x13 h14 k => ?_) k)
          exact z_ireturn rfl dX12_edge_89 ⟨_, rfl, k⟩
        | 2, hi, q =>
          cases hi
          have k := k_2 (by omega)
          refine z_aload_n 0 dX12_edge_90 rfl rfl (Nat.le_of_ble_eq_true rfl) rfl ?_
          refine z_aload_n 0 dX12_edge_91 rfl rfl (Nat.le_of_ble_eq_true rfl) rfl ?_
          refine z_iload_n 1 dX12_edge_92 rfl rfl rfl ?_
          refine z_iload_n 2 dX12_edge_93 rfl rfl rfl ?_
          refine z_callVi vX12_edgeRanges kX12_577 dX12_edge_94 rfl (zRo_d d) (as := [vi l1, vi l2]) (rest := [vr 12 466]) (Nat.le_of_ble_eq_true rfl) rfl rfl (zCi_mono (fun x15 h16 k => ?_) k)
          refine z_callVi vX12_good kX12_196 dX12_edge_97 rfl (zRo_d d) (as := [vi x15]) (rest := []) (Nat.le_of_ble_eq_true rfl) rfl rfl (zCi_mono (fun x17 h18 k => ?_) k)
          exact z_ireturn rfl dX12_edge_100 ⟨_, rfl, k⟩
        | i + 3, hi, q =>
          exact absurd hi (by simp)
    · have k := kb q
      refine z_aload_n 0 dX12_edge_23 rfl rfl (Nat.le_of_ble_eq_true rfl) rfl ?_
      refine z_iconst dX12_edge_24 rfl ?_
      refine z_callVi vX12_refused kX12_426 dX12_edge_25 rfl (zRo_d d) (as := [vi 1]) (rest := []) (Nat.le_of_ble_eq_true rfl) rfl rfl (zCi_mono (fun x19 h20 k => ?_) k)
      exact z_ireturn rfl dX12_edge_28 ⟨_, rfl, k⟩
theorem eX12_edge {G : zG} {d : Nat} {K : Int → zH → Prop} {l1 : Int} {l2 : Int} {l3 : Int} {h : zH} (k : tX12_edge_0 G d K l1 l2 l3 h) : zCi G (d + 1) mX12_edge [vr 12 466, vi l1, vi l2, vi l3] h K := z_entry (by decide +kernel) (Nat.le_of_ble_eq_true rfl) rfl k
def tX12_edgeRange_0 (G : zG) (d : Nat) (K : Int → zH → Prop) (l1 : Int) (l2 : Int) (l3 : Int) (l4 : Bool) (h : zH) : Prop := zTi G (d + 1) mX12_edgeRange K 0 [some (vr 12 466), some (vi l1), some (vi l2), some (vi l3), some (vi (bi l4)), none, none, none] [] h
def tX12_edgeRange_18 (G : zG) (d : Nat) (K : Int → zH → Prop) (h : zH) : Prop := zTi G (d + 1) mX12_edgeRange K 18 [some (vr 12 466), none, none, none, none, none, none, none] [] h
def tX12_edgeRange_30 (G : zG) (d : Nat) (K : Int → zH → Prop) (l1 : Int) (l2 : Int) (l3 : Int) (l4 : Bool) (l5 : Int) (l6 : Int) (h : zH) : Prop := zTi G (d + 1) mX12_edgeRange K 30 [some (vr 12 466), some (vi l1), some (vi l2), some (vi l3), some (vi (bi l4)), some (vi l5), some (vi l6), none] [] h
def tX12_edgeRange_73 (G : zG) (d : Nat) (K : Int → zH → Prop) (l1 : Int) (l2 : Int) (l3 : Int) (l4 : Bool) (l5 : Int) (l6 : Int) (h : zH) : Prop := zTi G (d + 1) mX12_edgeRange K 73 [some (vr 12 466), some (vi l1), some (vi l2), some (vi l3), some (vi (bi l4)), some (vi l5), some (vi l6), none] [] h
def tX12_edgeRange_76 (G : zG) (d : Nat) (K : Int → zH → Prop) (l1 : Int) (l2 : Int) (l3 : Int) (l4 : Bool) (l5 : Int) (l6 : Int) (h : zH) : Prop := zTi G (d + 1) mX12_edgeRange K 76 [some (vr 12 466), some (vi l1), some (vi l2), some (vi l3), some (vi (bi l4)), some (vi l5), some (vi l6), none] [] h
def tX12_edgeRange_102 (G : zG) (d : Nat) (K : Int → zH → Prop) (l1 : Int) (l2 : Int) (l3 : Int) (l4 : Bool) (l5 : Int) (l6 : Int) (h : zH) : Prop := zTi G (d + 1) mX12_edgeRange K 102 [some (vr 12 466), some (vi l1), some (vi l2), some (vi l3), some (vi (bi l4)), some (vi l5), some (vi l6), none] [] h
def tX12_edgeRange_125 (G : zG) (d : Nat) (K : Int → zH → Prop) (l1 : Int) (l4 : Bool) (l6 : Int) (h : zH) : Prop := zTi G (d + 1) mX12_edgeRange K 125 [some (vr 12 466), some (vi l1), none, none, some (vi (bi l4)), none, some (vi l6), none] [] h
def tX12_edgeRange_160 (G : zG) (d : Nat) (K : Int → zH → Prop) (l1 : Int) (l2 : Int) (l3 : Int) (l4 : Bool) (l5 : Int) (l6 : Int) (h : zH) : Prop := zTi G (d + 1) mX12_edgeRange K 160 [some (vr 12 466), some (vi l1), some (vi l2), some (vi l3), some (vi (bi l4)), some (vi l5), some (vi l6), none] [] h
theorem bX12_edgeRange_0 {G : zG} {d : Nat} {K : Int → zH → Prop} {l1 : Int} {l2 : Int} {l3 : Int} {l4 : Bool} {h : zH} (k : zCb G d mX12_isEdge [vr 12 466, vi l1, vi l2] (zup h 466 0 0) (fun x1 h2 => (x1 = false → tX12_edgeRange_18 G d K h2) ∧ (x1 = true → zR l3 ∧ (0 ≤ l3 → tX12_edgeRange_30 G d K l1 l2 l3 l4 (-1) 0 h2) ∧ (¬ 0 ≤ l3 → tX12_edgeRange_18 G d K h2)))) : tX12_edgeRange_0 G d K l1 l2 l3 l4 h := by
  unfold tX12_edgeRange_0
  refine z_aload_n 0 dX12_edgeRange_0 rfl rfl (Nat.le_of_ble_eq_true rfl) rfl ?_
  refine z_iconst dX12_edgeRange_1 rfl ?_
  refine z_putI 12 gX12_190 dX12_edgeRange_2 rfl ?_
  refine z_aload_n 0 dX12_edgeRange_5 rfl rfl (Nat.le_of_ble_eq_true rfl) rfl ?_
  refine z_iload_n 1 dX12_edgeRange_6 rfl rfl rfl ?_
  refine z_iload_n 2 dX12_edgeRange_7 rfl rfl rfl ?_
  refine z_callVb vX12_isEdge kX12_574 dX12_edgeRange_8 rfl (zRo_d d) (as := [vi l1, vi l2]) (rest := []) (Nat.le_of_ble_eq_true rfl) rfl rfl (zCb_mono (fun x1 h2 k => ?_) k)
  obtain ⟨ka, kb⟩ := k
  refine z_ifb_eq (tgt := 18) dX12_edgeRange_11 rfl rfl ⟨fun q => ?_, fun q => ?_⟩
  · have k := ka q
    exact z_sub (L' := [some (vr 12 466), none, none, none, none, none, none, none]) (And.intro rfl trivial) k
  · have k := kb q
    refine z_iload_n 3 dX12_edgeRange_14 rfl rfl rfl ?_
    obtain ⟨r1, ka, kb⟩ := k
    refine z_if_ge (tgt := 24) dX12_edgeRange_15 rfl r1 rfl ⟨fun q => ?_, fun q => ?_⟩
    · have k := ka q
      refine z_iconst dX12_edgeRange_24 rfl ?_
      refine z_istore dX12_edgeRange_25 (Nat.le_of_ble_eq_true rfl) (L' := [some (vr 12 466), some (vi l1), some (vi l2), some (vi l3), some (vi (bi l4)), some (vi (-1)), none, none]) rfl rfl ?_
      refine z_iconst dX12_edgeRange_27 rfl ?_
      refine z_istore dX12_edgeRange_28 (Nat.le_of_ble_eq_true rfl) (L' := [some (vr 12 466), some (vi l1), some (vi l2), some (vi l3), some (vi (bi l4)), some (vi (-1)), some (vi 0), none]) rfl rfl ?_
      exact z_sub (L' := [some (vr 12 466), some (vi l1), some (vi l2), some (vi l3), some (vi (bi l4)), some (vi (-1)), some (vi 0), none]) (And.intro rfl (And.intro rfl (And.intro rfl (And.intro rfl (And.intro rfl (And.intro rfl (And.intro rfl trivial))))))) k
    · have k := kb q
      exact z_sub (L' := [some (vr 12 466), none, none, none, none, none, none, none]) (And.intro rfl trivial) k
theorem bX12_edgeRange_18 {G : zG} {d : Nat} {K : Int → zH → Prop} {h : zH} (k : zCi G d mX12_refused [vr 12 466, vi 1] h (fun x1 h2 => K x1 h2)) : tX12_edgeRange_18 G d K h := by
  unfold tX12_edgeRange_18
  refine z_aload_n 0 dX12_edgeRange_18 rfl rfl (Nat.le_of_ble_eq_true rfl) rfl ?_
  refine z_iconst dX12_edgeRange_19 rfl ?_
  refine z_callVi vX12_refused kX12_426 dX12_edgeRange_20 rfl (zRo_d d) (as := [vi 1]) (rest := []) (Nat.le_of_ble_eq_true rfl) rfl rfl (zCi_mono (fun x1 h2 k => ?_) k)
  exact z_ireturn rfl dX12_edgeRange_23 ⟨_, rfl, k⟩
theorem bX12_edgeRange_30 {G : zG} {d : Nat} {K : Int → zH → Prop} {l1 : Int} {l2 : Int} {l3 : Int} {l4 : Bool} {l5 : Int} {l6 : Int} {h : zH} (k : ((0 : Int) ≤ l1 ∧ l1 < 14) ∧ zR l6 ∧ zR (h 496 l1) ∧ ((h 496 l1) ≤ l6 → zCi G d mX12_refused [vr 12 466, vi 1] h (fun x1 h2 => K x1 h2)) ∧ (¬ (h 496 l1) ≤ l6 → zCb G d mX12_edgeHas [vr 12 466, vi l1, vi l2, vi l6] h (fun x3 h4 => (x3 = true → zR l6 ∧ (l6 = 0 → tX12_edgeRange_73 G d K l1 l2 l3 l4 l5 l6 h4) ∧ (¬ l6 = 0 → zCb G d mX12_edgeHas [vr 12 466, vi l1, vi l2, vi (l6 - 1)] h4 (fun x5 h6 => (x5 = true → tX12_edgeRange_76 G d K l1 l2 l3 l4 l5 l6 h6) ∧ (x5 = false → tX12_edgeRange_73 G d K l1 l2 l3 l4 l5 l6 h6)))) ∧ (x3 = false → tX12_edgeRange_160 G d K l1 l2 l3 l4 l5 l6 h4)))) : tX12_edgeRange_30 G d K l1 l2 l3 l4 l5 l6 h := by
  unfold tX12_edgeRange_30
  refine z_iload dX12_edgeRange_30 rfl rfl ?_
  refine z_aload_n 0 dX12_edgeRange_32 rfl rfl (Nat.le_of_ble_eq_true rfl) rfl ?_
  refine z_getF 12 13 (x := 496) fX12_103 rfl dX12_edgeRange_33 rfl rfl ?_
  refine z_iload_n 1 dX12_edgeRange_36 rfl rfl rfl ?_
  obtain ⟨i9, k⟩ := k
  refine z_iald (x := (h 496 l1)) dX12_edgeRange_37 (by rw [zl_496]; exact i9) rfl rfl ?_
  obtain ⟨r1, r2, ka, kb⟩ := k
  refine z_icmp_ge (tgt := 166) dX12_edgeRange_38 rfl r1 r2 rfl ⟨fun q => ?_, fun q => ?_⟩
  · have k := ka q
    refine z_aload_n 0 dX12_edgeRange_166 rfl rfl (Nat.le_of_ble_eq_true rfl) rfl ?_
    refine z_iconst dX12_edgeRange_167 rfl ?_
    refine z_callVi vX12_refused kX12_426 dX12_edgeRange_168 rfl (zRo_d d) (as := [vi 1]) (rest := []) (Nat.le_of_ble_eq_true rfl) rfl rfl (zCi_mono (fun x1 h2 k => ?_) k)
    exact z_ireturn rfl dX12_edgeRange_171 ⟨_, rfl, k⟩
  · have k := kb q
    refine z_aload_n 0 dX12_edgeRange_41 rfl rfl (Nat.le_of_ble_eq_true rfl) rfl ?_
    refine z_iload_n 1 dX12_edgeRange_42 rfl rfl rfl ?_
    refine z_iload_n 2 dX12_edgeRange_43 rfl rfl rfl ?_
    refine z_iload dX12_edgeRange_44 rfl rfl ?_
    refine z_callVb vX12_edgeHas kX12_527 dX12_edgeRange_46 rfl (zRo_d d) (as := [vi l1, vi l2, vi l6]) (rest := []) (Nat.le_of_ble_eq_true rfl) rfl rfl (zCb_mono (fun x3 h4 k => ?_) k)
    obtain ⟨ka, kb⟩ := k
    refine z_ifb_ne (tgt := 55) dX12_edgeRange_49 rfl rfl ⟨fun q => ?_, fun q => ?_⟩
    · have k := ka q
      refine z_iload dX12_edgeRange_55 rfl rfl ?_
      obtain ⟨r1, ka, kb⟩ := k
      refine z_if_eq (tgt := 73) dX12_edgeRange_57 rfl r1 rfl ⟨fun q => ?_, fun q => ?_⟩
      · have k := ka q
        exact z_sub (L' := [some (vr 12 466), some (vi l1), some (vi l2), some (vi l3), some (vi (bi l4)), some (vi l5), some (vi l6), none]) (And.intro rfl (And.intro rfl (And.intro rfl (And.intro rfl (And.intro rfl (And.intro rfl (And.intro rfl trivial))))))) k
      · have k := kb q
        refine z_aload_n 0 dX12_edgeRange_60 rfl rfl (Nat.le_of_ble_eq_true rfl) rfl ?_
        refine z_iload_n 1 dX12_edgeRange_61 rfl rfl rfl ?_
        refine z_iload_n 2 dX12_edgeRange_62 rfl rfl rfl ?_
        refine z_iload dX12_edgeRange_63 rfl rfl ?_
        refine z_iconst dX12_edgeRange_65 rfl ?_
        refine z_isub dX12_edgeRange_66 rfl ?_
        refine z_callVb vX12_edgeHas kX12_527 dX12_edgeRange_67 rfl (zRo_d d) (as := [vi l1, vi l2, vi (l6 - 1)]) (rest := []) (Nat.le_of_ble_eq_true rfl) rfl rfl (zCb_mono (fun x5 h6 k => ?_) k)
        obtain ⟨ka, kb⟩ := k
        refine z_ifb_ne (tgt := 76) dX12_edgeRange_70 rfl rfl ⟨fun q => ?_, fun q => ?_⟩
        · have k := ka q
          exact z_sub (L' := [some (vr 12 466), some (vi l1), some (vi l2), some (vi l3), some (vi (bi l4)), some (vi l5), some (vi l6), none]) (And.intro rfl (And.intro rfl (And.intro rfl (And.intro rfl (And.intro rfl (And.intro rfl (And.intro rfl trivial))))))) k
        · have k := kb q
          exact z_sub (L' := [some (vr 12 466), some (vi l1), some (vi l2), some (vi l3), some (vi (bi l4)), some (vi l5), some (vi l6), none]) (And.intro rfl (And.intro rfl (And.intro rfl (And.intro rfl (And.intro rfl (And.intro rfl (And.intro rfl trivial))))))) k
    · have k := kb q
      refine z_goto (tgt := 160) dX12_edgeRange_52 rfl ?_
      exact z_sub (L' := [some (vr 12 466), some (vi l1), some (vi l2), some (vi l3), some (vi (bi l4)), some (vi l5), some (vi l6), none]) (And.intro rfl (And.intro rfl (And.intro rfl (And.intro rfl (And.intro rfl (And.intro rfl (And.intro rfl trivial))))))) k
theorem bX12_edgeRange_73 {G : zG} {d : Nat} {K : Int → zH → Prop} {l1 : Int} {l2 : Int} {l3 : Int} {l4 : Bool} {l5 : Int} {l6 : Int} {h : zH} (k : tX12_edgeRange_76 G d K l1 l2 l3 l4 (l5 + 1) l6 h) : tX12_edgeRange_73 G d K l1 l2 l3 l4 l5 l6 h := by
  unfold tX12_edgeRange_73
  refine z_iinc dX12_edgeRange_73 rfl (Nat.le_of_ble_eq_true rfl) (L' := [some (vr 12 466), some (vi l1), some (vi l2), some (vi l3), some (vi (bi l4)), some (vi (l5 + 1)), some (vi l6), none]) rfl rfl ?_
  exact z_sub (L' := [some (vr 12 466), some (vi l1), some (vi l2), some (vi l3), some (vi (bi l4)), some (vi (l5 + 1)), some (vi l6), none]) (And.intro rfl (And.intro rfl (And.intro rfl (And.intro rfl (And.intro rfl (And.intro rfl (And.intro rfl trivial))))))) k
theorem bX12_edgeRange_76 {G : zG} {d : Nat} {K : Int → zH → Prop} {l1 : Int} {l2 : Int} {l3 : Int} {l4 : Bool} {l5 : Int} {l6 : Int} {h : zH} (k : ((0 : Int) ≤ l1 ∧ l1 < 14) ∧ zR (l6 + 1) ∧ zR (h 496 l1) ∧ ((l6 + 1) = (h 496 l1) → tX12_edgeRange_102 G d K l1 l2 l3 l4 l5 l6 h) ∧ (¬ (l6 + 1) = (h 496 l1) → zCb G d mX12_edgeHas [vr 12 466, vi l1, vi l2, vi (l6 + 1)] h (fun x1 h2 => (x1 = true → zR l5 ∧ zR l3 ∧ (¬ l5 = l3 → tX12_edgeRange_160 G d K l1 l2 l3 l4 l5 l6 h2) ∧ (l5 = l3 → (l4 = false → tX12_edgeRange_125 G d K l1 l4 l6 h2) ∧ (l4 = true → tX12_edgeRange_160 G d K l1 l2 l3 l4 l5 l6 h2))) ∧ (x1 = false → tX12_edgeRange_102 G d K l1 l2 l3 l4 l5 l6 h2)))) : tX12_edgeRange_76 G d K l1 l2 l3 l4 l5 l6 h := by
  unfold tX12_edgeRange_76
  refine z_iload dX12_edgeRange_76 rfl rfl ?_
  refine z_iconst dX12_edgeRange_78 rfl ?_
  refine z_iadd dX12_edgeRange_79 rfl ?_
  refine z_aload_n 0 dX12_edgeRange_80 rfl rfl (Nat.le_of_ble_eq_true rfl) rfl ?_
  refine z_getF 12 13 (x := 496) fX12_103 rfl dX12_edgeRange_81 rfl rfl ?_
  refine z_iload_n 1 dX12_edgeRange_84 rfl rfl rfl ?_
  obtain ⟨i9, k⟩ := k
  refine z_iald (x := (h 496 l1)) dX12_edgeRange_85 (by rw [zl_496]; exact i9) rfl rfl ?_
  obtain ⟨r1, r2, ka, kb⟩ := k
  refine z_icmp_eq (tgt := 102) dX12_edgeRange_86 rfl r1 r2 rfl ⟨fun q => ?_, fun q => ?_⟩
  · have k := ka q
    exact z_sub (L' := [some (vr 12 466), some (vi l1), some (vi l2), some (vi l3), some (vi (bi l4)), some (vi l5), some (vi l6), none]) (And.intro rfl (And.intro rfl (And.intro rfl (And.intro rfl (And.intro rfl (And.intro rfl (And.intro rfl trivial))))))) k
  · have k := kb q
    refine z_aload_n 0 dX12_edgeRange_89 rfl rfl (Nat.le_of_ble_eq_true rfl) rfl ?_
    refine z_iload_n 1 dX12_edgeRange_90 rfl rfl rfl ?_
    refine z_iload_n 2 dX12_edgeRange_91 rfl rfl rfl ?_
    refine z_iload dX12_edgeRange_92 rfl rfl ?_
    refine z_iconst dX12_edgeRange_94 rfl ?_
    refine z_iadd dX12_edgeRange_95 rfl ?_
    refine z_callVb vX12_edgeHas kX12_527 dX12_edgeRange_96 rfl (zRo_d d) (as := [vi l1, vi l2, vi (l6 + 1)]) (rest := []) (Nat.le_of_ble_eq_true rfl) rfl rfl (zCb_mono (fun x1 h2 k => ?_) k)
    obtain ⟨ka, kb⟩ := k
    refine z_ifb_ne (tgt := 106) dX12_edgeRange_99 rfl rfl ⟨fun q => ?_, fun q => ?_⟩
    · have k := ka q
      refine z_iconst dX12_edgeRange_106 rfl ?_
      refine z_istore dX12_edgeRange_107 (Nat.le_of_ble_eq_true rfl) (L' := [some (vr 12 466), some (vi l1), some (vi l2), some (vi l3), some (vi (bi l4)), some (vi l5), some (vi l6), some (vi 0)]) rfl rfl ?_
      refine z_iload dX12_edgeRange_109 rfl rfl ?_
      refine z_iload_n 3 dX12_edgeRange_111 rfl rfl rfl ?_
      obtain ⟨r1, r2, ka, kb⟩ := k
      refine z_icmp_ne (tgt := 160) dX12_edgeRange_112 rfl r1 r2 rfl ⟨fun q => ?_, fun q => ?_⟩
      · have k := ka q
        exact z_sub (L' := [some (vr 12 466), some (vi l1), some (vi l2), some (vi l3), some (vi (bi l4)), some (vi l5), some (vi l6), none]) (And.intro rfl (And.intro rfl (And.intro rfl (And.intro rfl (And.intro rfl (And.intro rfl (And.intro rfl trivial))))))) k
      · have k := kb q
        refine z_iload dX12_edgeRange_115 rfl rfl ?_
        obtain ⟨ka, kb⟩ := k
        refine z_ifb_eq (tgt := 125) dX12_edgeRange_117 rfl rfl ⟨fun q => ?_, fun q => ?_⟩
        · have k := ka q
          exact z_sub (L' := [some (vr 12 466), some (vi l1), none, none, some (vi (bi l4)), none, some (vi l6), none]) (And.intro rfl (And.intro rfl (And.intro rfl (And.intro rfl trivial)))) k
        · have k := kb q
          refine z_iload dX12_edgeRange_120 rfl rfl ?_
          refine z_if_eq (tgt := 160) dX12_edgeRange_122 rfl ⟨by decide, by decide⟩ rfl ⟨fun _ => ?_, fun q => absurd q (by decide)⟩
          exact z_sub (L' := [some (vr 12 466), some (vi l1), some (vi l2), some (vi l3), some (vi (bi l4)), some (vi l5), some (vi l6), none]) (And.intro rfl (And.intro rfl (And.intro rfl (And.intro rfl (And.intro rfl (And.intro rfl (And.intro rfl trivial))))))) k
    · have k := kb q
      exact z_sub (L' := [some (vr 12 466), some (vi l1), some (vi l2), some (vi l3), some (vi (bi l4)), some (vi l5), some (vi l6), none]) (And.intro rfl (And.intro rfl (And.intro rfl (And.intro rfl (And.intro rfl (And.intro rfl (And.intro rfl trivial))))))) k
theorem bX12_edgeRange_102 {G : zG} {d : Nat} {K : Int → zH → Prop} {l1 : Int} {l2 : Int} {l3 : Int} {l4 : Bool} {l5 : Int} {l6 : Int} {h : zH} (k : zR l5 ∧ zR l3 ∧ (¬ l5 = l3 → tX12_edgeRange_160 G d K l1 l2 l3 l4 l5 l6 h) ∧ (l5 = l3 → (l4 = false → tX12_edgeRange_125 G d K l1 l4 l6 h) ∧ (l4 = true → tX12_edgeRange_125 G d K l1 l4 l6 h))) : tX12_edgeRange_102 G d K l1 l2 l3 l4 l5 l6 h := by
  unfold tX12_edgeRange_102
  refine z_iconst dX12_edgeRange_102 rfl ?_
  refine z_goto (tgt := 107) dX12_edgeRange_103 rfl ?_
  refine z_istore dX12_edgeRange_107 (Nat.le_of_ble_eq_true rfl) (L' := [some (vr 12 466), some (vi l1), some (vi l2), some (vi l3), some (vi (bi l4)), some (vi l5), some (vi l6), some (vi 1)]) rfl rfl ?_
  refine z_iload dX12_edgeRange_109 rfl rfl ?_
  refine z_iload_n 3 dX12_edgeRange_111 rfl rfl rfl ?_
  obtain ⟨r1, r2, ka, kb⟩ := k
  refine z_icmp_ne (tgt := 160) dX12_edgeRange_112 rfl r1 r2 rfl ⟨fun q => ?_, fun q => ?_⟩
  · have k := ka q
    exact z_sub (L' := [some (vr 12 466), some (vi l1), some (vi l2), some (vi l3), some (vi (bi l4)), some (vi l5), some (vi l6), none]) (And.intro rfl (And.intro rfl (And.intro rfl (And.intro rfl (And.intro rfl (And.intro rfl (And.intro rfl trivial))))))) k
  · have k := kb q
    refine z_iload dX12_edgeRange_115 rfl rfl ?_
    obtain ⟨ka, kb⟩ := k
    refine z_ifb_eq (tgt := 125) dX12_edgeRange_117 rfl rfl ⟨fun q => ?_, fun q => ?_⟩
    · have k := ka q
      exact z_sub (L' := [some (vr 12 466), some (vi l1), none, none, some (vi (bi l4)), none, some (vi l6), none]) (And.intro rfl (And.intro rfl (And.intro rfl (And.intro rfl trivial)))) k
    · have k := kb q
      refine z_iload dX12_edgeRange_120 rfl rfl ?_
      refine z_if_eq (tgt := 160) dX12_edgeRange_122 rfl ⟨by decide, by decide⟩ rfl ⟨fun q => absurd q (by decide), fun _ => ?_⟩
      exact z_sub (L' := [some (vr 12 466), some (vi l1), none, none, some (vi (bi l4)), none, some (vi l6), none]) (And.intro rfl (And.intro rfl (And.intro rfl (And.intro rfl trivial)))) k
theorem bX12_edgeRange_125 {G : zG} {d : Nat} {K : Int → zH → Prop} {l1 : Int} {l4 : Bool} {l6 : Int} {h : zH} (k : (l4 = false → ((0 : Int) ≤ ((l1 * 128) + l6) ∧ ((l1 * 128) + l6) < 1792) ∧ zCi G d mX12_good [vr 12 466, vi (h 497 ((l1 * 128) + l6))] h (fun x1 h2 => K x1 h2)) ∧ (l4 = true → zCi G d mX12_blockEnd [vr 12 466, vi l1, vi l6] h (fun x3 h4 => zCi G d mX12_good [vr 12 466, vi (x3 - 1)] h4 (fun x5 h6 => K x5 h6)))) : tX12_edgeRange_125 G d K l1 l4 l6 h := by
  unfold tX12_edgeRange_125
  refine z_aload_n 0 dX12_edgeRange_125 rfl rfl (Nat.le_of_ble_eq_true rfl) rfl ?_
  refine z_iload dX12_edgeRange_126 rfl rfl ?_
  obtain ⟨ka, kb⟩ := k
  refine z_ifb_eq (tgt := 143) dX12_edgeRange_128 rfl rfl ⟨fun q => ?_, fun q => ?_⟩
  · have k := ka q
    refine z_aload_n 0 dX12_edgeRange_143 rfl rfl (Nat.le_of_ble_eq_true rfl) rfl ?_
    refine z_getF 12 13 (x := 497) fX12_106 rfl dX12_edgeRange_144 rfl rfl ?_
    refine z_iload_n 1 dX12_edgeRange_147 rfl rfl rfl ?_
    refine z_sipush dX12_edgeRange_148 rfl rfl ?_
    refine z_imul dX12_edgeRange_151 rfl ?_
    refine z_iload dX12_edgeRange_152 rfl rfl ?_
    refine z_iadd dX12_edgeRange_154 rfl ?_
    obtain ⟨i9, k⟩ := k
    refine z_iald (x := (h 497 ((l1 * 128) + l6))) dX12_edgeRange_155 (by rw [zl_497]; exact i9) rfl rfl ?_
    refine z_callVi vX12_good kX12_196 dX12_edgeRange_156 rfl (zRo_d d) (as := [vi (h 497 ((l1 * 128) + l6))]) (rest := []) (Nat.le_of_ble_eq_true rfl) rfl rfl (zCi_mono (fun x1 h2 k => ?_) k)
    exact z_ireturn rfl dX12_edgeRange_159 ⟨_, rfl, k⟩
  · have k := kb q
    refine z_aload_n 0 dX12_edgeRange_131 rfl rfl (Nat.le_of_ble_eq_true rfl) rfl ?_
    refine z_iload_n 1 dX12_edgeRange_132 rfl rfl rfl ?_
    refine z_iload dX12_edgeRange_133 rfl rfl ?_
    refine z_callVi vX12_blockEnd kX12_571 dX12_edgeRange_135 rfl (zRo_d d) (as := [vi l1, vi l6]) (rest := [vr 12 466]) (Nat.le_of_ble_eq_true rfl) rfl rfl (zCi_mono (fun x3 h4 k => ?_) k)
    refine z_iconst dX12_edgeRange_138 rfl ?_
    refine z_isub dX12_edgeRange_139 rfl ?_
    refine z_goto (tgt := 156) dX12_edgeRange_140 rfl ?_
    refine z_callVi vX12_good kX12_196 dX12_edgeRange_156 rfl (zRo_d d) (as := [vi (x3 - 1)]) (rest := []) (Nat.le_of_ble_eq_true rfl) rfl rfl (zCi_mono (fun x5 h6 k => ?_) k)
    exact z_ireturn rfl dX12_edgeRange_159 ⟨_, rfl, k⟩
theorem bX12_edgeRange_160 {G : zG} {d : Nat} {K : Int → zH → Prop} {l1 : Int} {l2 : Int} {l3 : Int} {l4 : Bool} {l5 : Int} {l6 : Int} {h : zH} (k : tX12_edgeRange_30 G d K l1 l2 l3 l4 l5 (l6 + 1) h) : tX12_edgeRange_160 G d K l1 l2 l3 l4 l5 l6 h := by
  unfold tX12_edgeRange_160
  refine z_iinc dX12_edgeRange_160 rfl (Nat.le_of_ble_eq_true rfl) (L' := [some (vr 12 466), some (vi l1), some (vi l2), some (vi l3), some (vi (bi l4)), some (vi l5), some (vi (l6 + 1)), none]) rfl rfl ?_
  refine z_goto (tgt := 30) dX12_edgeRange_163 rfl ?_
  exact z_sub (L' := [some (vr 12 466), some (vi l1), some (vi l2), some (vi l3), some (vi (bi l4)), some (vi l5), some (vi (l6 + 1)), none]) (And.intro rfl (And.intro rfl (And.intro rfl (And.intro rfl (And.intro rfl (And.intro rfl (And.intro rfl trivial))))))) k
theorem eX12_edgeRange {G : zG} {d : Nat} {K : Int → zH → Prop} {l1 : Int} {l2 : Int} {l3 : Int} {l4 : Bool} {h : zH} (k : tX12_edgeRange_0 G d K l1 l2 l3 l4 h) : zCi G (d + 1) mX12_edgeRange [vr 12 466, vi l1, vi l2, vi l3, vi (bi l4)] h K := z_entry (by decide +kernel) (Nat.le_of_ble_eq_true rfl) rfl k
def tX12_free_0 (G : zG) (d : Nat) (K : Int → zH → Prop) (l1 : Int) (l2 : Int) (l3 : Bool) (h : zH) : Prop := zTi G (d + 1) mX12_free K 0 [some (vr 12 466), some (vi l1), some (vi l2), some (vi (bi l3))] [] h
theorem bX12_free_0 {G : zG} {d : Nat} {K : Int → zH → Prop} {l1 : Int} {l2 : Int} {l3 : Bool} {h : zH} (k : zCb G d mX12_isMachine [vr 12 466, vi l1] (zup h 466 0 0) (fun x1 h2 => (x1 = false → zCi G d mX12_refused [vr 12 466, vi 1] h2 (fun x3 h4 => K x3 h4)) ∧ (x1 = true → zR l2 ∧ (l2 < 0 → zCi G d mX12_refused [vr 12 466, vi 1] h2 (fun x5 h6 => K x5 h6)) ∧ (¬ l2 < 0 → ((0 : Int) ≤ l1 ∧ l1 < 14) ∧ zR l2 ∧ zR (h2 495 l1) ∧ (l2 < (h2 495 l1) → (l3 = false → ((0 : Int) ≤ ((l1 * 64) + l2) ∧ ((l1 * 64) + l2) < 896) ∧ zCi G d mX12_good [vr 12 466, vi (h2 500 ((l1 * 64) + l2))] h2 (fun x7 h8 => K x7 h8)) ∧ (l3 = true → ((0 : Int) ≤ ((l1 * 64) + l2) ∧ ((l1 * 64) + l2) < 896) ∧ zCi G d mX12_good [vr 12 466, vi (h2 501 ((l1 * 64) + l2))] h2 (fun x9 h10 => K x9 h10))) ∧ (¬ l2 < (h2 495 l1) → zCi G d mX12_refused [vr 12 466, vi 1] h2 (fun x11 h12 => K x11 h12)))))) : tX12_free_0 G d K l1 l2 l3 h := by
  unfold tX12_free_0
  refine z_aload_n 0 dX12_free_0 rfl rfl (Nat.le_of_ble_eq_true rfl) rfl ?_
  refine z_iconst dX12_free_1 rfl ?_
  refine z_putI 12 gX12_190 dX12_free_2 rfl ?_
  refine z_aload_n 0 dX12_free_5 rfl rfl (Nat.le_of_ble_eq_true rfl) rfl ?_
  refine z_iload_n 1 dX12_free_6 rfl rfl rfl ?_
  refine z_callVb vX12_isMachine kX12_561 dX12_free_7 rfl (zRo_d d) (as := [vi l1]) (rest := []) (Nat.le_of_ble_eq_true rfl) rfl rfl (zCb_mono (fun x1 h2 k => ?_) k)
  obtain ⟨ka, kb⟩ := k
  refine z_ifb_eq (tgt := 27) dX12_free_10 rfl rfl ⟨fun q => ?_, fun q => ?_⟩
  · have k := ka q
    refine z_aload_n 0 dX12_free_27 rfl rfl (Nat.le_of_ble_eq_true rfl) rfl ?_
    refine z_iconst dX12_free_28 rfl ?_
    refine z_callVi vX12_refused kX12_426 dX12_free_29 rfl (zRo_d d) (as := [vi 1]) (rest := []) (Nat.le_of_ble_eq_true rfl) rfl rfl (zCi_mono (fun x3 h4 k => ?_) k)
    exact z_ireturn rfl dX12_free_32 ⟨_, rfl, k⟩
  · have k := kb q
    refine z_iload_n 2 dX12_free_13 rfl rfl rfl ?_
    obtain ⟨r1, ka, kb⟩ := k
    refine z_if_lt (tgt := 27) dX12_free_14 rfl r1 rfl ⟨fun q => ?_, fun q => ?_⟩
    · have k := ka q
      refine z_aload_n 0 dX12_free_27 rfl rfl (Nat.le_of_ble_eq_true rfl) rfl ?_
      refine z_iconst dX12_free_28 rfl ?_
      refine z_callVi vX12_refused kX12_426 dX12_free_29 rfl (zRo_d d) (as := [vi 1]) (rest := []) (Nat.le_of_ble_eq_true rfl) rfl rfl (zCi_mono (fun x5 h6 k => ?_) k)
      exact z_ireturn rfl dX12_free_32 ⟨_, rfl, k⟩
    · have k := kb q
      refine z_iload_n 2 dX12_free_17 rfl rfl rfl ?_
      refine z_aload_n 0 dX12_free_18 rfl rfl (Nat.le_of_ble_eq_true rfl) rfl ?_
      refine z_getF 12 13 (x := 495) fX12_100 rfl dX12_free_19 rfl rfl ?_
      refine z_iload_n 1 dX12_free_22 rfl rfl rfl ?_
      obtain ⟨i9, k⟩ := k
      refine z_iald (x := (h2 495 l1)) dX12_free_23 (by rw [zl_495]; exact i9) rfl rfl ?_
      obtain ⟨r1, r2, ka, kb⟩ := k
      refine z_icmp_lt (tgt := 33) dX12_free_24 rfl r1 r2 rfl ⟨fun q => ?_, fun q => ?_⟩
      · have k := ka q
        refine z_aload_n 0 dX12_free_33 rfl rfl (Nat.le_of_ble_eq_true rfl) rfl ?_
        refine z_iload_n 3 dX12_free_34 rfl rfl rfl ?_
        obtain ⟨ka, kb⟩ := k
        refine z_ifb_eq (tgt := 52) dX12_free_35 rfl rfl ⟨fun q => ?_, fun q => ?_⟩
        · have k := ka q
          refine z_aload_n 0 dX12_free_52 rfl rfl (Nat.le_of_ble_eq_true rfl) rfl ?_
          refine z_getF 12 13 (x := 500) fX12_115 rfl dX12_free_53 rfl rfl ?_
          refine z_iload_n 1 dX12_free_56 rfl rfl rfl ?_
          refine z_bipush dX12_free_57 rfl rfl ?_
          refine z_imul dX12_free_59 rfl ?_
          refine z_iload_n 2 dX12_free_60 rfl rfl rfl ?_
          refine z_iadd dX12_free_61 rfl ?_
          obtain ⟨i9, k⟩ := k
          refine z_iald (x := (h2 500 ((l1 * 64) + l2))) dX12_free_62 (by rw [zl_500]; exact i9) rfl rfl ?_
          refine z_callVi vX12_good kX12_196 dX12_free_63 rfl (zRo_d d) (as := [vi (h2 500 ((l1 * 64) + l2))]) (rest := []) (Nat.le_of_ble_eq_true rfl) rfl rfl (zCi_mono (fun x7 h8 k => ?_) k)
          exact z_ireturn rfl dX12_free_66 ⟨_, rfl, k⟩
        · have k := kb q
          refine z_aload_n 0 dX12_free_38 rfl rfl (Nat.le_of_ble_eq_true rfl) rfl ?_
          refine z_getF 12 13 (x := 501) fX12_118 rfl dX12_free_39 rfl rfl ?_
          refine z_iload_n 1 dX12_free_42 rfl rfl rfl ?_
          refine z_bipush dX12_free_43 rfl rfl ?_
          refine z_imul dX12_free_45 rfl ?_
          refine z_iload_n 2 dX12_free_46 rfl rfl rfl ?_
          refine z_iadd dX12_free_47 rfl ?_
          obtain ⟨i9, k⟩ := k
          refine z_iald (x := (h2 501 ((l1 * 64) + l2))) dX12_free_48 (by rw [zl_501]; exact i9) rfl rfl ?_
          refine z_goto (tgt := 63) dX12_free_49 rfl ?_
          refine z_callVi vX12_good kX12_196 dX12_free_63 rfl (zRo_d d) (as := [vi (h2 501 ((l1 * 64) + l2))]) (rest := []) (Nat.le_of_ble_eq_true rfl) rfl rfl (zCi_mono (fun x9 h10 k => ?_) k)
          exact z_ireturn rfl dX12_free_66 ⟨_, rfl, k⟩
      · have k := kb q
        refine z_aload_n 0 dX12_free_27 rfl rfl (Nat.le_of_ble_eq_true rfl) rfl ?_
        refine z_iconst dX12_free_28 rfl ?_
        refine z_callVi vX12_refused kX12_426 dX12_free_29 rfl (zRo_d d) (as := [vi 1]) (rest := []) (Nat.le_of_ble_eq_true rfl) rfl rfl (zCi_mono (fun x11 h12 k => ?_) k)
        exact z_ireturn rfl dX12_free_32 ⟨_, rfl, k⟩
theorem eX12_free {G : zG} {d : Nat} {K : Int → zH → Prop} {l1 : Int} {l2 : Int} {l3 : Bool} {h : zH} (k : tX12_free_0 G d K l1 l2 l3 h) : zCi G (d + 1) mX12_free [vr 12 466, vi l1, vi l2, vi (bi l3)] h K := z_entry (by decide +kernel) (Nat.le_of_ble_eq_true rfl) rfl k
def tX12_ends_0 (G : zG) (d : Nat) (K : Int → zH → Prop) (l1 : Int) (h : zH) : Prop := zTl G (d + 1) mX12_ends K 0 [some (vr 12 466), some (vi l1)] [] h
theorem bX12_ends_0 {G : zG} {d : Nat} {K : Int → zH → Prop} {l1 : Int} {h : zH} (k : zCb G d mX12_isMachine [vr 12 466, vi l1] (zup h 466 0 0) (fun x1 h2 => (x1 = true → ((0 : Int) ≤ l1 ∧ l1 < 14) ∧ zCl G d mX12_goodLong [vr 12 466, vl (h2 502 l1)] h2 (fun x3 h4 => K x3 h4)) ∧ (x1 = false → zCi G d mX12_refused [vr 12 466, vi 1] h2 (fun x5 h6 => zR x5 ∧ K x5 h6)))) : tX12_ends_0 G d K l1 h := by
  unfold tX12_ends_0
  refine z_aload_n 0 dX12_ends_0 rfl rfl (Nat.le_of_ble_eq_true rfl) rfl ?_
  refine z_iconst dX12_ends_1 rfl ?_
  refine z_putI 12 gX12_190 dX12_ends_2 rfl ?_
  refine z_aload_n 0 dX12_ends_5 rfl rfl (Nat.le_of_ble_eq_true rfl) rfl ?_
  refine z_iload_n 1 dX12_ends_6 rfl rfl rfl ?_
  refine z_callVb vX12_isMachine kX12_561 dX12_ends_7 rfl (zRo_d d) (as := [vi l1]) (rest := []) (Nat.le_of_ble_eq_true rfl) rfl rfl (zCb_mono (fun x1 h2 k => ?_) k)
  obtain ⟨ka, kb⟩ := k
  refine z_ifb_ne (tgt := 20) dX12_ends_10 rfl rfl ⟨fun q => ?_, fun q => ?_⟩
  · have k := ka q
    refine z_aload_n 0 dX12_ends_20 rfl rfl (Nat.le_of_ble_eq_true rfl) rfl ?_
    refine z_aload_n 0 dX12_ends_21 rfl rfl (Nat.le_of_ble_eq_true rfl) rfl ?_
    refine z_getF 12 14 (x := 502) fX12_121 rfl dX12_ends_22 rfl rfl ?_
    refine z_iload_n 1 dX12_ends_25 rfl rfl rfl ?_
    obtain ⟨i9, k⟩ := k
    refine z_lald (x := (h2 502 l1)) dX12_ends_26 (by rw [zl_502]; exact i9) rfl rfl ?_
    refine z_callVl vX12_goodLong kX12_583 dX12_ends_27 rfl (zRo_d d) (as := [vl (h2 502 l1)]) (rest := []) (Nat.le_of_ble_eq_true rfl) rfl rfl (zCl_mono (fun x3 h4 k => ?_) k)
    exact z_lreturn rfl dX12_ends_30 ⟨_, rfl, k⟩
  · have k := kb q
    refine z_aload_n 0 dX12_ends_13 rfl rfl (Nat.le_of_ble_eq_true rfl) rfl ?_
    refine z_iconst dX12_ends_14 rfl ?_
    refine z_callVi vX12_refused kX12_426 dX12_ends_15 rfl (zRo_d d) (as := [vi 1]) (rest := []) (Nat.le_of_ble_eq_true rfl) rfl rfl (zCi_mono (fun x5 h6 k => ?_) k)
    obtain ⟨r9, k⟩ := k
    refine z_i2l dX12_ends_18 r9 rfl ?_
    exact z_lreturn rfl dX12_ends_19 ⟨_, rfl, k⟩
theorem eX12_ends {G : zG} {d : Nat} {K : Int → zH → Prop} {l1 : Int} {h : zH} (k : tX12_ends_0 G d K l1 h) : zCl G (d + 1) mX12_ends [vr 12 466, vi l1] h K := z_entry (by decide +kernel) (Nat.le_of_ble_eq_true rfl) rfl k
def tX12_block_0 (G : zG) (d : Nat) (K : Int → zH → Prop) (l1 : Int) (l2 : Int) (h : zH) : Prop := zTi G (d + 1) mX12_block K 0 [some (vr 12 466), some (vi l1), some (vi l2)] [] h
theorem bX12_block_0 {G : zG} {d : Nat} {K : Int → zH → Prop} {l1 : Int} {l2 : Int} {h : zH} (k : zCb G d mX12_isMachine [vr 12 466, vi l1] (zup h 466 0 0) (fun x1 h2 => (x1 = false → zCi G d mX12_refused [vr 12 466, vi 1] h2 (fun x3 h4 => K x3 h4)) ∧ (x1 = true → zR l2 ∧ (l2 < 0 → zCi G d mX12_refused [vr 12 466, vi 1] h2 (fun x5 h6 => K x5 h6)) ∧ (¬ l2 < 0 → ((0 : Int) ≤ l1 ∧ l1 < 14) ∧ zR l2 ∧ zR (h2 496 l1) ∧ (l2 < (h2 496 l1) → ((0 : Int) ≤ ((l1 * 128) + l2) ∧ ((l1 * 128) + l2) < 1792) ∧ zCi G d mX12_good [vr 12 466, vi (h2 497 ((l1 * 128) + l2))] h2 (fun x7 h8 => K x7 h8)) ∧ (¬ l2 < (h2 496 l1) → zCi G d mX12_refused [vr 12 466, vi 1] h2 (fun x9 h10 => K x9 h10)))))) : tX12_block_0 G d K l1 l2 h := by
  unfold tX12_block_0
  refine z_aload_n 0 dX12_block_0 rfl rfl (Nat.le_of_ble_eq_true rfl) rfl ?_
  refine z_iconst dX12_block_1 rfl ?_
  refine z_putI 12 gX12_190 dX12_block_2 rfl ?_
  refine z_aload_n 0 dX12_block_5 rfl rfl (Nat.le_of_ble_eq_true rfl) rfl ?_
  refine z_iload_n 1 dX12_block_6 rfl rfl rfl ?_
  refine z_callVb vX12_isMachine kX12_561 dX12_block_7 rfl (zRo_d d) (as := [vi l1]) (rest := []) (Nat.le_of_ble_eq_true rfl) rfl rfl (zCb_mono (fun x1 h2 k => ?_) k)
  obtain ⟨ka, kb⟩ := k
  refine z_ifb_eq (tgt := 27) dX12_block_10 rfl rfl ⟨fun q => ?_, fun q => ?_⟩
  · have k := ka q
    refine z_aload_n 0 dX12_block_27 rfl rfl (Nat.le_of_ble_eq_true rfl) rfl ?_
    refine z_iconst dX12_block_28 rfl ?_
    refine z_callVi vX12_refused kX12_426 dX12_block_29 rfl (zRo_d d) (as := [vi 1]) (rest := []) (Nat.le_of_ble_eq_true rfl) rfl rfl (zCi_mono (fun x3 h4 k => ?_) k)
    exact z_ireturn rfl dX12_block_32 ⟨_, rfl, k⟩
  · have k := kb q
    refine z_iload_n 2 dX12_block_13 rfl rfl rfl ?_
    obtain ⟨r1, ka, kb⟩ := k
    refine z_if_lt (tgt := 27) dX12_block_14 rfl r1 rfl ⟨fun q => ?_, fun q => ?_⟩
    · have k := ka q
      refine z_aload_n 0 dX12_block_27 rfl rfl (Nat.le_of_ble_eq_true rfl) rfl ?_
      refine z_iconst dX12_block_28 rfl ?_
      refine z_callVi vX12_refused kX12_426 dX12_block_29 rfl (zRo_d d) (as := [vi 1]) (rest := []) (Nat.le_of_ble_eq_true rfl) rfl rfl (zCi_mono (fun x5 h6 k => ?_) k)
      exact z_ireturn rfl dX12_block_32 ⟨_, rfl, k⟩
    · have k := kb q
      refine z_iload_n 2 dX12_block_17 rfl rfl rfl ?_
      refine z_aload_n 0 dX12_block_18 rfl rfl (Nat.le_of_ble_eq_true rfl) rfl ?_
      refine z_getF 12 13 (x := 496) fX12_103 rfl dX12_block_19 rfl rfl ?_
      refine z_iload_n 1 dX12_block_22 rfl rfl rfl ?_
      obtain ⟨i9, k⟩ := k
      refine z_iald (x := (h2 496 l1)) dX12_block_23 (by rw [zl_496]; exact i9) rfl rfl ?_
      obtain ⟨r1, r2, ka, kb⟩ := k
      refine z_icmp_lt (tgt := 33) dX12_block_24 rfl r1 r2 rfl ⟨fun q => ?_, fun q => ?_⟩
      · have k := ka q
        refine z_aload_n 0 dX12_block_33 rfl rfl (Nat.le_of_ble_eq_true rfl) rfl ?_
        refine z_aload_n 0 dX12_block_34 rfl rfl (Nat.le_of_ble_eq_true rfl) rfl ?_
        refine z_getF 12 13 (x := 497) fX12_106 rfl dX12_block_35 rfl rfl ?_
        refine z_iload_n 1 dX12_block_38 rfl rfl rfl ?_
        refine z_sipush dX12_block_39 rfl rfl ?_
        refine z_imul dX12_block_42 rfl ?_
        refine z_iload_n 2 dX12_block_43 rfl rfl rfl ?_
        refine z_iadd dX12_block_44 rfl ?_
        obtain ⟨i9, k⟩ := k
        refine z_iald (x := (h2 497 ((l1 * 128) + l2))) dX12_block_45 (by rw [zl_497]; exact i9) rfl rfl ?_
        refine z_callVi vX12_good kX12_196 dX12_block_46 rfl (zRo_d d) (as := [vi (h2 497 ((l1 * 128) + l2))]) (rest := []) (Nat.le_of_ble_eq_true rfl) rfl rfl (zCi_mono (fun x7 h8 k => ?_) k)
        exact z_ireturn rfl dX12_block_49 ⟨_, rfl, k⟩
      · have k := kb q
        refine z_aload_n 0 dX12_block_27 rfl rfl (Nat.le_of_ble_eq_true rfl) rfl ?_
        refine z_iconst dX12_block_28 rfl ?_
        refine z_callVi vX12_refused kX12_426 dX12_block_29 rfl (zRo_d d) (as := [vi 1]) (rest := []) (Nat.le_of_ble_eq_true rfl) rfl rfl (zCi_mono (fun x9 h10 k => ?_) k)
        exact z_ireturn rfl dX12_block_32 ⟨_, rfl, k⟩
theorem eX12_block {G : zG} {d : Nat} {K : Int → zH → Prop} {l1 : Int} {l2 : Int} {h : zH} (k : tX12_block_0 G d K l1 l2 h) : zCi G (d + 1) mX12_block [vr 12 466, vi l1, vi l2] h K := z_entry (by decide +kernel) (Nat.le_of_ble_eq_true rfl) rfl k
def tX12_sheaf_0 (G : zG) (d : Nat) (K : Int → zH → Prop) (l1 : Int) (l2 : Int) (h : zH) : Prop := zTl G (d + 1) mX12_sheaf K 0 [some (vr 12 466), some (vi l1), some (vi l2)] [] h
theorem bX12_sheaf_0 {G : zG} {d : Nat} {K : Int → zH → Prop} {l1 : Int} {l2 : Int} {h : zH} (k : zCb G d mX12_isMachine [vr 12 466, vi l1] (zup h 466 0 0) (fun x1 h2 => (x1 = false → zCi G d mX12_refused [vr 12 466, vi 1] h2 (fun x3 h4 => zR x3 ∧ K x3 h4)) ∧ (x1 = true → zR l2 ∧ (0 ≤ l2 → zCb G d mX12_gathers [vr 12 466, vi l1, vi 0] h2 (fun x5 h6 => zR l2 ∧ zR (h6 506 0) ∧ (l2 < (h6 506 0) → ((0 : Int) ≤ l2 ∧ l2 < 80) ∧ zCl G d mX12_goodLong [vr 12 466, vl (h6 505 l2)] h6 (fun x7 h8 => K x7 h8)) ∧ (¬ l2 < (h6 506 0) → zCi G d mX12_refused [vr 12 466, vi 1] h6 (fun x9 h10 => zR x9 ∧ K x9 h10)))) ∧ (¬ 0 ≤ l2 → zCi G d mX12_refused [vr 12 466, vi 1] h2 (fun x11 h12 => zR x11 ∧ K x11 h12))))) : tX12_sheaf_0 G d K l1 l2 h := by
  unfold tX12_sheaf_0
  refine z_aload_n 0 dX12_sheaf_0 rfl rfl (Nat.le_of_ble_eq_true rfl) rfl ?_
  refine z_iconst dX12_sheaf_1 rfl ?_
  refine z_putI 12 gX12_190 dX12_sheaf_2 rfl ?_
  refine z_aload_n 0 dX12_sheaf_5 rfl rfl (Nat.le_of_ble_eq_true rfl) rfl ?_
  refine z_iload_n 1 dX12_sheaf_6 rfl rfl rfl ?_
  refine z_callVb vX12_isMachine kX12_561 dX12_sheaf_7 rfl (zRo_d d) (as := [vi l1]) (rest := []) (Nat.le_of_ble_eq_true rfl) rfl rfl (zCb_mono (fun x1 h2 k => ?_) k)
  obtain ⟨ka, kb⟩ := k
  refine z_ifb_eq (tgt := 17) dX12_sheaf_10 rfl rfl ⟨fun q => ?_, fun q => ?_⟩
  · have k := ka q
    refine z_aload_n 0 dX12_sheaf_17 rfl rfl (Nat.le_of_ble_eq_true rfl) rfl ?_
    refine z_iconst dX12_sheaf_18 rfl ?_
    refine z_callVi vX12_refused kX12_426 dX12_sheaf_19 rfl (zRo_d d) (as := [vi 1]) (rest := []) (Nat.le_of_ble_eq_true rfl) rfl rfl (zCi_mono (fun x3 h4 k => ?_) k)
    obtain ⟨r9, k⟩ := k
    refine z_i2l dX12_sheaf_22 r9 rfl ?_
    exact z_lreturn rfl dX12_sheaf_23 ⟨_, rfl, k⟩
  · have k := kb q
    refine z_iload_n 2 dX12_sheaf_13 rfl rfl rfl ?_
    obtain ⟨r1, ka, kb⟩ := k
    refine z_if_ge (tgt := 24) dX12_sheaf_14 rfl r1 rfl ⟨fun q => ?_, fun q => ?_⟩
    · have k := ka q
      refine z_aload_n 0 dX12_sheaf_24 rfl rfl (Nat.le_of_ble_eq_true rfl) rfl ?_
      refine z_iload_n 1 dX12_sheaf_25 rfl rfl rfl ?_
      refine z_iconst dX12_sheaf_26 rfl ?_
      refine z_callVb vX12_gathers kX12_521 dX12_sheaf_27 rfl (zRo_d d) (as := [vi l1, vi 0]) (rest := []) (Nat.le_of_ble_eq_true rfl) rfl rfl (zCb_mono (fun x5 h6 k => ?_) k)
      refine z_pop dX12_sheaf_30 (fun q => by cases q) rfl ?_
      refine z_iload_n 2 dX12_sheaf_31 rfl rfl rfl ?_
      refine z_aload_n 0 dX12_sheaf_32 rfl rfl (Nat.le_of_ble_eq_true rfl) rfl ?_
      refine z_getF 12 13 (x := 506) fX12_133 rfl dX12_sheaf_33 rfl rfl ?_
      refine z_iconst dX12_sheaf_36 rfl ?_
      refine z_iald (x := (h6 506 0)) dX12_sheaf_37 (by rw [zl_506]; decide) rfl rfl ?_
      obtain ⟨r1, r2, ka, kb⟩ := k
      refine z_icmp_lt (tgt := 48) dX12_sheaf_38 rfl r1 r2 rfl ⟨fun q => ?_, fun q => ?_⟩
      · have k := ka q
        refine z_aload_n 0 dX12_sheaf_48 rfl rfl (Nat.le_of_ble_eq_true rfl) rfl ?_
        refine z_aload_n 0 dX12_sheaf_49 rfl rfl (Nat.le_of_ble_eq_true rfl) rfl ?_
        refine z_getF 12 14 (x := 505) fX12_130 rfl dX12_sheaf_50 rfl rfl ?_
        refine z_iload_n 2 dX12_sheaf_53 rfl rfl rfl ?_
        obtain ⟨i9, k⟩ := k
        refine z_lald (x := (h6 505 l2)) dX12_sheaf_54 (by rw [zl_505]; exact i9) rfl rfl ?_
        refine z_callVl vX12_goodLong kX12_583 dX12_sheaf_55 rfl (zRo_d d) (as := [vl (h6 505 l2)]) (rest := []) (Nat.le_of_ble_eq_true rfl) rfl rfl (zCl_mono (fun x7 h8 k => ?_) k)
        exact z_lreturn rfl dX12_sheaf_58 ⟨_, rfl, k⟩
      · have k := kb q
        refine z_aload_n 0 dX12_sheaf_41 rfl rfl (Nat.le_of_ble_eq_true rfl) rfl ?_
        refine z_iconst dX12_sheaf_42 rfl ?_
        refine z_callVi vX12_refused kX12_426 dX12_sheaf_43 rfl (zRo_d d) (as := [vi 1]) (rest := []) (Nat.le_of_ble_eq_true rfl) rfl rfl (zCi_mono (fun x9 h10 k => ?_) k)
        obtain ⟨r9, k⟩ := k
        refine z_i2l dX12_sheaf_46 r9 rfl ?_
        exact z_lreturn rfl dX12_sheaf_47 ⟨_, rfl, k⟩
    · have k := kb q
      refine z_aload_n 0 dX12_sheaf_17 rfl rfl (Nat.le_of_ble_eq_true rfl) rfl ?_
      refine z_iconst dX12_sheaf_18 rfl ?_
      refine z_callVi vX12_refused kX12_426 dX12_sheaf_19 rfl (zRo_d d) (as := [vi 1]) (rest := []) (Nat.le_of_ble_eq_true rfl) rfl rfl (zCi_mono (fun x11 h12 k => ?_) k)
      obtain ⟨r9, k⟩ := k
      refine z_i2l dX12_sheaf_22 r9 rfl ?_
      exact z_lreturn rfl dX12_sheaf_23 ⟨_, rfl, k⟩
theorem eX12_sheaf {G : zG} {d : Nat} {K : Int → zH → Prop} {l1 : Int} {l2 : Int} {h : zH} (k : tX12_sheaf_0 G d K l1 l2 h) : zCl G (d + 1) mX12_sheaf [vr 12 466, vi l1, vi l2] h K := z_entry (by decide +kernel) (Nat.le_of_ble_eq_true rfl) rfl k
def tX12_reached_0 (G : zG) (d : Nat) (K : Int → zH → Prop) (l1 : Int) (l2 : Int) (l4 : Bool) (h : zH) : Prop := zTl G (d + 1) mX12_reached K 0 [some (vr 12 466), some (vi l1), some (vl l2), none, some (vi (bi l4)), none, none, none, none, none, none] [] h
def tX12_reached_6 (G : zG) (d : Nat) (K : Int → zH → Prop) (l1 : Int) (l4 : Bool) (l5 : Int) (l7 : Int) (h : zH) : Prop := zTl G (d + 1) mX12_reached K 6 [some (vr 12 466), some (vi l1), none, none, some (vi (bi l4)), some (vl l5), none, some (vi l7), none, none, none] [] h
def tX12_reached_22 (G : zG) (d : Nat) (K : Int → zH → Prop) (l1 : Int) (l4 : Bool) (l5 : Int) (l8 : Int) (l10 : Int) (h : zH) : Prop := zTl G (d + 1) mX12_reached K 22 [some (vr 12 466), some (vi l1), none, none, some (vi (bi l4)), some (vl l5), none, none, some (vl l8), none, some (vi l10)] [] h
def tX12_reached_98 (G : zG) (d : Nat) (K : Int → zH → Prop) (l1 : Int) (l4 : Bool) (l5 : Int) (l8 : Int) (l10 : Int) (h : zH) : Prop := zTl G (d + 1) mX12_reached K 98 [some (vr 12 466), some (vi l1), none, none, some (vi (bi l4)), some (vl l5), none, none, some (vl l8), none, some (vi l10)] [] h
theorem bX12_reached_0 {G : zG} {d : Nat} {K : Int → zH → Prop} {l1 : Int} {l2 : Int} {l4 : Bool} {h : zH} (k : tX12_reached_6 G d K l1 l4 l2 1 h) : tX12_reached_0 G d K l1 l2 l4 h := by
  unfold tX12_reached_0
  refine z_lload_n 2 dX12_reached_0 rfl rfl rfl ?_
  refine z_lstore dX12_reached_1 (Nat.le_of_ble_eq_true rfl) (L' := [some (vr 12 466), some (vi l1), some (vl l2), none, some (vi (bi l4)), some (vl l2), none, none, none, none, none]) rfl rfl ?_
  refine z_iconst dX12_reached_3 rfl ?_
  refine z_istore dX12_reached_4 (Nat.le_of_ble_eq_true rfl) (L' := [some (vr 12 466), some (vi l1), some (vl l2), none, some (vi (bi l4)), some (vl l2), none, some (vi 1), none, none, none]) rfl rfl ?_
  exact z_sub (L' := [some (vr 12 466), some (vi l1), none, none, some (vi (bi l4)), some (vl l2), none, some (vi 1), none, none, none]) (And.intro rfl (And.intro rfl (And.intro rfl (And.intro rfl (And.intro rfl trivial))))) k
theorem bX12_reached_6 {G : zG} {d : Nat} {K : Int → zH → Prop} {l1 : Int} {l4 : Bool} {l5 : Int} {l7 : Int} {h : zH} (k : zR l7 ∧ (l7 = 0 → K l5 h) ∧ (¬ l7 = 0 → tX12_reached_22 G d K l1 l4 l5 l5 (l1 * 160) h)) : tX12_reached_6 G d K l1 l4 l5 l7 h := by
  unfold tX12_reached_6
  refine z_iload dX12_reached_6 rfl rfl ?_
  obtain ⟨r1, ka, kb⟩ := k
  refine z_if_eq (tgt := 161) dX12_reached_8 rfl r1 rfl ⟨fun q => ?_, fun q => ?_⟩
  · have k := ka q
    refine z_lload dX12_reached_161 rfl rfl ?_
    exact z_lreturn rfl dX12_reached_163 ⟨_, rfl, k⟩
  · have k := kb q
    refine z_lload dX12_reached_11 rfl rfl ?_
    refine z_lstore dX12_reached_13 (Nat.le_of_ble_eq_true rfl) (L' := [some (vr 12 466), some (vi l1), none, none, some (vi (bi l4)), some (vl l5), none, some (vi l7), some (vl l5), none, none]) rfl rfl ?_
    refine z_iload_n 1 dX12_reached_15 rfl rfl rfl ?_
    refine z_sipush dX12_reached_16 rfl rfl ?_
    refine z_imul dX12_reached_19 rfl ?_
    refine z_istore dX12_reached_20 (Nat.le_of_ble_eq_true rfl) (L' := [some (vr 12 466), some (vi l1), none, none, some (vi (bi l4)), some (vl l5), none, some (vi l7), some (vl l5), none, some (vi (l1 * 160))]) rfl rfl ?_
    exact z_sub (L' := [some (vr 12 466), some (vi l1), none, none, some (vi (bi l4)), some (vl l5), none, none, some (vl l5), none, some (vi (l1 * 160))]) (And.intro rfl (And.intro rfl (And.intro rfl (And.intro rfl (And.intro rfl (And.intro rfl trivial)))))) k
theorem bX12_reached_22 {G : zG} {d : Nat} {K : Int → zH → Prop} {l1 : Int} {l4 : Bool} {l5 : Int} {l8 : Int} {l10 : Int} {h : zH} (k : ((0 : Int) ≤ l1 ∧ l1 < 14) ∧ zR l10 ∧ zR ((l1 * 160) + (h 494 l1)) ∧ (((l1 * 160) + (h 494 l1)) ≤ l10 → tX12_reached_98 G d K l1 l4 l5 l8 (l1 * 64) h) ∧ (¬ ((l1 * 160) + (h 494 l1)) ≤ l10 → ((0 : Int) ≤ l10 ∧ l10 < 2240) ∧ (¬ (zcmp (h 503 l10) 0) = 0 → ((0 : Int) ≤ l10 ∧ l10 < 2240) ∧ ((0 : Int) ≤ l10 ∧ l10 < 2240) ∧ zCl G d mX12_oneMore [vl l5, vi (h 498 l10), vi (h 499 l10), vi (bi l4)] h (fun x1 h2 => tX12_reached_22 G d K l1 l4 x1 l8 (l10 + 1) h2)) ∧ ((zcmp (h 503 l10) 0) = 0 → ((0 : Int) ≤ l10 ∧ l10 < 2240) ∧ ((zcmp (h 504 l10) 0) = 0 → tX12_reached_22 G d K l1 l4 l5 l8 (l10 + 1) h) ∧ (¬ (zcmp (h 504 l10) 0) = 0 → ((0 : Int) ≤ l10 ∧ l10 < 2240) ∧ ((0 : Int) ≤ l10 ∧ l10 < 2240) ∧ zCl G d mX12_oneMore [vl l5, vi (h 498 l10), vi (h 499 l10), vi (bi l4)] h (fun x3 h4 => tX12_reached_22 G d K l1 l4 x3 l8 (l10 + 1) h4))))) : tX12_reached_22 G d K l1 l4 l5 l8 l10 h := by
  unfold tX12_reached_22
  refine z_iload dX12_reached_22 rfl rfl ?_
  refine z_iload_n 1 dX12_reached_24 rfl rfl rfl ?_
  refine z_sipush dX12_reached_25 rfl rfl ?_
  refine z_imul dX12_reached_28 rfl ?_
  refine z_aload_n 0 dX12_reached_29 rfl rfl (Nat.le_of_ble_eq_true rfl) rfl ?_
  refine z_getF 12 13 (x := 494) fX12_97 rfl dX12_reached_30 rfl rfl ?_
  refine z_iload_n 1 dX12_reached_33 rfl rfl rfl ?_
  obtain ⟨i9, k⟩ := k
  refine z_iald (x := (h 494 l1)) dX12_reached_34 (by rw [zl_494]; exact i9) rfl rfl ?_
  refine z_iadd dX12_reached_35 rfl ?_
  obtain ⟨r1, r2, ka, kb⟩ := k
  refine z_icmp_ge (tgt := 92) dX12_reached_36 rfl r1 r2 rfl ⟨fun q => ?_, fun q => ?_⟩
  · have k := ka q
    refine z_iload_n 1 dX12_reached_92 rfl rfl rfl ?_
    refine z_bipush dX12_reached_93 rfl rfl ?_
    refine z_imul dX12_reached_95 rfl ?_
    refine z_istore dX12_reached_96 (Nat.le_of_ble_eq_true rfl) (L' := [some (vr 12 466), some (vi l1), none, none, some (vi (bi l4)), some (vl l5), none, none, some (vl l8), none, some (vi (l1 * 64))]) rfl rfl ?_
    exact z_sub (L' := [some (vr 12 466), some (vi l1), none, none, some (vi (bi l4)), some (vl l5), none, none, some (vl l8), none, some (vi (l1 * 64))]) (And.intro rfl (And.intro rfl (And.intro rfl (And.intro rfl (And.intro rfl (And.intro rfl trivial)))))) k
  · have k := kb q
    refine z_aload_n 0 dX12_reached_39 rfl rfl (Nat.le_of_ble_eq_true rfl) rfl ?_
    refine z_getF 12 14 (x := 503) fX12_124 rfl dX12_reached_40 rfl rfl ?_
    refine z_iload dX12_reached_43 rfl rfl ?_
    obtain ⟨i9, k⟩ := k
    refine z_lald (x := (h 503 l10)) dX12_reached_45 (by rw [zl_503]; exact i9) rfl rfl ?_
    refine z_lconst (x := 0) dX12_reached_46 rfl rfl ?_
    refine z_lcmp dX12_reached_47 rfl ?_
    obtain ⟨ka, kb⟩ := k
    refine z_if_ne (tgt := 63) dX12_reached_48 rfl (zcmp_R _ _) rfl ⟨fun q => ?_, fun q => ?_⟩
    · have k := ka q
      refine z_lload dX12_reached_63 rfl rfl ?_
      refine z_aload_n 0 dX12_reached_65 rfl rfl (Nat.le_of_ble_eq_true rfl) rfl ?_
      refine z_getF 12 13 (x := 498) fX12_109 rfl dX12_reached_66 rfl rfl ?_
      refine z_iload dX12_reached_69 rfl rfl ?_
      obtain ⟨i9, k⟩ := k
      refine z_iald (x := (h 498 l10)) dX12_reached_71 (by rw [zl_498]; exact i9) rfl rfl ?_
      refine z_aload_n 0 dX12_reached_72 rfl rfl (Nat.le_of_ble_eq_true rfl) rfl ?_
      refine z_getF 12 13 (x := 499) fX12_112 rfl dX12_reached_73 rfl rfl ?_
      refine z_iload dX12_reached_76 rfl rfl ?_
      obtain ⟨i9, k⟩ := k
      refine z_iald (x := (h 499 l10)) dX12_reached_78 (by rw [zl_499]; exact i9) rfl rfl ?_
      refine z_iload dX12_reached_79 rfl rfl ?_
      refine z_callSl sX12_oneMore kX12_587 dX12_reached_81 rfl (zRo_d d) (as := [vl l5, vi (h 498 l10), vi (h 499 l10), vi (bi l4)]) (rest := []) (Nat.le_of_ble_eq_true rfl) rfl rfl (zCl_mono (fun x1 h2 k => ?_) k)
      refine z_lstore dX12_reached_84 (Nat.le_of_ble_eq_true rfl) (L' := [some (vr 12 466), some (vi l1), none, none, some (vi (bi l4)), some (vl x1), none, none, some (vl l8), none, some (vi l10)]) rfl rfl ?_
      refine z_iinc dX12_reached_86 rfl (Nat.le_of_ble_eq_true rfl) (L' := [some (vr 12 466), some (vi l1), none, none, some (vi (bi l4)), some (vl x1), none, none, some (vl l8), none, some (vi (l10 + 1))]) rfl rfl ?_
      refine z_goto (tgt := 22) dX12_reached_89 rfl ?_
      exact z_sub (L' := [some (vr 12 466), some (vi l1), none, none, some (vi (bi l4)), some (vl x1), none, none, some (vl l8), none, some (vi (l10 + 1))]) (And.intro rfl (And.intro rfl (And.intro rfl (And.intro rfl (And.intro rfl (And.intro rfl trivial)))))) k
    · have k := kb q
      refine z_aload_n 0 dX12_reached_51 rfl rfl (Nat.le_of_ble_eq_true rfl) rfl ?_
      refine z_getF 12 14 (x := 504) fX12_127 rfl dX12_reached_52 rfl rfl ?_
      refine z_iload dX12_reached_55 rfl rfl ?_
      obtain ⟨i9, k⟩ := k
      refine z_lald (x := (h 504 l10)) dX12_reached_57 (by rw [zl_504]; exact i9) rfl rfl ?_
      refine z_lconst (x := 0) dX12_reached_58 rfl rfl ?_
      refine z_lcmp dX12_reached_59 rfl ?_
      obtain ⟨ka, kb⟩ := k
      refine z_if_eq (tgt := 86) dX12_reached_60 rfl (zcmp_R _ _) rfl ⟨fun q => ?_, fun q => ?_⟩
      · have k := ka q
        refine z_iinc dX12_reached_86 rfl (Nat.le_of_ble_eq_true rfl) (L' := [some (vr 12 466), some (vi l1), none, none, some (vi (bi l4)), some (vl l5), none, none, some (vl l8), none, some (vi (l10 + 1))]) rfl rfl ?_
        refine z_goto (tgt := 22) dX12_reached_89 rfl ?_
        exact z_sub (L' := [some (vr 12 466), some (vi l1), none, none, some (vi (bi l4)), some (vl l5), none, none, some (vl l8), none, some (vi (l10 + 1))]) (And.intro rfl (And.intro rfl (And.intro rfl (And.intro rfl (And.intro rfl (And.intro rfl trivial)))))) k
      · have k := kb q
        refine z_lload dX12_reached_63 rfl rfl ?_
        refine z_aload_n 0 dX12_reached_65 rfl rfl (Nat.le_of_ble_eq_true rfl) rfl ?_
        refine z_getF 12 13 (x := 498) fX12_109 rfl dX12_reached_66 rfl rfl ?_
        refine z_iload dX12_reached_69 rfl rfl ?_
        obtain ⟨i9, k⟩ := k
        refine z_iald (x := (h 498 l10)) dX12_reached_71 (by rw [zl_498]; exact i9) rfl rfl ?_
        refine z_aload_n 0 dX12_reached_72 rfl rfl (Nat.le_of_ble_eq_true rfl) rfl ?_
        refine z_getF 12 13 (x := 499) fX12_112 rfl dX12_reached_73 rfl rfl ?_
        refine z_iload dX12_reached_76 rfl rfl ?_
        obtain ⟨i9, k⟩ := k
        refine z_iald (x := (h 499 l10)) dX12_reached_78 (by rw [zl_499]; exact i9) rfl rfl ?_
        refine z_iload dX12_reached_79 rfl rfl ?_
        refine z_callSl sX12_oneMore kX12_587 dX12_reached_81 rfl (zRo_d d) (as := [vl l5, vi (h 498 l10), vi (h 499 l10), vi (bi l4)]) (rest := []) (Nat.le_of_ble_eq_true rfl) rfl rfl (zCl_mono (fun x3 h4 k => ?_) k)
        refine z_lstore dX12_reached_84 (Nat.le_of_ble_eq_true rfl) (L' := [some (vr 12 466), some (vi l1), none, none, some (vi (bi l4)), some (vl x3), none, none, some (vl l8), none, some (vi l10)]) rfl rfl ?_
        refine z_iinc dX12_reached_86 rfl (Nat.le_of_ble_eq_true rfl) (L' := [some (vr 12 466), some (vi l1), none, none, some (vi (bi l4)), some (vl x3), none, none, some (vl l8), none, some (vi (l10 + 1))]) rfl rfl ?_
        refine z_goto (tgt := 22) dX12_reached_89 rfl ?_
        exact z_sub (L' := [some (vr 12 466), some (vi l1), none, none, some (vi (bi l4)), some (vl x3), none, none, some (vl l8), none, some (vi (l10 + 1))]) (And.intro rfl (And.intro rfl (And.intro rfl (And.intro rfl (And.intro rfl (And.intro rfl trivial)))))) k
theorem bX12_reached_98 {G : zG} {d : Nat} {K : Int → zH → Prop} {l1 : Int} {l4 : Bool} {l5 : Int} {l8 : Int} {l10 : Int} {h : zH} (k : ((0 : Int) ≤ l1 ∧ l1 < 14) ∧ zR l10 ∧ zR ((l1 * 64) + (h 495 l1)) ∧ (((l1 * 64) + (h 495 l1)) ≤ l10 → ((zcmp l8 l5) = 0 → tX12_reached_6 G d K l1 l4 l5 0 h) ∧ (¬ (zcmp l8 l5) = 0 → tX12_reached_6 G d K l1 l4 l5 1 h)) ∧ (¬ ((l1 * 64) + (h 495 l1)) ≤ l10 → ((0 : Int) ≤ l10 ∧ l10 < 896) ∧ ((0 : Int) ≤ l10 ∧ l10 < 896) ∧ zCl G d mX12_oneMore [vl l5, vi (h 500 l10), vi (h 501 l10), vi (bi l4)] h (fun x1 h2 => tX12_reached_98 G d K l1 l4 x1 l8 (l10 + 1) h2))) : tX12_reached_98 G d K l1 l4 l5 l8 l10 h := by
  unfold tX12_reached_98
  refine z_iload dX12_reached_98 rfl rfl ?_
  refine z_iload_n 1 dX12_reached_100 rfl rfl rfl ?_
  refine z_bipush dX12_reached_101 rfl rfl ?_
  refine z_imul dX12_reached_103 rfl ?_
  refine z_aload_n 0 dX12_reached_104 rfl rfl (Nat.le_of_ble_eq_true rfl) rfl ?_
  refine z_getF 12 13 (x := 495) fX12_100 rfl dX12_reached_105 rfl rfl ?_
  refine z_iload_n 1 dX12_reached_108 rfl rfl rfl ?_
  obtain ⟨i9, k⟩ := k
  refine z_iald (x := (h 495 l1)) dX12_reached_109 (by rw [zl_495]; exact i9) rfl rfl ?_
  refine z_iadd dX12_reached_110 rfl ?_
  obtain ⟨r1, r2, ka, kb⟩ := k
  refine z_icmp_ge (tgt := 143) dX12_reached_111 rfl r1 r2 rfl ⟨fun q => ?_, fun q => ?_⟩
  · have k := ka q
    refine z_lload dX12_reached_143 rfl rfl ?_
    refine z_lload dX12_reached_145 rfl rfl ?_
    refine z_lcmp dX12_reached_147 rfl ?_
    obtain ⟨ka, kb⟩ := k
    refine z_if_eq (tgt := 155) dX12_reached_148 rfl (zcmp_R _ _) rfl ⟨fun q => ?_, fun q => ?_⟩
    · have k := ka q
      refine z_iconst dX12_reached_155 rfl ?_
      refine z_istore dX12_reached_156 (Nat.le_of_ble_eq_true rfl) (L' := [some (vr 12 466), some (vi l1), none, none, some (vi (bi l4)), some (vl l5), none, some (vi 0), some (vl l8), none, some (vi l10)]) rfl rfl ?_
      refine z_goto (tgt := 6) dX12_reached_158 rfl ?_
      exact z_sub (L' := [some (vr 12 466), some (vi l1), none, none, some (vi (bi l4)), some (vl l5), none, some (vi 0), none, none, none]) (And.intro rfl (And.intro rfl (And.intro rfl (And.intro rfl (And.intro rfl trivial))))) k
    · have k := kb q
      refine z_iconst dX12_reached_151 rfl ?_
      refine z_goto (tgt := 156) dX12_reached_152 rfl ?_
      refine z_istore dX12_reached_156 (Nat.le_of_ble_eq_true rfl) (L' := [some (vr 12 466), some (vi l1), none, none, some (vi (bi l4)), some (vl l5), none, some (vi 1), some (vl l8), none, some (vi l10)]) rfl rfl ?_
      refine z_goto (tgt := 6) dX12_reached_158 rfl ?_
      exact z_sub (L' := [some (vr 12 466), some (vi l1), none, none, some (vi (bi l4)), some (vl l5), none, some (vi 1), none, none, none]) (And.intro rfl (And.intro rfl (And.intro rfl (And.intro rfl (And.intro rfl trivial))))) k
  · have k := kb q
    refine z_lload dX12_reached_114 rfl rfl ?_
    refine z_aload_n 0 dX12_reached_116 rfl rfl (Nat.le_of_ble_eq_true rfl) rfl ?_
    refine z_getF 12 13 (x := 500) fX12_115 rfl dX12_reached_117 rfl rfl ?_
    refine z_iload dX12_reached_120 rfl rfl ?_
    obtain ⟨i9, k⟩ := k
    refine z_iald (x := (h 500 l10)) dX12_reached_122 (by rw [zl_500]; exact i9) rfl rfl ?_
    refine z_aload_n 0 dX12_reached_123 rfl rfl (Nat.le_of_ble_eq_true rfl) rfl ?_
    refine z_getF 12 13 (x := 501) fX12_118 rfl dX12_reached_124 rfl rfl ?_
    refine z_iload dX12_reached_127 rfl rfl ?_
    obtain ⟨i9, k⟩ := k
    refine z_iald (x := (h 501 l10)) dX12_reached_129 (by rw [zl_501]; exact i9) rfl rfl ?_
    refine z_iload dX12_reached_130 rfl rfl ?_
    refine z_callSl sX12_oneMore kX12_587 dX12_reached_132 rfl (zRo_d d) (as := [vl l5, vi (h 500 l10), vi (h 501 l10), vi (bi l4)]) (rest := []) (Nat.le_of_ble_eq_true rfl) rfl rfl (zCl_mono (fun x1 h2 k => ?_) k)
    refine z_lstore dX12_reached_135 (Nat.le_of_ble_eq_true rfl) (L' := [some (vr 12 466), some (vi l1), none, none, some (vi (bi l4)), some (vl x1), none, none, some (vl l8), none, some (vi l10)]) rfl rfl ?_
    refine z_iinc dX12_reached_137 rfl (Nat.le_of_ble_eq_true rfl) (L' := [some (vr 12 466), some (vi l1), none, none, some (vi (bi l4)), some (vl x1), none, none, some (vl l8), none, some (vi (l10 + 1))]) rfl rfl ?_
    refine z_goto (tgt := 98) dX12_reached_140 rfl ?_
    exact z_sub (L' := [some (vr 12 466), some (vi l1), none, none, some (vi (bi l4)), some (vl x1), none, none, some (vl l8), none, some (vi (l10 + 1))]) (And.intro rfl (And.intro rfl (And.intro rfl (And.intro rfl (And.intro rfl (And.intro rfl trivial)))))) k
theorem eX12_reached {G : zG} {d : Nat} {K : Int → zH → Prop} {l1 : Int} {l2 : Int} {l4 : Bool} {h : zH} (k : tX12_reached_0 G d K l1 l2 l4 h) : zCl G (d + 1) mX12_reached [vr 12 466, vi l1, vl l2, vi (bi l4)] h K := z_entry (by decide +kernel) (Nat.le_of_ble_eq_true rfl) rfl k
