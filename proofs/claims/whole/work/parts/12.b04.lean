def tX7_longestTaken_0 (G : zG) (d : Nat) (K : Int → zH → Prop) (l0 : Int) (h : zH) : Prop := zTi G (d + 1) mX7_longestTaken K 0 [some (vr 7 l0), none, none, none, none, none, none, none, none] [] h
def tX7_longestTaken_33 (G : zG) (d : Nat) (K : Int → zH → Prop) (l0 : Int) (l2 : Int) (l4 : Int) (l5 : Int) (l7 : Int) (h : zH) : Prop := zTi G (d + 1) mX7_longestTaken K 33 [some (vr 7 l0), none, some (vl l2), none, some (vi l4), some (vl l5), none, some (vi l7), none] [] h
def tX7_longestTaken_45 (G : zG) (d : Nat) (K : Int → zH → Prop) (l0 : Int) (l2 : Int) (l4 : Int) (l5 : Int) (l7 : Int) (l8 : Int) (h : zH) : Prop := zTi G (d + 1) mX7_longestTaken K 45 [some (vr 7 l0), none, some (vl l2), none, some (vi l4), some (vl l5), none, some (vi l7), some (vi l8)] [] h
theorem bX7_longestTaken_0 {G : zG} {d : Nat} {K : Int → zH → Prop} {l0 : Int} {h : zH} (k : zCi G d mX7_deadClass [vr 7 l0] h (fun x1 h2 => zR x1 ∧ (0 ≤ x1 → tX7_longestTaken_33 G d K l0 (zlxor (zlshl 1 x1) (-1)) (-2) 1 0 h2) ∧ (¬ 0 ≤ x1 → tX7_longestTaken_33 G d K l0 (-1) (-2) 1 0 h2))) : tX7_longestTaken_0 G d K l0 h := by
  unfold tX7_longestTaken_0
  refine z_aload_n 0 dX7_longestTaken_0 rfl rfl (Nat.le_of_ble_eq_true rfl) rfl ?_
  refine z_callVi vX7_deadClass kX7_159 dX7_longestTaken_1 rfl (zRo_d d) (as := []) (rest := []) (Nat.le_of_ble_eq_true rfl) rfl rfl (zCi_mono (fun x1 h2 k => ?_) k)
  refine z_istore_n 1 dX7_longestTaken_4 rfl (Nat.le_of_ble_eq_true rfl) (L' := [some (vr 7 l0), some (vi x1), none, none, none, none, none, none, none]) rfl rfl ?_
  refine z_iload_n 1 dX7_longestTaken_5 rfl rfl rfl ?_
  obtain ⟨r1, ka, kb⟩ := k
  refine z_if_ge (tgt := 15) dX7_longestTaken_6 rfl r1 rfl ⟨fun q => ?_, fun q => ?_⟩
  · have k := ka q
    refine z_lconst (x := 1) dX7_longestTaken_15 rfl rfl ?_
    refine z_iload_n 1 dX7_longestTaken_16 rfl rfl rfl ?_
    refine z_lshl dX7_longestTaken_17 rfl ?_
    refine z_ldc2 (x := (-1)) cX7_163 rfl dX7_longestTaken_18 rfl ?_
    refine z_lxor dX7_longestTaken_21 rfl ?_
    refine z_lstore_n 2 dX7_longestTaken_22 rfl (Nat.le_of_ble_eq_true rfl) (L' := [some (vr 7 l0), some (vi x1), some (vl (zlxor (zlshl 1 x1) (-1))), none, none, none, none, none, none]) rfl rfl ?_
    refine z_bipush dX7_longestTaken_23 rfl rfl ?_
    refine z_istore dX7_longestTaken_25 (Nat.le_of_ble_eq_true rfl) (L' := [some (vr 7 l0), some (vi x1), some (vl (zlxor (zlshl 1 x1) (-1))), none, some (vi (-2)), none, none, none, none]) rfl rfl ?_
    refine z_lconst (x := 1) dX7_longestTaken_27 rfl rfl ?_
    refine z_lstore dX7_longestTaken_28 (Nat.le_of_ble_eq_true rfl) (L' := [some (vr 7 l0), some (vi x1), some (vl (zlxor (zlshl 1 x1) (-1))), none, some (vi (-2)), some (vl 1), none, none, none]) rfl rfl ?_
    refine z_iconst dX7_longestTaken_30 rfl ?_
    refine z_istore dX7_longestTaken_31 (Nat.le_of_ble_eq_true rfl) (L' := [some (vr 7 l0), some (vi x1), some (vl (zlxor (zlshl 1 x1) (-1))), none, some (vi (-2)), some (vl 1), none, some (vi 0), none]) rfl rfl ?_
    exact z_sub (L' := [some (vr 7 l0), none, some (vl (zlxor (zlshl 1 x1) (-1))), none, some (vi (-2)), some (vl 1), none, some (vi 0), none]) (And.intro rfl (And.intro rfl (And.intro rfl (And.intro rfl (And.intro rfl trivial))))) k
  · have k := kb q
    refine z_ldc2 (x := (-1)) cX7_163 rfl dX7_longestTaken_9 rfl ?_
    refine z_goto (tgt := 22) dX7_longestTaken_12 rfl ?_
    refine z_lstore_n 2 dX7_longestTaken_22 rfl (Nat.le_of_ble_eq_true rfl) (L' := [some (vr 7 l0), some (vi x1), some (vl (-1)), none, none, none, none, none, none]) rfl rfl ?_
    refine z_bipush dX7_longestTaken_23 rfl rfl ?_
    refine z_istore dX7_longestTaken_25 (Nat.le_of_ble_eq_true rfl) (L' := [some (vr 7 l0), some (vi x1), some (vl (-1)), none, some (vi (-2)), none, none, none, none]) rfl rfl ?_
    refine z_lconst (x := 1) dX7_longestTaken_27 rfl rfl ?_
    refine z_lstore dX7_longestTaken_28 (Nat.le_of_ble_eq_true rfl) (L' := [some (vr 7 l0), some (vi x1), some (vl (-1)), none, some (vi (-2)), some (vl 1), none, none, none]) rfl rfl ?_
    refine z_iconst dX7_longestTaken_30 rfl ?_
    refine z_istore dX7_longestTaken_31 (Nat.le_of_ble_eq_true rfl) (L' := [some (vr 7 l0), some (vi x1), some (vl (-1)), none, some (vi (-2)), some (vl 1), none, some (vi 0), none]) rfl rfl ?_
    exact z_sub (L' := [some (vr 7 l0), none, some (vl (-1)), none, some (vi (-2)), some (vl 1), none, some (vi 0), none]) (And.intro rfl (And.intro rfl (And.intro rfl (And.intro rfl (And.intro rfl trivial))))) k
theorem bX7_longestTaken_33 {G : zG} {d : Nat} {K : Int → zH → Prop} {l0 : Int} {l2 : Int} {l4 : Int} {l5 : Int} {l7 : Int} {h : zH} (k : zR l7 ∧ zR (h l0 10) ∧ ((h l0 10) ≤ l7 → ((zcmp (zland l5 l2) 0) = 0 → K l4 h) ∧ (¬ (zcmp (zland l5 l2) 0) = 0 → K (-3) h)) ∧ (¬ (h l0 10) ≤ l7 → tX7_longestTaken_45 G d K l0 l2 l4 l5 l7 0 h)) : tX7_longestTaken_33 G d K l0 l2 l4 l5 l7 h := by
  unfold tX7_longestTaken_33
  refine z_iload dX7_longestTaken_33 rfl rfl ?_
  refine z_aload_n 0 dX7_longestTaken_35 rfl rfl (Nat.le_of_ble_eq_true rfl) rfl ?_
  refine z_getI 7 (x := (h l0 10)) fX7_113 rfl dX7_longestTaken_36 rfl rfl ?_
  obtain ⟨r1, r2, ka, kb⟩ := k
  refine z_icmp_ge (tgt := 99) dX7_longestTaken_39 rfl r1 r2 rfl ⟨fun q => ?_, fun q => ?_⟩
  · have k := ka q
    refine z_lload dX7_longestTaken_99 rfl rfl ?_
    refine z_lload_n 2 dX7_longestTaken_101 rfl rfl rfl ?_
    refine z_land dX7_longestTaken_102 rfl ?_
    refine z_lconst (x := 0) dX7_longestTaken_103 rfl rfl ?_
    refine z_lcmp dX7_longestTaken_104 rfl ?_
    obtain ⟨ka, kb⟩ := k
    refine z_if_eq (tgt := 113) dX7_longestTaken_105 rfl (zcmp_R _ _) rfl ⟨fun q => ?_, fun q => ?_⟩
    · have k := ka q
      refine z_iload dX7_longestTaken_113 rfl rfl ?_
      exact z_ireturn rfl dX7_longestTaken_115 ⟨_, rfl, k⟩
    · have k := kb q
      refine z_bipush dX7_longestTaken_108 rfl rfl ?_
      refine z_goto (tgt := 115) dX7_longestTaken_110 rfl ?_
      exact z_ireturn rfl dX7_longestTaken_115 ⟨_, rfl, k⟩
  · have k := kb q
    refine z_iconst dX7_longestTaken_42 rfl ?_
    refine z_istore dX7_longestTaken_43 (Nat.le_of_ble_eq_true rfl) (L' := [some (vr 7 l0), none, some (vl l2), none, some (vi l4), some (vl l5), none, some (vi l7), some (vi 0)]) rfl rfl ?_
    exact z_sub (L' := [some (vr 7 l0), none, some (vl l2), none, some (vi l4), some (vl l5), none, some (vi l7), some (vi 0)]) (And.intro rfl (And.intro rfl (And.intro rfl (And.intro rfl (And.intro rfl (And.intro rfl trivial)))))) k
theorem bX7_longestTaken_45 {G : zG} {d : Nat} {K : Int → zH → Prop} {l0 : Int} {l2 : Int} {l4 : Int} {l5 : Int} {l7 : Int} {l8 : Int} {h : zH} (k : zR l8 ∧ zR (h l0 10) ∧ ((h l0 10) ≤ l8 → zCl G d mX7_classesAfter [vr 7 l0, vl l5] h (fun x1 h2 => tX7_longestTaken_33 G d K l0 l2 l4 x1 (l7 + 1) h2)) ∧ (¬ (h l0 10) ≤ l8 → (¬ (zcmp (zland (zlushr l5 l8) 1) 1) = 0 → tX7_longestTaken_45 G d K l0 l2 l4 l5 l7 (l8 + 1) h) ∧ ((zcmp (zland (zlushr l5 l8) 1) 1) = 0 → zCb G d mX7_classTakes [vr 7 l0, vi l8] h (fun x3 h4 => (x3 = false → tX7_longestTaken_45 G d K l0 l2 l4 l5 l7 (l8 + 1) h4) ∧ (x3 = true → tX7_longestTaken_45 G d K l0 l2 l7 l5 l7 (l8 + 1) h4))))) : tX7_longestTaken_45 G d K l0 l2 l4 l5 l7 l8 h := by
  unfold tX7_longestTaken_45
  refine z_iload dX7_longestTaken_45 rfl rfl ?_
  refine z_aload_n 0 dX7_longestTaken_47 rfl rfl (Nat.le_of_ble_eq_true rfl) rfl ?_
  refine z_getI 7 (x := (h l0 10)) fX7_113 rfl dX7_longestTaken_48 rfl rfl ?_
  obtain ⟨r1, r2, ka, kb⟩ := k
  refine z_icmp_ge (tgt := 85) dX7_longestTaken_51 rfl r1 r2 rfl ⟨fun q => ?_, fun q => ?_⟩
  · have k := ka q
    refine z_aload_n 0 dX7_longestTaken_85 rfl rfl (Nat.le_of_ble_eq_true rfl) rfl ?_
    refine z_lload dX7_longestTaken_86 rfl rfl ?_
    refine z_callVl vX7_classesAfter kX7_147 dX7_longestTaken_88 rfl (zRo_d d) (as := [vl l5]) (rest := []) (Nat.le_of_ble_eq_true rfl) rfl rfl (zCl_mono (fun x1 h2 k => ?_) k)
    refine z_lstore dX7_longestTaken_91 (Nat.le_of_ble_eq_true rfl) (L' := [some (vr 7 l0), none, some (vl l2), none, some (vi l4), some (vl x1), none, some (vi l7), some (vi l8)]) rfl rfl ?_
    refine z_iinc dX7_longestTaken_93 rfl (Nat.le_of_ble_eq_true rfl) (L' := [some (vr 7 l0), none, some (vl l2), none, some (vi l4), some (vl x1), none, some (vi (l7 + 1)), some (vi l8)]) rfl rfl ?_
    refine z_goto (tgt := 33) dX7_longestTaken_96 rfl ?_
    exact z_sub (L' := [some (vr 7 l0), none, some (vl l2), none, some (vi l4), some (vl x1), none, some (vi (l7 + 1)), none]) (And.intro rfl (And.intro rfl (And.intro rfl (And.intro rfl (And.intro rfl trivial))))) k
  · have k := kb q
    refine z_lload dX7_longestTaken_54 rfl rfl ?_
    refine z_iload dX7_longestTaken_56 rfl rfl ?_
    refine z_lushr dX7_longestTaken_58 rfl ?_
    refine z_lconst (x := 1) dX7_longestTaken_59 rfl rfl ?_
    refine z_land dX7_longestTaken_60 rfl ?_
    refine z_lconst (x := 1) dX7_longestTaken_61 rfl rfl ?_
    refine z_lcmp dX7_longestTaken_62 rfl ?_
    obtain ⟨ka, kb⟩ := k
    refine z_if_ne (tgt := 79) dX7_longestTaken_63 rfl (zcmp_R _ _) rfl ⟨fun q => ?_, fun q => ?_⟩
    · have k := ka q
      refine z_iinc dX7_longestTaken_79 rfl (Nat.le_of_ble_eq_true rfl) (L' := [some (vr 7 l0), none, some (vl l2), none, some (vi l4), some (vl l5), none, some (vi l7), some (vi (l8 + 1))]) rfl rfl ?_
      refine z_goto (tgt := 45) dX7_longestTaken_82 rfl ?_
      exact z_sub (L' := [some (vr 7 l0), none, some (vl l2), none, some (vi l4), some (vl l5), none, some (vi l7), some (vi (l8 + 1))]) (And.intro rfl (And.intro rfl (And.intro rfl (And.intro rfl (And.intro rfl (And.intro rfl trivial)))))) k
    · have k := kb q
      refine z_aload_n 0 dX7_longestTaken_66 rfl rfl (Nat.le_of_ble_eq_true rfl) rfl ?_
      refine z_iload dX7_longestTaken_67 rfl rfl ?_
      refine z_callVb vX7_classTakes kX7_144 dX7_longestTaken_69 rfl (zRo_d d) (as := [vi l8]) (rest := []) (Nat.le_of_ble_eq_true rfl) rfl rfl (zCb_mono (fun x3 h4 k => ?_) k)
      obtain ⟨ka, kb⟩ := k
      refine z_ifb_eq (tgt := 79) dX7_longestTaken_72 rfl rfl ⟨fun q => ?_, fun q => ?_⟩
      · have k := ka q
        refine z_iinc dX7_longestTaken_79 rfl (Nat.le_of_ble_eq_true rfl) (L' := [some (vr 7 l0), none, some (vl l2), none, some (vi l4), some (vl l5), none, some (vi l7), some (vi (l8 + 1))]) rfl rfl ?_
        refine z_goto (tgt := 45) dX7_longestTaken_82 rfl ?_
        exact z_sub (L' := [some (vr 7 l0), none, some (vl l2), none, some (vi l4), some (vl l5), none, some (vi l7), some (vi (l8 + 1))]) (And.intro rfl (And.intro rfl (And.intro rfl (And.intro rfl (And.intro rfl (And.intro rfl trivial)))))) k
      · have k := kb q
        refine z_iload dX7_longestTaken_75 rfl rfl ?_
        refine z_istore dX7_longestTaken_77 (Nat.le_of_ble_eq_true rfl) (L' := [some (vr 7 l0), none, some (vl l2), none, some (vi l7), some (vl l5), none, some (vi l7), some (vi l8)]) rfl rfl ?_
        refine z_iinc dX7_longestTaken_79 rfl (Nat.le_of_ble_eq_true rfl) (L' := [some (vr 7 l0), none, some (vl l2), none, some (vi l7), some (vl l5), none, some (vi l7), some (vi (l8 + 1))]) rfl rfl ?_
        refine z_goto (tgt := 45) dX7_longestTaken_82 rfl ?_
        exact z_sub (L' := [some (vr 7 l0), none, some (vl l2), none, some (vi l7), some (vl l5), none, some (vi l7), some (vi (l8 + 1))]) (And.intro rfl (And.intro rfl (And.intro rfl (And.intro rfl (And.intro rfl (And.intro rfl trivial)))))) k
theorem eX7_longestTaken {G : zG} {d : Nat} {K : Int → zH → Prop} {l0 : Int} {h : zH} (k : tX7_longestTaken_0 G d K l0 h) : zCi G (d + 1) mX7_longestTaken [vr 7 l0] h K := z_entry (by decide +kernel) (Nat.le_of_ble_eq_true rfl) rfl k
def tX1_fill_0 (G : zG) (d : Nat) (K : zH → Prop) (l1 : Int) (l2 : Int) (h : zH) : Prop := zTv G (d + 1) mX1_fill K 0 [some (vr 1 242), some (vr 4 l1), some (vi l2), none, none, none, none, none] [] h
def tX1_fill_2 (G : zG) (d : Nat) (K : zH → Prop) (l1 : Int) (l2 : Int) (l3 : Int) (h : zH) : Prop := zTv G (d + 1) mX1_fill K 2 [some (vr 1 242), some (vr 4 l1), some (vi l2), some (vi l3), none, none, none, none] [] h
def tX1_fill_43 (G : zG) (d : Nat) (K : zH → Prop) (l1 : Int) (l2 : Int) (l3 : Int) (h : zH) : Prop := zTv G (d + 1) mX1_fill K 43 [some (vr 1 242), some (vr 4 l1), some (vi l2), some (vi l3), none, none, none, none] [] h
def tX1_fill_56 (G : zG) (d : Nat) (K : zH → Prop) (l1 : Int) (l2 : Int) (l3 : Int) (l4 : Int) (h : zH) : Prop := zTv G (d + 1) mX1_fill K 56 [some (vr 1 242), some (vr 4 l1), some (vi l2), some (vi l3), some (vi l4), none, none, none] [] h
def tX1_fill_74 (G : zG) (d : Nat) (K : zH → Prop) (l1 : Int) (l2 : Int) (l3 : Int) (l4 : Int) (l5 : Int) (l7 : Int) (h : zH) : Prop := zTv G (d + 1) mX1_fill K 74 [some (vr 1 242), some (vr 4 l1), some (vi l2), some (vi l3), some (vi l4), some (vl l5), none, some (vi l7)] [] h
theorem bX1_fill_0 {G : zG} {d : Nat} {K : zH → Prop} {l1 : Int} {l2 : Int} {h : zH} (k : tX1_fill_2 G d K l1 l2 0 h) : tX1_fill_0 G d K l1 l2 h := by
  unfold tX1_fill_0
  refine z_iconst dX1_fill_0 rfl ?_
  refine z_istore_n 3 dX1_fill_1 rfl (Nat.le_of_ble_eq_true rfl) (L' := [some (vr 1 242), some (vr 4 l1), some (vi l2), some (vi 0), none, none, none, none]) rfl rfl ?_
  exact z_sub (L' := [some (vr 1 242), some (vr 4 l1), some (vi l2), some (vi 0), none, none, none, none]) (And.intro rfl (And.intro rfl (And.intro rfl (And.intro rfl trivial)))) k
theorem bX1_fill_2 {G : zG} {d : Nat} {K : zH → Prop} {l1 : Int} {l2 : Int} {l3 : Int} {h : zH} (k : zR l3 ∧ zR (h (l1 + 7) 0) ∧ ((h (l1 + 7) 0) ≤ l3 → tX1_fill_43 G d K l1 l2 1 h) ∧ (¬ (h (l1 + 7) 0) ≤ l3 → zCb G d mX7_sheafTakes [vr 7 (l1 + 7), vi l3] h (fun x1 h2 => (x1 = false → ((0 : Int) ≤ l3 ∧ l3 < 160) ∧ tX1_fill_2 G d K l1 l2 (l3 + 1) (zup h2 243 l3 0)) ∧ (x1 = true → ((0 : Int) ≤ l3 ∧ l3 < 160) ∧ tX1_fill_2 G d K l1 l2 (l3 + 1) (zup h2 243 l3 1))))) : tX1_fill_2 G d K l1 l2 l3 h := by
  unfold tX1_fill_2
  refine z_iload_n 3 dX1_fill_2 rfl rfl rfl ?_
  refine z_aload_n 1 dX1_fill_3 rfl rfl (Nat.le_of_ble_eq_true rfl) rfl ?_
  refine z_getF 4 7 (x := (l1 + 7)) fX1_15 rfl dX1_fill_4 (by omega) rfl ?_
  refine z_getI 7 (x := (h (l1 + 7) 0)) fX1_21 rfl dX1_fill_7 rfl rfl ?_
  obtain ⟨r1, r2, ka, kb⟩ := k
  refine z_icmp_ge (tgt := 41) dX1_fill_10 rfl r1 r2 rfl ⟨fun q => ?_, fun q => ?_⟩
  · have k := ka q
    refine z_iconst dX1_fill_41 rfl ?_
    refine z_istore_n 3 dX1_fill_42 rfl (Nat.le_of_ble_eq_true rfl) (L' := [some (vr 1 242), some (vr 4 l1), some (vi l2), some (vi 1), none, none, none, none]) rfl rfl ?_
    exact z_sub (L' := [some (vr 1 242), some (vr 4 l1), some (vi l2), some (vi 1), none, none, none, none]) (And.intro rfl (And.intro rfl (And.intro rfl (And.intro rfl trivial)))) k
  · have k := kb q
    refine z_aload_n 0 dX1_fill_13 rfl rfl (Nat.le_of_ble_eq_true rfl) rfl ?_
    refine z_getF 1 14 (x := 243) fX1_9 rfl dX1_fill_14 rfl rfl ?_
    refine z_iload_n 3 dX1_fill_17 rfl rfl rfl ?_
    refine z_aload_n 1 dX1_fill_18 rfl rfl (Nat.le_of_ble_eq_true rfl) rfl ?_
    refine z_getF 4 7 (x := (l1 + 7)) fX1_15 rfl dX1_fill_19 (by omega) rfl ?_
    refine z_iload_n 3 dX1_fill_22 rfl rfl rfl ?_
    refine z_callVb vX7_sheafTakes kX1_27 dX1_fill_23 rfl (zRo_d d) (as := [vi l3]) (rest := [vi l3, vr 14 243]) (Nat.le_of_ble_eq_true rfl) rfl rfl (zCb_mono (fun x1 h2 k => ?_) k)
    obtain ⟨ka, kb⟩ := k
    refine z_ifb_eq (tgt := 33) dX1_fill_26 rfl rfl ⟨fun q => ?_, fun q => ?_⟩
    · have k := ka q
      refine z_lconst (x := 0) dX1_fill_33 rfl rfl ?_
      obtain ⟨i9, k⟩ := k
      refine z_last dX1_fill_34 (by rw [zl_243]; exact i9) rfl ?_
      refine z_iinc dX1_fill_35 rfl (Nat.le_of_ble_eq_true rfl) (L' := [some (vr 1 242), some (vr 4 l1), some (vi l2), some (vi (l3 + 1)), none, none, none, none]) rfl rfl ?_
      refine z_goto (tgt := 2) dX1_fill_38 rfl ?_
      exact z_sub (L' := [some (vr 1 242), some (vr 4 l1), some (vi l2), some (vi (l3 + 1)), none, none, none, none]) (And.intro rfl (And.intro rfl (And.intro rfl (And.intro rfl trivial)))) k
    · have k := kb q
      refine z_lconst (x := 1) dX1_fill_29 rfl rfl ?_
      refine z_goto (tgt := 34) dX1_fill_30 rfl ?_
      obtain ⟨i9, k⟩ := k
      refine z_last dX1_fill_34 (by rw [zl_243]; exact i9) rfl ?_
      refine z_iinc dX1_fill_35 rfl (Nat.le_of_ble_eq_true rfl) (L' := [some (vr 1 242), some (vr 4 l1), some (vi l2), some (vi (l3 + 1)), none, none, none, none]) rfl rfl ?_
      refine z_goto (tgt := 2) dX1_fill_38 rfl ?_
      exact z_sub (L' := [some (vr 1 242), some (vr 4 l1), some (vi l2), some (vi (l3 + 1)), none, none, none, none]) (And.intro rfl (And.intro rfl (And.intro rfl (And.intro rfl trivial)))) k
theorem bX1_fill_43 {G : zG} {d : Nat} {K : zH → Prop} {l1 : Int} {l2 : Int} {l3 : Int} {h : zH} (k : zR l3 ∧ zR l2 ∧ (l2 < l3 → K h) ∧ (¬ l2 < l3 → zR l3 ∧ (3 < l3 → K h) ∧ (¬ 3 < l3 → tX1_fill_56 G d K l1 l2 l3 0 h))) : tX1_fill_43 G d K l1 l2 l3 h := by
  unfold tX1_fill_43
  refine z_iload_n 3 dX1_fill_43 rfl rfl rfl ?_
  refine z_iload_n 2 dX1_fill_44 rfl rfl rfl ?_
  obtain ⟨r1, r2, ka, kb⟩ := k
  refine z_icmp_gt (tgt := 146) dX1_fill_45 rfl r1 r2 rfl ⟨fun q => ?_, fun q => ?_⟩
  · have k := ka q
    exact z_return rfl dX1_fill_146 ⟨rfl, k⟩
  · have k := kb q
    refine z_iload_n 3 dX1_fill_48 rfl rfl rfl ?_
    refine z_iconst dX1_fill_49 rfl ?_
    obtain ⟨r1, ka, kb⟩ := k
    refine z_icmp_gt (tgt := 146) dX1_fill_50 rfl r1 ⟨by decide, by decide⟩ rfl ⟨fun q => ?_, fun q => ?_⟩
    · have k := ka q
      exact z_return rfl dX1_fill_146 ⟨rfl, k⟩
    · have k := kb q
      refine z_iconst dX1_fill_53 rfl ?_
      refine z_istore dX1_fill_54 (Nat.le_of_ble_eq_true rfl) (L' := [some (vr 1 242), some (vr 4 l1), some (vi l2), some (vi l3), some (vi 0), none, none, none]) rfl rfl ?_
      exact z_sub (L' := [some (vr 1 242), some (vr 4 l1), some (vi l2), some (vi l3), some (vi 0), none, none, none]) (And.intro rfl (And.intro rfl (And.intro rfl (And.intro rfl (And.intro rfl trivial))))) k
theorem bX1_fill_56 {G : zG} {d : Nat} {K : zH → Prop} {l1 : Int} {l2 : Int} {l3 : Int} {l4 : Int} {h : zH} (k : zR l4 ∧ zR (h (l1 + 7) 0) ∧ ((h (l1 + 7) 0) ≤ l4 → tX1_fill_43 G d K l1 l2 (l3 + 1) h) ∧ (¬ (h (l1 + 7) 0) ≤ l4 → tX1_fill_74 G d K l1 l2 l3 l4 0 0 h)) : tX1_fill_56 G d K l1 l2 l3 l4 h := by
  unfold tX1_fill_56
  refine z_iload dX1_fill_56 rfl rfl ?_
  refine z_aload_n 1 dX1_fill_58 rfl rfl (Nat.le_of_ble_eq_true rfl) rfl ?_
  refine z_getF 4 7 (x := (l1 + 7)) fX1_15 rfl dX1_fill_59 (by omega) rfl ?_
  refine z_getI 7 (x := (h (l1 + 7) 0)) fX1_21 rfl dX1_fill_62 rfl rfl ?_
  obtain ⟨r1, r2, ka, kb⟩ := k
  refine z_icmp_ge (tgt := 140) dX1_fill_65 rfl r1 r2 rfl ⟨fun q => ?_, fun q => ?_⟩
  · have k := ka q
    refine z_iinc dX1_fill_140 rfl (Nat.le_of_ble_eq_true rfl) (L' := [some (vr 1 242), some (vr 4 l1), some (vi l2), some (vi (l3 + 1)), some (vi l4), none, none, none]) rfl rfl ?_
    refine z_goto (tgt := 43) dX1_fill_143 rfl ?_
    exact z_sub (L' := [some (vr 1 242), some (vr 4 l1), some (vi l2), some (vi (l3 + 1)), none, none, none, none]) (And.intro rfl (And.intro rfl (And.intro rfl (And.intro rfl trivial)))) k
  · have k := kb q
    refine z_lconst (x := 0) dX1_fill_68 rfl rfl ?_
    refine z_lstore dX1_fill_69 (Nat.le_of_ble_eq_true rfl) (L' := [some (vr 1 242), some (vr 4 l1), some (vi l2), some (vi l3), some (vi l4), some (vl 0), none, none]) rfl rfl ?_
    refine z_iconst dX1_fill_71 rfl ?_
    refine z_istore dX1_fill_72 (Nat.le_of_ble_eq_true rfl) (L' := [some (vr 1 242), some (vr 4 l1), some (vi l2), some (vi l3), some (vi l4), some (vl 0), none, some (vi 0)]) rfl rfl ?_
    exact z_sub (L' := [some (vr 1 242), some (vr 4 l1), some (vi l2), some (vi l3), some (vi l4), some (vl 0), none, some (vi 0)]) (And.intro rfl (And.intro rfl (And.intro rfl (And.intro rfl (And.intro rfl (And.intro rfl (And.intro rfl trivial))))))) k
theorem bX1_fill_74 {G : zG} {d : Nat} {K : zH → Prop} {l1 : Int} {l2 : Int} {l3 : Int} {l4 : Int} {l5 : Int} {l7 : Int} {h : zH} (k : zR l7 ∧ zR (h l1 11) ∧ ((h l1 11) ≤ l7 → ((0 : Int) ≤ ((l3 * 40) + l4) ∧ ((l3 * 40) + l4) < 160) ∧ tX1_fill_56 G d K l1 l2 l3 (l4 + 1) (zup h 243 ((l3 * 40) + l4) l5)) ∧ (¬ (h l1 11) ≤ l7 → zCi G d mX4_lengthOf [vr 4 l1, vi l7] h (fun x1 h2 => zR x1 ∧ zCi G d mX7_sheafStep [vr 7 (l1 + 7), vi l4, vi l7] h2 (fun x3 h4 => zCl G d mX1_behindSheaf [vr 1 242, vi (l3 - 1), vi x3] h4 (fun x5 h6 => tX1_fill_74 G d K l1 l2 l3 l4 (l5 + (x1 * x5)) (l7 + 1) h6))))) : tX1_fill_74 G d K l1 l2 l3 l4 l5 l7 h := by
  unfold tX1_fill_74
  refine z_iload dX1_fill_74 rfl rfl ?_
  refine z_aload_n 1 dX1_fill_76 rfl rfl (Nat.le_of_ble_eq_true rfl) rfl ?_
  refine z_getI 4 (x := (h l1 11)) fX1_31 rfl dX1_fill_77 rfl rfl ?_
  obtain ⟨r1, r2, ka, kb⟩ := k
  refine z_icmp_ge (tgt := 120) dX1_fill_80 rfl r1 r2 rfl ⟨fun q => ?_, fun q => ?_⟩
  · have k := ka q
    refine z_aload_n 0 dX1_fill_120 rfl rfl (Nat.le_of_ble_eq_true rfl) rfl ?_
    refine z_getF 1 14 (x := 243) fX1_9 rfl dX1_fill_121 rfl rfl ?_
    refine z_iload_n 3 dX1_fill_124 rfl rfl rfl ?_
    refine z_bipush dX1_fill_125 rfl rfl ?_
    refine z_imul dX1_fill_127 rfl ?_
    refine z_iload dX1_fill_128 rfl rfl ?_
    refine z_iadd dX1_fill_130 rfl ?_
    refine z_lload dX1_fill_131 rfl rfl ?_
    obtain ⟨i9, k⟩ := k
    refine z_last dX1_fill_133 (by rw [zl_243]; exact i9) rfl ?_
    refine z_iinc dX1_fill_134 rfl (Nat.le_of_ble_eq_true rfl) (L' := [some (vr 1 242), some (vr 4 l1), some (vi l2), some (vi l3), some (vi (l4 + 1)), some (vl l5), none, some (vi l7)]) rfl rfl ?_
    refine z_goto (tgt := 56) dX1_fill_137 rfl ?_
    exact z_sub (L' := [some (vr 1 242), some (vr 4 l1), some (vi l2), some (vi l3), some (vi (l4 + 1)), none, none, none]) (And.intro rfl (And.intro rfl (And.intro rfl (And.intro rfl (And.intro rfl trivial))))) k
  · have k := kb q
    refine z_lload dX1_fill_83 rfl rfl ?_
    refine z_aload_n 1 dX1_fill_85 rfl rfl (Nat.le_of_ble_eq_true rfl) rfl ?_
    refine z_iload dX1_fill_86 rfl rfl ?_
    refine z_callVi vX4_lengthOf kX1_34 dX1_fill_88 rfl (zRo_d d) (as := [vi l7]) (rest := [vl l5]) (Nat.le_of_ble_eq_true rfl) rfl rfl (zCi_mono (fun x1 h2 k => ?_) k)
    obtain ⟨r9, k⟩ := k
    refine z_i2l dX1_fill_91 r9 rfl ?_
    refine z_aload_n 0 dX1_fill_92 rfl rfl (Nat.le_of_ble_eq_true rfl) rfl ?_
    refine z_iload_n 3 dX1_fill_93 rfl rfl rfl ?_
    refine z_iconst dX1_fill_94 rfl ?_
    refine z_isub dX1_fill_95 rfl ?_
    refine z_aload_n 1 dX1_fill_96 rfl rfl (Nat.le_of_ble_eq_true rfl) rfl ?_
    refine z_getF 4 7 (x := (l1 + 7)) fX1_15 rfl dX1_fill_97 (by omega) rfl ?_
    refine z_iload dX1_fill_100 rfl rfl ?_
    refine z_iload dX1_fill_102 rfl rfl ?_
    refine z_callVi vX7_sheafStep kX1_38 dX1_fill_104 rfl (zRo_d d) (as := [vi l4, vi l7]) (rest := [vi (l3 - 1), vr 1 242, vl x1, vl l5]) (Nat.le_of_ble_eq_true rfl) rfl rfl (zCi_mono (fun x3 h4 k => ?_) k)
    refine z_callVl vX1_behindSheaf kX1_42 dX1_fill_107 rfl (zRo_d d) (as := [vi (l3 - 1), vi x3]) (rest := [vl x1, vl l5]) (Nat.le_of_ble_eq_true rfl) rfl rfl (zCl_mono (fun x5 h6 k => ?_) k)
    refine z_lmul dX1_fill_110 rfl ?_
    refine z_ladd dX1_fill_111 rfl ?_
    refine z_lstore dX1_fill_112 (Nat.le_of_ble_eq_true rfl) (L' := [some (vr 1 242), some (vr 4 l1), some (vi l2), some (vi l3), some (vi l4), some (vl (l5 + (x1 * x5))), none, some (vi l7)]) rfl rfl ?_
    refine z_iinc dX1_fill_114 rfl (Nat.le_of_ble_eq_true rfl) (L' := [some (vr 1 242), some (vr 4 l1), some (vi l2), some (vi l3), some (vi l4), some (vl (l5 + (x1 * x5))), none, some (vi (l7 + 1))]) rfl rfl ?_
    refine z_goto (tgt := 74) dX1_fill_117 rfl ?_
    exact z_sub (L' := [some (vr 1 242), some (vr 4 l1), some (vi l2), some (vi l3), some (vi l4), some (vl (l5 + (x1 * x5))), none, some (vi (l7 + 1))]) (And.intro rfl (And.intro rfl (And.intro rfl (And.intro rfl (And.intro rfl (And.intro rfl (And.intro rfl trivial))))))) k
theorem eX1_fill {G : zG} {d : Nat} {K : zH → Prop} {l1 : Int} {l2 : Int} {h : zH} (k : tX1_fill_0 G d K l1 l2 h) : zCv G (d + 1) mX1_fill [vr 1 242, vr 4 l1, vi l2] h K := z_entry (by decide +kernel) (Nat.le_of_ble_eq_true rfl) rfl k
def tX1_behindSheaf_0 (G : zG) (d : Nat) (K : Int → zH → Prop) (l1 : Int) (l2 : Int) (h : zH) : Prop := zTl G d mX1_behindSheaf K 0 [some (vr 1 242), some (vi l1), some (vi l2)] [] h
theorem bX1_behindSheaf_0 {G : zG} {d : Nat} {K : Int → zH → Prop} {l1 : Int} {l2 : Int} {h : zH} (k : ((0 : Int) ≤ ((l1 * 40) + l2) ∧ ((l1 * 40) + l2) < 160) ∧ K (h 243 ((l1 * 40) + l2)) h) : tX1_behindSheaf_0 G d K l1 l2 h := by
  unfold tX1_behindSheaf_0
  refine z_aload_n 0 dX1_behindSheaf_0 rfl rfl (Nat.le_of_ble_eq_true rfl) rfl ?_
  refine z_getF 1 14 (x := 243) fX1_9 rfl dX1_behindSheaf_1 rfl rfl ?_
  refine z_iload_n 1 dX1_behindSheaf_4 rfl rfl rfl ?_
  refine z_bipush dX1_behindSheaf_5 rfl rfl ?_
  refine z_imul dX1_behindSheaf_7 rfl ?_
  refine z_iload_n 2 dX1_behindSheaf_8 rfl rfl rfl ?_
  refine z_iadd dX1_behindSheaf_9 rfl ?_
  obtain ⟨i9, k⟩ := k
  refine z_lald (x := (h 243 ((l1 * 40) + l2))) dX1_behindSheaf_10 (by rw [zl_243]; exact i9) rfl rfl ?_
  exact z_lreturn rfl dX1_behindSheaf_11 ⟨_, rfl, k⟩
theorem eX1_behindSheaf {G : zG} {d : Nat} {K : Int → zH → Prop} {l1 : Int} {l2 : Int} {h : zH} (k : tX1_behindSheaf_0 G d K l1 l2 h) : zCl G d mX1_behindSheaf [vr 1 242, vi l1, vi l2] h K := z_entry (by decide +kernel) (Nat.le_of_ble_eq_true rfl) rfl k
def tX1_aheadOf_0 (G : zG) (d : Nat) (K : Int → zH → Prop) (l1 : Int) (l2 : Int) (l3 : Int) (h : zH) : Prop := zTl G (d + 1) mX1_aheadOf K 0 [some (vr 1 242), some (vr 4 l1), some (vr 13 l2), some (vi l3), none, none, none, none, none, none, none] [] h
def tX1_aheadOf_9 (G : zG) (d : Nat) (K : Int → zH → Prop) (l1 : Int) (l2 : Int) (l3 : Int) (l4 : Int) (l6 : Int) (l7 : Int) (h : zH) : Prop := zTl G (d + 1) mX1_aheadOf K 9 [some (vr 1 242), some (vr 4 l1), some (vr 13 l2), some (vi l3), some (vl l4), none, some (vi l6), some (vi l7), none, none, none] [] h
def tX1_aheadOf_35 (G : zG) (d : Nat) (K : Int → zH → Prop) (l1 : Int) (l2 : Int) (l3 : Int) (l4 : Int) (l6 : Int) (l7 : Int) (l8 : Int) (l9 : Int) (h : zH) : Prop := zTl G (d + 1) mX1_aheadOf K 35 [some (vr 1 242), some (vr 4 l1), some (vr 13 l2), some (vi l3), some (vl l4), none, some (vi l6), some (vi l7), some (vi l8), some (vi l9), none] [] h
theorem bX1_aheadOf_0 {G : zG} {d : Nat} {K : Int → zH → Prop} {l1 : Int} {l2 : Int} {l3 : Int} {h : zH} (k : tX1_aheadOf_9 G d K l1 l2 l3 0 0 0 h) : tX1_aheadOf_0 G d K l1 l2 l3 h := by
  unfold tX1_aheadOf_0
  refine z_lconst (x := 0) dX1_aheadOf_0 rfl rfl ?_
  refine z_lstore dX1_aheadOf_1 (Nat.le_of_ble_eq_true rfl) (L' := [some (vr 1 242), some (vr 4 l1), some (vr 13 l2), some (vi l3), some (vl 0), none, none, none, none, none, none]) rfl rfl ?_
  refine z_iconst dX1_aheadOf_3 rfl ?_
  refine z_istore dX1_aheadOf_4 (Nat.le_of_ble_eq_true rfl) (L' := [some (vr 1 242), some (vr 4 l1), some (vr 13 l2), some (vi l3), some (vl 0), none, some (vi 0), none, none, none, none]) rfl rfl ?_
  refine z_iconst dX1_aheadOf_6 rfl ?_
  refine z_istore dX1_aheadOf_7 (Nat.le_of_ble_eq_true rfl) (L' := [some (vr 1 242), some (vr 4 l1), some (vr 13 l2), some (vi l3), some (vl 0), none, some (vi 0), some (vi 0), none, none, none]) rfl rfl ?_
  exact z_sub (L' := [some (vr 1 242), some (vr 4 l1), some (vr 13 l2), some (vi l3), some (vl 0), none, some (vi 0), some (vi 0), none, none, none]) (And.intro rfl (And.intro rfl (And.intro rfl (And.intro rfl (And.intro rfl (And.intro rfl (And.intro rfl trivial))))))) k
theorem bX1_aheadOf_9 {G : zG} {d : Nat} {K : Int → zH → Prop} {l1 : Int} {l2 : Int} {l3 : Int} {l4 : Int} {l6 : Int} {l7 : Int} {h : zH} (k : zR l7 ∧ zR l3 ∧ (l3 ≤ l7 → K l4 h) ∧ (¬ l3 ≤ l7 → zR l7 ∧ ((zln l2) ≤ l7 → K l4 h) ∧ (¬ (zln l2) ≤ l7 → ((0 : Int) ≤ l7 ∧ l7 < zln l2) ∧ zCi G d mX4_blockOf [vr 4 l1, vi (h l2 l7)] h (fun x1 h2 => tX1_aheadOf_35 G d K l1 l2 l3 l4 l6 l7 x1 0 h2)))) : tX1_aheadOf_9 G d K l1 l2 l3 l4 l6 l7 h := by
  unfold tX1_aheadOf_9
  refine z_iload dX1_aheadOf_9 rfl rfl ?_
  refine z_iload_n 3 dX1_aheadOf_11 rfl rfl rfl ?_
  obtain ⟨r1, r2, ka, kb⟩ := k
  refine z_icmp_ge (tgt := 120) dX1_aheadOf_12 rfl r1 r2 rfl ⟨fun q => ?_, fun q => ?_⟩
  · have k := ka q
    refine z_lload dX1_aheadOf_120 rfl rfl ?_
    exact z_lreturn rfl dX1_aheadOf_122 ⟨_, rfl, k⟩
  · have k := kb q
    refine z_iload dX1_aheadOf_15 rfl rfl ?_
    refine z_aload_n 2 dX1_aheadOf_17 rfl rfl (Nat.le_of_ble_eq_true rfl) rfl ?_
    refine z_alen13 dX1_aheadOf_18 rfl rfl ?_
    obtain ⟨r1, ka, kb⟩ := k
    refine z_icmp_ge (tgt := 120) dX1_aheadOf_19 rfl r1 (zR_zln _) rfl ⟨fun q => ?_, fun q => ?_⟩
    · have k := ka q
      refine z_lload dX1_aheadOf_120 rfl rfl ?_
      exact z_lreturn rfl dX1_aheadOf_122 ⟨_, rfl, k⟩
    · have k := kb q
      refine z_aload_n 1 dX1_aheadOf_22 rfl rfl (Nat.le_of_ble_eq_true rfl) rfl ?_
      refine z_aload_n 2 dX1_aheadOf_23 rfl rfl (Nat.le_of_ble_eq_true rfl) rfl ?_
      refine z_iload dX1_aheadOf_24 rfl rfl ?_
      obtain ⟨i9, k⟩ := k
      refine z_iald (x := (h l2 l7)) dX1_aheadOf_26 i9 rfl rfl ?_
      refine z_callVi vX4_blockOf kX1_46 dX1_aheadOf_27 rfl (zRo_d d) (as := [vi (h l2 l7)]) (rest := []) (Nat.le_of_ble_eq_true rfl) rfl rfl (zCi_mono (fun x1 h2 k => ?_) k)
      refine z_istore dX1_aheadOf_30 (Nat.le_of_ble_eq_true rfl) (L' := [some (vr 1 242), some (vr 4 l1), some (vr 13 l2), some (vi l3), some (vl l4), none, some (vi l6), some (vi l7), some (vi x1), none, none]) rfl rfl ?_
      refine z_iconst dX1_aheadOf_32 rfl ?_
      refine z_istore dX1_aheadOf_33 (Nat.le_of_ble_eq_true rfl) (L' := [some (vr 1 242), some (vr 4 l1), some (vr 13 l2), some (vi l3), some (vl l4), none, some (vi l6), some (vi l7), some (vi x1), some (vi 0), none]) rfl rfl ?_
      exact z_sub (L' := [some (vr 1 242), some (vr 4 l1), some (vr 13 l2), some (vi l3), some (vl l4), none, some (vi l6), some (vi l7), some (vi x1), some (vi 0), none]) (And.intro rfl (And.intro rfl (And.intro rfl (And.intro rfl (And.intro rfl (And.intro rfl (And.intro rfl (And.intro rfl (And.intro rfl trivial))))))))) k
theorem bX1_aheadOf_35 {G : zG} {d : Nat} {K : Int → zH → Prop} {l1 : Int} {l2 : Int} {l3 : Int} {l4 : Int} {l6 : Int} {l7 : Int} {l8 : Int} {l9 : Int} {h : zH} (k : zR l9 ∧ zR l8 ∧ (l8 < l9 → zCi G d mX7_sheafStep [vr 7 (l1 + 7), vi l6, vi l8] h (fun x1 h2 => tX1_aheadOf_9 G d K l1 l2 l3 l4 x1 (l7 + 1) h2)) ∧ (¬ l8 < l9 → zCi G d mX4_endOf [vr 4 l1, vi l9] h (fun x3 h4 => ((0 : Int) ≤ l7 ∧ l7 < zln l2) ∧ zR x3 ∧ zR (h4 l2 l7) ∧ ((0 : Int) ≤ l9 ∧ l9 < 128) ∧ zR ((min x3 (h4 l2 l7)) - (h4 (l1 + 6) l9)) ∧ zCi G d mX7_sheafStep [vr 7 (l1 + 7), vi l6, vi l9] h4 (fun x5 h6 => zCl G d mX1_behindSheaf [vr 1 242, vi ((l3 - 1) - l7), vi x5] h6 (fun x7 h8 => tX1_aheadOf_35 G d K l1 l2 l3 (l4 + (((min x3 (h4 l2 l7)) - (h4 (l1 + 6) l9)) * x7)) l6 l7 l8 (l9 + 1) h8))))) : tX1_aheadOf_35 G d K l1 l2 l3 l4 l6 l7 l8 l9 h := by
  unfold tX1_aheadOf_35
  refine z_know (fun zo zs zv => ?_)
  have w_l1 : zvok (vr 4 l1) := zv _ (List.mem_of_getElem? (i := 1) rfl)
  refine z_iload dX1_aheadOf_35 rfl rfl ?_
  refine z_iload dX1_aheadOf_37 rfl rfl ?_
  obtain ⟨r1, r2, ka, kb⟩ := k
  refine z_icmp_gt (tgt := 101) dX1_aheadOf_39 rfl r1 r2 rfl ⟨fun q => ?_, fun q => ?_⟩
  · have k := ka q
    refine z_aload_n 1 dX1_aheadOf_101 rfl rfl (Nat.le_of_ble_eq_true rfl) rfl ?_
    refine z_getF 4 7 (x := (l1 + 7)) fX1_15 rfl dX1_aheadOf_102 (by omega) rfl ?_
    refine z_iload dX1_aheadOf_105 rfl rfl ?_
    refine z_iload dX1_aheadOf_107 rfl rfl ?_
    refine z_callVi vX7_sheafStep kX1_38 dX1_aheadOf_109 rfl (zRo_d d) (as := [vi l6, vi l8]) (rest := []) (Nat.le_of_ble_eq_true rfl) rfl rfl (zCi_mono (fun x1 h2 k => ?_) k)
    refine z_istore dX1_aheadOf_112 (Nat.le_of_ble_eq_true rfl) (L' := [some (vr 1 242), some (vr 4 l1), some (vr 13 l2), some (vi l3), some (vl l4), none, some (vi x1), some (vi l7), some (vi l8), some (vi l9), none]) rfl rfl ?_
    refine z_iinc dX1_aheadOf_114 rfl (Nat.le_of_ble_eq_true rfl) (L' := [some (vr 1 242), some (vr 4 l1), some (vr 13 l2), some (vi l3), some (vl l4), none, some (vi x1), some (vi (l7 + 1)), some (vi l8), some (vi l9), none]) rfl rfl ?_
    refine z_goto (tgt := 9) dX1_aheadOf_117 rfl ?_
    exact z_sub (L' := [some (vr 1 242), some (vr 4 l1), some (vr 13 l2), some (vi l3), some (vl l4), none, some (vi x1), some (vi (l7 + 1)), none, none, none]) (And.intro rfl (And.intro rfl (And.intro rfl (And.intro rfl (And.intro rfl (And.intro rfl (And.intro rfl trivial))))))) k
  · have k := kb q
    refine z_aload_n 1 dX1_aheadOf_42 rfl rfl (Nat.le_of_ble_eq_true rfl) rfl ?_
    refine z_iload dX1_aheadOf_43 rfl rfl ?_
    refine z_callVi vX4_endOf kX1_49 dX1_aheadOf_45 rfl (zRo_d d) (as := [vi l9]) (rest := []) (Nat.le_of_ble_eq_true rfl) rfl rfl (zCi_mono (fun x3 h4 k => ?_) k)
    refine z_aload_n 2 dX1_aheadOf_48 rfl rfl (Nat.le_of_ble_eq_true rfl) rfl ?_
    refine z_iload dX1_aheadOf_49 rfl rfl ?_
    obtain ⟨i9, k⟩ := k
    refine z_iald (x := (h4 l2 l7)) dX1_aheadOf_51 i9 rfl rfl ?_
    obtain ⟨r1, r2, k⟩ := k
    refine z_mmin (z := (min x3 (h4 l2 l7))) kX1_52 kmin.1 kmin.2.1 kmin.2.2 dX1_aheadOf_52 r1 r2 ⟨Nat.le_add_left 1 d, (by show _ ≤ 64 * (d + 1); rw [show zcat _ = 0 from rfl]; omega), Nat.le_refl _, Nat.le_refl _⟩ rfl rfl ?_
    refine z_aload_n 1 dX1_aheadOf_55 rfl rfl (Nat.le_of_ble_eq_true rfl) rfl ?_
    refine z_getF 4 13 (x := (l1 + 6)) fX1_57 rfl dX1_aheadOf_56 (by omega) rfl ?_
    refine z_iload dX1_aheadOf_59 rfl rfl ?_
    obtain ⟨i9, k⟩ := k
    refine z_iald (x := (h4 (l1 + 6) l9)) dX1_aheadOf_61 (by rw [zl4_6 w_l1]; exact i9) rfl rfl ?_
    refine z_isub dX1_aheadOf_62 rfl ?_
    refine z_istore dX1_aheadOf_63 (Nat.le_of_ble_eq_true rfl) (L' := [some (vr 1 242), some (vr 4 l1), some (vr 13 l2), some (vi l3), some (vl l4), none, some (vi l6), some (vi l7), some (vi l8), some (vi l9), some (vi ((min x3 (h4 l2 l7)) - (h4 (l1 + 6) l9)))]) rfl rfl ?_
    refine z_lload dX1_aheadOf_65 rfl rfl ?_
    refine z_iload dX1_aheadOf_67 rfl rfl ?_
    obtain ⟨r9, k⟩ := k
    refine z_i2l dX1_aheadOf_69 r9 rfl ?_
    refine z_aload_n 0 dX1_aheadOf_70 rfl rfl (Nat.le_of_ble_eq_true rfl) rfl ?_
    refine z_iload_n 3 dX1_aheadOf_71 rfl rfl rfl ?_
    refine z_iconst dX1_aheadOf_72 rfl ?_
    refine z_isub dX1_aheadOf_73 rfl ?_
    refine z_iload dX1_aheadOf_74 rfl rfl ?_
    refine z_isub dX1_aheadOf_76 rfl ?_
    refine z_aload_n 1 dX1_aheadOf_77 rfl rfl (Nat.le_of_ble_eq_true rfl) rfl ?_
    refine z_getF 4 7 (x := (l1 + 7)) fX1_15 rfl dX1_aheadOf_78 (by omega) rfl ?_
    refine z_iload dX1_aheadOf_81 rfl rfl ?_
    refine z_iload dX1_aheadOf_83 rfl rfl ?_
    refine z_callVi vX7_sheafStep kX1_38 dX1_aheadOf_85 rfl (zRo_d d) (as := [vi l6, vi l9]) (rest := [vi ((l3 - 1) - l7), vr 1 242, vl ((min x3 (h4 l2 l7)) - (h4 (l1 + 6) l9)), vl l4]) (Nat.le_of_ble_eq_true rfl) rfl rfl (zCi_mono (fun x5 h6 k => ?_) k)
    refine z_callVl vX1_behindSheaf kX1_42 dX1_aheadOf_88 rfl (zRo_d d) (as := [vi ((l3 - 1) - l7), vi x5]) (rest := [vl ((min x3 (h4 l2 l7)) - (h4 (l1 + 6) l9)), vl l4]) (Nat.le_of_ble_eq_true rfl) rfl rfl (zCl_mono (fun x7 h8 k => ?_) k)
    refine z_lmul dX1_aheadOf_91 rfl ?_
    refine z_ladd dX1_aheadOf_92 rfl ?_
    refine z_lstore dX1_aheadOf_93 (Nat.le_of_ble_eq_true rfl) (L' := [some (vr 1 242), some (vr 4 l1), some (vr 13 l2), some (vi l3), some (vl (l4 + (((min x3 (h4 l2 l7)) - (h4 (l1 + 6) l9)) * x7))), none, some (vi l6), some (vi l7), some (vi l8), some (vi l9), some (vi ((min x3 (h4 l2 l7)) - (h4 (l1 + 6) l9)))]) rfl rfl ?_
    refine z_iinc dX1_aheadOf_95 rfl (Nat.le_of_ble_eq_true rfl) (L' := [some (vr 1 242), some (vr 4 l1), some (vr 13 l2), some (vi l3), some (vl (l4 + (((min x3 (h4 l2 l7)) - (h4 (l1 + 6) l9)) * x7))), none, some (vi l6), some (vi l7), some (vi l8), some (vi (l9 + 1)), some (vi ((min x3 (h4 l2 l7)) - (h4 (l1 + 6) l9)))]) rfl rfl ?_
    refine z_goto (tgt := 35) dX1_aheadOf_98 rfl ?_
    exact z_sub (L' := [some (vr 1 242), some (vr 4 l1), some (vr 13 l2), some (vi l3), some (vl (l4 + (((min x3 (h4 l2 l7)) - (h4 (l1 + 6) l9)) * x7))), none, some (vi l6), some (vi l7), some (vi l8), some (vi (l9 + 1)), none]) (And.intro rfl (And.intro rfl (And.intro rfl (And.intro rfl (And.intro rfl (And.intro rfl (And.intro rfl (And.intro rfl (And.intro rfl trivial))))))))) k
theorem eX1_aheadOf {G : zG} {d : Nat} {K : Int → zH → Prop} {l1 : Int} {l2 : Int} {l3 : Int} {h : zH} (k : tX1_aheadOf_0 G d K l1 l2 l3 h) : zCl G (d + 1) mX1_aheadOf [vr 1 242, vr 4 l1, vr 13 l2, vi l3] h K := z_entry (by decide +kernel) (Nat.le_of_ble_eq_true rfl) rfl k
def tX1_letterOfKth_0 (G : zG) (d : Nat) (K : Int → zH → Prop) (l1 : Int) (l2 : Int) (l3 : Int) (l5 : Int) (h : zH) : Prop := zTi G (d + 1) mX1_letterOfKth K 0 [some (vr 1 242), some (vr 4 l1), some (vi l2), some (vl l3), none, some (vi l5), none, none, none, none, none, none, none, none] [] h
def tX1_letterOfKth_14 (G : zG) (d : Nat) (K : Int → zH → Prop) (l1 : Int) (l2 : Int) (l5 : Int) (l6 : Int) (l8 : Int) (l9 : Int) (l10 : Int) (h : zH) : Prop := zTi G (d + 1) mX1_letterOfKth K 14 [some (vr 1 242), some (vr 4 l1), some (vi l2), none, none, some (vi l5), some (vl l6), none, some (vi l8), some (vi l9), some (vi l10), none, none, none] [] h
def tX1_letterOfKth_51 (G : zG) (d : Nat) (K : Int → zH → Prop) (l1 : Int) (l2 : Int) (l5 : Int) (l6 : Int) (l8 : Int) (l10 : Int) (l11 : Int) (l12 : Int) (h : zH) : Prop := zTi G (d + 1) mX1_letterOfKth K 51 [some (vr 1 242), some (vr 4 l1), some (vi l2), none, none, some (vi l5), some (vl l6), none, some (vi l8), none, some (vi l10), some (vi l11), some (vl l12), none] [] h
theorem bX1_letterOfKth_0 {G : zG} {d : Nat} {K : Int → zH → Prop} {l1 : Int} {l2 : Int} {l3 : Int} {l5 : Int} {h : zH} (k : tX1_letterOfKth_14 G d K l1 l2 l5 l3 0 (-1) (l2 - 1) h) : tX1_letterOfKth_0 G d K l1 l2 l3 l5 h := by
  unfold tX1_letterOfKth_0
  refine z_lload_n 3 dX1_letterOfKth_0 rfl rfl rfl ?_
  refine z_lstore dX1_letterOfKth_1 (Nat.le_of_ble_eq_true rfl) (L' := [some (vr 1 242), some (vr 4 l1), some (vi l2), some (vl l3), none, some (vi l5), some (vl l3), none, none, none, none, none, none, none]) rfl rfl ?_
  refine z_iconst dX1_letterOfKth_3 rfl ?_
  refine z_istore dX1_letterOfKth_4 (Nat.le_of_ble_eq_true rfl) (L' := [some (vr 1 242), some (vr 4 l1), some (vi l2), some (vl l3), none, some (vi l5), some (vl l3), none, some (vi 0), none, none, none, none, none]) rfl rfl ?_
  refine z_iconst dX1_letterOfKth_6 rfl ?_
  refine z_istore dX1_letterOfKth_7 (Nat.le_of_ble_eq_true rfl) (L' := [some (vr 1 242), some (vr 4 l1), some (vi l2), some (vl l3), none, some (vi l5), some (vl l3), none, some (vi 0), some (vi (-1)), none, none, none, none]) rfl rfl ?_
  refine z_iload_n 2 dX1_letterOfKth_9 rfl rfl rfl ?_
  refine z_iconst dX1_letterOfKth_10 rfl ?_
  refine z_isub dX1_letterOfKth_11 rfl ?_
  refine z_istore dX1_letterOfKth_12 (Nat.le_of_ble_eq_true rfl) (L' := [some (vr 1 242), some (vr 4 l1), some (vi l2), some (vl l3), none, some (vi l5), some (vl l3), none, some (vi 0), some (vi (-1)), some (vi (l2 - 1)), none, none, none]) rfl rfl ?_
  exact z_sub (L' := [some (vr 1 242), some (vr 4 l1), some (vi l2), none, none, some (vi l5), some (vl l3), none, some (vi 0), some (vi (-1)), some (vi (l2 - 1)), none, none, none]) (And.intro rfl (And.intro rfl (And.intro rfl (And.intro rfl (And.intro rfl (And.intro rfl (And.intro rfl (And.intro rfl trivial)))))))) k
theorem bX1_letterOfKth_14 {G : zG} {d : Nat} {K : Int → zH → Prop} {l1 : Int} {l2 : Int} {l5 : Int} {l6 : Int} {l8 : Int} {l9 : Int} {l10 : Int} {h : zH} (k : zR l10 ∧ zR ((l2 - 1) - l5) ∧ (l10 < ((l2 - 1) - l5) → K l9 h) ∧ (¬ l10 < ((l2 - 1) - l5) → zR l10 ∧ (l10 < 0 → K l9 h) ∧ (¬ l10 < 0 → zCi G d mX7_sheafStep [vr 7 (l1 + 7), vi l8, vi 0] h (fun x1 h2 => zCl G d mX1_behindSheaf [vr 1 242, vi l10, vi x1] h2 (fun x3 h4 => tX1_letterOfKth_51 G d K l1 l2 l5 l6 l8 l10 0 x3 h4))))) : tX1_letterOfKth_14 G d K l1 l2 l5 l6 l8 l9 l10 h := by
  unfold tX1_letterOfKth_14
  refine z_iload dX1_letterOfKth_14 rfl rfl ?_
  refine z_iload_n 2 dX1_letterOfKth_16 rfl rfl rfl ?_
  refine z_iconst dX1_letterOfKth_17 rfl ?_
  refine z_isub dX1_letterOfKth_18 rfl ?_
  refine z_iload dX1_letterOfKth_19 rfl rfl ?_
  refine z_isub dX1_letterOfKth_21 rfl ?_
  obtain ⟨r1, r2, ka, kb⟩ := k
  refine z_icmp_lt (tgt := 169) dX1_letterOfKth_22 rfl r1 r2 rfl ⟨fun q => ?_, fun q => ?_⟩
  · have k := ka q
    refine z_iload dX1_letterOfKth_169 rfl rfl ?_
    exact z_ireturn rfl dX1_letterOfKth_171 ⟨_, rfl, k⟩
  · have k := kb q
    refine z_iload dX1_letterOfKth_25 rfl rfl ?_
    obtain ⟨r1, ka, kb⟩ := k
    refine z_if_lt (tgt := 169) dX1_letterOfKth_27 rfl r1 rfl ⟨fun q => ?_, fun q => ?_⟩
    · have k := ka q
      refine z_iload dX1_letterOfKth_169 rfl rfl ?_
      exact z_ireturn rfl dX1_letterOfKth_171 ⟨_, rfl, k⟩
    · have k := kb q
      refine z_iconst dX1_letterOfKth_30 rfl ?_
      refine z_istore dX1_letterOfKth_31 (Nat.le_of_ble_eq_true rfl) (L' := [some (vr 1 242), some (vr 4 l1), some (vi l2), none, none, some (vi l5), some (vl l6), none, some (vi l8), some (vi l9), some (vi l10), some (vi 0), none, none]) rfl rfl ?_
      refine z_aload_n 0 dX1_letterOfKth_33 rfl rfl (Nat.le_of_ble_eq_true rfl) rfl ?_
      refine z_iload dX1_letterOfKth_34 rfl rfl ?_
      refine z_aload_n 1 dX1_letterOfKth_36 rfl rfl (Nat.le_of_ble_eq_true rfl) rfl ?_
      refine z_getF 4 7 (x := (l1 + 7)) fX1_15 rfl dX1_letterOfKth_37 (by omega) rfl ?_
      refine z_iload dX1_letterOfKth_40 rfl rfl ?_
      refine z_iconst dX1_letterOfKth_42 rfl ?_
      refine z_callVi vX7_sheafStep kX1_38 dX1_letterOfKth_43 rfl (zRo_d d) (as := [vi l8, vi 0]) (rest := [vi l10, vr 1 242]) (Nat.le_of_ble_eq_true rfl) rfl rfl (zCi_mono (fun x1 h2 k => ?_) k)
      refine z_callVl vX1_behindSheaf kX1_42 dX1_letterOfKth_46 rfl (zRo_d d) (as := [vi l10, vi x1]) (rest := []) (Nat.le_of_ble_eq_true rfl) rfl rfl (zCl_mono (fun x3 h4 k => ?_) k)
      refine z_lstore dX1_letterOfKth_49 (Nat.le_of_ble_eq_true rfl) (L' := [some (vr 1 242), some (vr 4 l1), some (vi l2), none, none, some (vi l5), some (vl l6), none, some (vi l8), some (vi l9), some (vi l10), some (vi 0), some (vl x3), none]) rfl rfl ?_
      exact z_sub (L' := [some (vr 1 242), some (vr 4 l1), some (vi l2), none, none, some (vi l5), some (vl l6), none, some (vi l8), none, some (vi l10), some (vi 0), some (vl x3), none]) (And.intro rfl (And.intro rfl (And.intro rfl (And.intro rfl (And.intro rfl (And.intro rfl (And.intro rfl (And.intro rfl (And.intro rfl trivial))))))))) k
theorem bX1_letterOfKth_51 {G : zG} {d : Nat} {K : Int → zH → Prop} {l1 : Int} {l2 : Int} {l5 : Int} {l6 : Int} {l8 : Int} {l10 : Int} {l11 : Int} {l12 : Int} {h : zH} (k : zR (l11 + 1) ∧ zR (h l1 11) ∧ ((h l1 11) ≤ (l11 + 1) → (0 < (zcmp l12 0) → ((0 : Int) ≤ l11 ∧ l11 < 128) ∧ (0 ≤ l6 ∧ l6 < 9223372036854775808 ∧ 0 < l12 ∧ l12 < 9223372036854775808) ∧ zRL (l6 / l12) ∧ (0 ≤ l6 ∧ l6 < 9223372036854775808 ∧ 0 < l12 ∧ l12 < 9223372036854775808) ∧ zCi G d mX7_sheafStep [vr 7 (l1 + 7), vi l8, vi l11] h (fun x1 h2 => tX1_letterOfKth_14 G d K l1 l2 l5 (l6 % l12) x1 ((h (l1 + 6) l11) + (l6 / l12)) (l10 + (-1)) h2)) ∧ (¬ 0 < (zcmp l12 0) → K (-1) h)) ∧ (¬ (h l1 11) ≤ (l11 + 1) → zCi G d mX4_lengthOf [vr 4 l1, vi l11] h (fun x3 h4 => zR x3 ∧ ((zcmp l6 (x3 * l12)) < 0 → (0 < (zcmp l12 0) → ((0 : Int) ≤ l11 ∧ l11 < 128) ∧ (0 ≤ l6 ∧ l6 < 9223372036854775808 ∧ 0 < l12 ∧ l12 < 9223372036854775808) ∧ zRL (l6 / l12) ∧ (0 ≤ l6 ∧ l6 < 9223372036854775808 ∧ 0 < l12 ∧ l12 < 9223372036854775808) ∧ zCi G d mX7_sheafStep [vr 7 (l1 + 7), vi l8, vi l11] h4 (fun x5 h6 => tX1_letterOfKth_14 G d K l1 l2 l5 (l6 % l12) x5 ((h4 (l1 + 6) l11) + (l6 / l12)) (l10 + (-1)) h6)) ∧ (¬ 0 < (zcmp l12 0) → K (-1) h4)) ∧ (¬ (zcmp l6 (x3 * l12)) < 0 → zCi G d mX4_lengthOf [vr 4 l1, vi l11] h4 (fun x7 h8 => zR x7 ∧ zCi G d mX7_sheafStep [vr 7 (l1 + 7), vi l8, vi (l11 + 1)] h8 (fun x9 h10 => zCl G d mX1_behindSheaf [vr 1 242, vi l10, vi x9] h10 (fun x11 h12 => tX1_letterOfKth_51 G d K l1 l2 l5 (l6 - (x7 * l12)) l8 l10 (l11 + 1) x11 h12))))))) : tX1_letterOfKth_51 G d K l1 l2 l5 l6 l8 l10 l11 l12 h := by
  unfold tX1_letterOfKth_51
  refine z_know (fun zo zs zv => ?_)
  have w_l1 : zvok (vr 4 l1) := zv _ (List.mem_of_getElem? (i := 1) rfl)
  refine z_iload dX1_letterOfKth_51 rfl rfl ?_
  refine z_iconst dX1_letterOfKth_53 rfl ?_
  refine z_iadd dX1_letterOfKth_54 rfl ?_
  refine z_aload_n 1 dX1_letterOfKth_55 rfl rfl (Nat.le_of_ble_eq_true rfl) rfl ?_
  refine z_getI 4 (x := (h l1 11)) fX1_31 rfl dX1_letterOfKth_56 rfl rfl ?_
  obtain ⟨r1, r2, ka, kb⟩ := k
  refine z_icmp_ge (tgt := 118) dX1_letterOfKth_59 rfl r1 r2 rfl ⟨fun q => ?_, fun q => ?_⟩
  · have k := ka q
    refine z_lload dX1_letterOfKth_118 rfl rfl ?_
    refine z_lconst (x := 0) dX1_letterOfKth_120 rfl rfl ?_
    refine z_lcmp dX1_letterOfKth_121 rfl ?_
    obtain ⟨ka, kb⟩ := k
    refine z_if_gt (tgt := 127) dX1_letterOfKth_122 rfl (zcmp_R _ _) rfl ⟨fun q => ?_, fun q => ?_⟩
    · have k := ka q
      refine z_aload_n 1 dX1_letterOfKth_127 rfl rfl (Nat.le_of_ble_eq_true rfl) rfl ?_
      refine z_getF 4 13 (x := (l1 + 6)) fX1_57 rfl dX1_letterOfKth_128 (by omega) rfl ?_
      refine z_iload dX1_letterOfKth_131 rfl rfl ?_
      obtain ⟨i9, k⟩ := k
      refine z_iald (x := (h (l1 + 6) l11)) dX1_letterOfKth_133 (by rw [zl4_6 w_l1]; exact i9) rfl rfl ?_
      refine z_lload dX1_letterOfKth_134 rfl rfl ?_
      refine z_lload dX1_letterOfKth_136 rfl rfl ?_
      obtain ⟨i9, k⟩ := k
      refine z_ldiv dX1_letterOfKth_138 i9 rfl ?_
      obtain ⟨r9, k⟩ := k
      refine z_l2i dX1_letterOfKth_139 r9 rfl ?_
      refine z_iadd dX1_letterOfKth_140 rfl ?_
      refine z_istore dX1_letterOfKth_141 (Nat.le_of_ble_eq_true rfl) (L' := [some (vr 1 242), some (vr 4 l1), some (vi l2), none, none, some (vi l5), some (vl l6), none, some (vi l8), some (vi ((h (l1 + 6) l11) + (l6 / l12))), some (vi l10), some (vi l11), some (vl l12), none]) rfl rfl ?_
      refine z_lload dX1_letterOfKth_143 rfl rfl ?_
      refine z_lload dX1_letterOfKth_145 rfl rfl ?_
      obtain ⟨i9, k⟩ := k
      refine z_lrem dX1_letterOfKth_147 i9 rfl ?_
      refine z_lstore dX1_letterOfKth_148 (Nat.le_of_ble_eq_true rfl) (L' := [some (vr 1 242), some (vr 4 l1), some (vi l2), none, none, some (vi l5), some (vl (l6 % l12)), none, some (vi l8), some (vi ((h (l1 + 6) l11) + (l6 / l12))), some (vi l10), some (vi l11), some (vl l12), none]) rfl rfl ?_
      refine z_aload_n 1 dX1_letterOfKth_150 rfl rfl (Nat.le_of_ble_eq_true rfl) rfl ?_
      refine z_getF 4 7 (x := (l1 + 7)) fX1_15 rfl dX1_letterOfKth_151 (by omega) rfl ?_
      refine z_iload dX1_letterOfKth_154 rfl rfl ?_
      refine z_iload dX1_letterOfKth_156 rfl rfl ?_
      refine z_callVi vX7_sheafStep kX1_38 dX1_letterOfKth_158 rfl (zRo_d d) (as := [vi l8, vi l11]) (rest := []) (Nat.le_of_ble_eq_true rfl) rfl rfl (zCi_mono (fun x1 h2 k => ?_) k)
      refine z_istore dX1_letterOfKth_161 (Nat.le_of_ble_eq_true rfl) (L' := [some (vr 1 242), some (vr 4 l1), some (vi l2), none, none, some (vi l5), some (vl (l6 % l12)), none, some (vi x1), some (vi ((h (l1 + 6) l11) + (l6 / l12))), some (vi l10), some (vi l11), some (vl l12), none]) rfl rfl ?_
      refine z_iinc dX1_letterOfKth_163 rfl (Nat.le_of_ble_eq_true rfl) (L' := [some (vr 1 242), some (vr 4 l1), some (vi l2), none, none, some (vi l5), some (vl (l6 % l12)), none, some (vi x1), some (vi ((h (l1 + 6) l11) + (l6 / l12))), some (vi (l10 + (-1))), some (vi l11), some (vl l12), none]) rfl rfl ?_
      refine z_goto (tgt := 14) dX1_letterOfKth_166 rfl ?_
      exact z_sub (L' := [some (vr 1 242), some (vr 4 l1), some (vi l2), none, none, some (vi l5), some (vl (l6 % l12)), none, some (vi x1), some (vi ((h (l1 + 6) l11) + (l6 / l12))), some (vi (l10 + (-1))), none, none, none]) (And.intro rfl (And.intro rfl (And.intro rfl (And.intro rfl (And.intro rfl (And.intro rfl (And.intro rfl (And.intro rfl trivial)))))))) k
    · have k := kb q
      refine z_iconst dX1_letterOfKth_125 rfl ?_
      exact z_ireturn rfl dX1_letterOfKth_126 ⟨_, rfl, k⟩
  · have k := kb q
    refine z_lload dX1_letterOfKth_62 rfl rfl ?_
    refine z_aload_n 1 dX1_letterOfKth_64 rfl rfl (Nat.le_of_ble_eq_true rfl) rfl ?_
    refine z_iload dX1_letterOfKth_65 rfl rfl ?_
    refine z_callVi vX4_lengthOf kX1_34 dX1_letterOfKth_67 rfl (zRo_d d) (as := [vi l11]) (rest := [vl l6]) (Nat.le_of_ble_eq_true rfl) rfl rfl (zCi_mono (fun x3 h4 k => ?_) k)
    obtain ⟨r9, k⟩ := k
    refine z_i2l dX1_letterOfKth_70 r9 rfl ?_
    refine z_lload dX1_letterOfKth_71 rfl rfl ?_
    refine z_lmul dX1_letterOfKth_73 rfl ?_
    refine z_lcmp dX1_letterOfKth_74 rfl ?_
    obtain ⟨ka, kb⟩ := k
    refine z_if_lt (tgt := 118) dX1_letterOfKth_75 rfl (zcmp_R _ _) rfl ⟨fun q => ?_, fun q => ?_⟩
    · have k := ka q
      refine z_lload dX1_letterOfKth_118 rfl rfl ?_
      refine z_lconst (x := 0) dX1_letterOfKth_120 rfl rfl ?_
      refine z_lcmp dX1_letterOfKth_121 rfl ?_
      obtain ⟨ka, kb⟩ := k
      refine z_if_gt (tgt := 127) dX1_letterOfKth_122 rfl (zcmp_R _ _) rfl ⟨fun q => ?_, fun q => ?_⟩
      · have k := ka q
        refine z_aload_n 1 dX1_letterOfKth_127 rfl rfl (Nat.le_of_ble_eq_true rfl) rfl ?_
        refine z_getF 4 13 (x := (l1 + 6)) fX1_57 rfl dX1_letterOfKth_128 (by omega) rfl ?_
        refine z_iload dX1_letterOfKth_131 rfl rfl ?_
        obtain ⟨i9, k⟩ := k
        refine z_iald (x := (h4 (l1 + 6) l11)) dX1_letterOfKth_133 (by rw [zl4_6 w_l1]; exact i9) rfl rfl ?_
        refine z_lload dX1_letterOfKth_134 rfl rfl ?_
        refine z_lload dX1_letterOfKth_136 rfl rfl ?_
        obtain ⟨i9, k⟩ := k
        refine z_ldiv dX1_letterOfKth_138 i9 rfl ?_
        obtain ⟨r9, k⟩ := k
        refine z_l2i dX1_letterOfKth_139 r9 rfl ?_
        refine z_iadd dX1_letterOfKth_140 rfl ?_
        refine z_istore dX1_letterOfKth_141 (Nat.le_of_ble_eq_true rfl) (L' := [some (vr 1 242), some (vr 4 l1), some (vi l2), none, none, some (vi l5), some (vl l6), none, some (vi l8), some (vi ((h4 (l1 + 6) l11) + (l6 / l12))), some (vi l10), some (vi l11), some (vl l12), none]) rfl rfl ?_
        refine z_lload dX1_letterOfKth_143 rfl rfl ?_
        refine z_lload dX1_letterOfKth_145 rfl rfl ?_
        obtain ⟨i9, k⟩ := k
        refine z_lrem dX1_letterOfKth_147 i9 rfl ?_
        refine z_lstore dX1_letterOfKth_148 (Nat.le_of_ble_eq_true rfl) (L' := [some (vr 1 242), some (vr 4 l1), some (vi l2), none, none, some (vi l5), some (vl (l6 % l12)), none, some (vi l8), some (vi ((h4 (l1 + 6) l11) + (l6 / l12))), some (vi l10), some (vi l11), some (vl l12), none]) rfl rfl ?_
        refine z_aload_n 1 dX1_letterOfKth_150 rfl rfl (Nat.le_of_ble_eq_true rfl) rfl ?_
        refine z_getF 4 7 (x := (l1 + 7)) fX1_15 rfl dX1_letterOfKth_151 (by omega) rfl ?_
        refine z_iload dX1_letterOfKth_154 rfl rfl ?_
        refine z_iload dX1_letterOfKth_156 rfl rfl ?_
        refine z_callVi vX7_sheafStep kX1_38 dX1_letterOfKth_158 rfl (zRo_d d) (as := [vi l8, vi l11]) (rest := []) (Nat.le_of_ble_eq_true rfl) rfl rfl (zCi_mono (fun x5 h6 k => ?_) k)
        refine z_istore dX1_letterOfKth_161 (Nat.le_of_ble_eq_true rfl) (L' := [some (vr 1 242), some (vr 4 l1), some (vi l2), none, none, some (vi l5), some (vl (l6 % l12)), none, some (vi x5), some (vi ((h4 (l1 + 6) l11) + (l6 / l12))), some (vi l10), some (vi l11), some (vl l12), none]) rfl rfl ?_
        refine z_iinc dX1_letterOfKth_163 rfl (Nat.le_of_ble_eq_true rfl) (L' := [some (vr 1 242), some (vr 4 l1), some (vi l2), none, none, some (vi l5), some (vl (l6 % l12)), none, some (vi x5), some (vi ((h4 (l1 + 6) l11) + (l6 / l12))), some (vi (l10 + (-1))), some (vi l11), some (vl l12), none]) rfl rfl ?_
        refine z_goto (tgt := 14) dX1_letterOfKth_166 rfl ?_
        exact z_sub (L' := [some (vr 1 242), some (vr 4 l1), some (vi l2), none, none, some (vi l5), some (vl (l6 % l12)), none, some (vi x5), some (vi ((h4 (l1 + 6) l11) + (l6 / l12))), some (vi (l10 + (-1))), none, none, none]) (And.intro rfl (And.intro rfl (And.intro rfl (And.intro rfl (And.intro rfl (And.intro rfl (And.intro rfl (And.intro rfl trivial)))))))) k
      · have k := kb q
        refine z_iconst dX1_letterOfKth_125 rfl ?_
        exact z_ireturn rfl dX1_letterOfKth_126 ⟨_, rfl, k⟩
    · have k := kb q
      refine z_lload dX1_letterOfKth_78 rfl rfl ?_
      refine z_aload_n 1 dX1_letterOfKth_80 rfl rfl (Nat.le_of_ble_eq_true rfl) rfl ?_
      refine z_iload dX1_letterOfKth_81 rfl rfl ?_
      refine z_callVi vX4_lengthOf kX1_34 dX1_letterOfKth_83 rfl (zRo_d d) (as := [vi l11]) (rest := [vl l6]) (Nat.le_of_ble_eq_true rfl) rfl rfl (zCi_mono (fun x7 h8 k => ?_) k)
      obtain ⟨r9, k⟩ := k
      refine z_i2l dX1_letterOfKth_86 r9 rfl ?_
      refine z_lload dX1_letterOfKth_87 rfl rfl ?_
      refine z_lmul dX1_letterOfKth_89 rfl ?_
      refine z_lsub dX1_letterOfKth_90 rfl ?_
      refine z_lstore dX1_letterOfKth_91 (Nat.le_of_ble_eq_true rfl) (L' := [some (vr 1 242), some (vr 4 l1), some (vi l2), none, none, some (vi l5), some (vl (l6 - (x7 * l12))), none, some (vi l8), none, some (vi l10), some (vi l11), some (vl l12), none]) rfl rfl ?_
      refine z_iinc dX1_letterOfKth_93 rfl (Nat.le_of_ble_eq_true rfl) (L' := [some (vr 1 242), some (vr 4 l1), some (vi l2), none, none, some (vi l5), some (vl (l6 - (x7 * l12))), none, some (vi l8), none, some (vi l10), some (vi (l11 + 1)), some (vl l12), none]) rfl rfl ?_
      refine z_aload_n 0 dX1_letterOfKth_96 rfl rfl (Nat.le_of_ble_eq_true rfl) rfl ?_
      refine z_iload dX1_letterOfKth_97 rfl rfl ?_
      refine z_aload_n 1 dX1_letterOfKth_99 rfl rfl (Nat.le_of_ble_eq_true rfl) rfl ?_
      refine z_getF 4 7 (x := (l1 + 7)) fX1_15 rfl dX1_letterOfKth_100 (by omega) rfl ?_
      refine z_iload dX1_letterOfKth_103 rfl rfl ?_
      refine z_iload dX1_letterOfKth_105 rfl rfl ?_
      refine z_callVi vX7_sheafStep kX1_38 dX1_letterOfKth_107 rfl (zRo_d d) (as := [vi l8, vi (l11 + 1)]) (rest := [vi l10, vr 1 242]) (Nat.le_of_ble_eq_true rfl) rfl rfl (zCi_mono (fun x9 h10 k => ?_) k)
      refine z_callVl vX1_behindSheaf kX1_42 dX1_letterOfKth_110 rfl (zRo_d d) (as := [vi l10, vi x9]) (rest := []) (Nat.le_of_ble_eq_true rfl) rfl rfl (zCl_mono (fun x11 h12 k => ?_) k)
      refine z_lstore dX1_letterOfKth_113 (Nat.le_of_ble_eq_true rfl) (L' := [some (vr 1 242), some (vr 4 l1), some (vi l2), none, none, some (vi l5), some (vl (l6 - (x7 * l12))), none, some (vi l8), none, some (vi l10), some (vi (l11 + 1)), some (vl x11), none]) rfl rfl ?_
      refine z_goto (tgt := 51) dX1_letterOfKth_115 rfl ?_
      exact z_sub (L' := [some (vr 1 242), some (vr 4 l1), some (vi l2), none, none, some (vi l5), some (vl (l6 - (x7 * l12))), none, some (vi l8), none, some (vi l10), some (vi (l11 + 1)), some (vl x11), none]) (And.intro rfl (And.intro rfl (And.intro rfl (And.intro rfl (And.intro rfl (And.intro rfl (And.intro rfl (And.intro rfl (And.intro rfl trivial))))))))) k
theorem eX1_letterOfKth {G : zG} {d : Nat} {K : Int → zH → Prop} {l1 : Int} {l2 : Int} {l3 : Int} {l5 : Int} {h : zH} (k : tX1_letterOfKth_0 G d K l1 l2 l3 l5 h) : zCi G (d + 1) mX1_letterOfKth [vr 1 242, vr 4 l1, vi l2, vl l3, vi l5] h K := z_entry (by decide +kernel) (Nat.le_of_ble_eq_true rfl) rfl k
def tX5_group_0 (G : zG) (d : Nat) (K : zH → Prop) (l1 : Int) (l2 : Int) (h : zH) : Prop := zTv G (d + 1) mX5_group K 0 [some (vr 5 244), some (vr 4 l1), some (vi l2), none] [] h
def tX5_group_15 (G : zG) (d : Nat) (K : zH → Prop) (l1 : Int) (l2 : Int) (l3 : Int) (h : zH) : Prop := zTv G (d + 1) mX5_group K 15 [some (vr 5 244), some (vr 4 l1), some (vi l2), some (vi l3)] [] h
theorem bX5_group_0 {G : zG} {d : Nat} {K : zH → Prop} {l1 : Int} {l2 : Int} {h : zH} (k : zCv G d mJ7_fill_53178 [vr 13 245, vi 0] h (fun h2 => tX5_group_15 G d K l1 l2 0 (zup h2 244 2 1))) : tX5_group_0 G d K l1 l2 h := by
  unfold tX5_group_0
  refine z_aload_n 0 dX5_group_0 rfl rfl (Nat.le_of_ble_eq_true rfl) rfl ?_
  refine z_getF 5 13 (x := 245) fX5_9 rfl dX5_group_1 rfl rfl ?_
  refine z_iconst dX5_group_4 rfl ?_
  refine z_callSv sJ7_fill_53178 kX5_18 dX5_group_5 rfl (zRo_d d) (as := [vr 13 245, vi 0]) (rest := []) (Nat.le_of_ble_eq_true rfl) rfl rfl (zCv_mono (fun h2 k => ?_) k)
  refine z_aload_n 0 dX5_group_8 rfl rfl (Nat.le_of_ble_eq_true rfl) rfl ?_
  refine z_iconst dX5_group_9 rfl ?_
  refine z_putI 5 gX5_24 dX5_group_10 rfl ?_
  refine z_iconst dX5_group_13 rfl ?_
  refine z_istore_n 3 dX5_group_14 rfl (Nat.le_of_ble_eq_true rfl) (L' := [some (vr 5 244), some (vr 4 l1), some (vi l2), some (vi 0)]) rfl rfl ?_
  exact z_sub (L' := [some (vr 5 244), some (vr 4 l1), some (vi l2), some (vi 0)]) (And.intro rfl (And.intro rfl (And.intro rfl (And.intro rfl trivial)))) k
theorem bX5_group_15 {G : zG} {d : Nat} {K : zH → Prop} {l1 : Int} {l2 : Int} {l3 : Int} {h : zH} (k : zR l3 ∧ zR (h l1 9) ∧ ((h l1 9) ≤ l3 → K h) ∧ (¬ (h l1 9) ≤ l3 → ((0 : Int) ≤ l3 ∧ l3 < 160) ∧ zR (h (l1 + 1) l3) ∧ zR l2 ∧ (¬ (h (l1 + 1) l3) = l2 → tX5_group_15 G d K l1 l2 (l3 + 1) h) ∧ ((h (l1 + 1) l3) = l2 → zCv G d mX5_partBy [vr 5 244, vr 4 l1, vi l3] h (fun h2 => tX5_group_15 G d K l1 l2 (l3 + 1) h2)))) : tX5_group_15 G d K l1 l2 l3 h := by
  unfold tX5_group_15
  refine z_know (fun zo zs zv => ?_)
  have w_l1 : zvok (vr 4 l1) := zv _ (List.mem_of_getElem? (i := 1) rfl)
  refine z_iload_n 3 dX5_group_15 rfl rfl rfl ?_
  refine z_aload_n 1 dX5_group_16 rfl rfl (Nat.le_of_ble_eq_true rfl) rfl ?_
  refine z_getI 4 (x := (h l1 9)) fX5_28 rfl dX5_group_17 rfl rfl ?_
  obtain ⟨r1, r2, ka, kb⟩ := k
  refine z_icmp_ge (tgt := 45) dX5_group_20 rfl r1 r2 rfl ⟨fun q => ?_, fun q => ?_⟩
  · have k := ka q
    exact z_return rfl dX5_group_45 ⟨rfl, k⟩
  · have k := kb q
    refine z_aload_n 1 dX5_group_23 rfl rfl (Nat.le_of_ble_eq_true rfl) rfl ?_
    refine z_getF 4 13 (x := (l1 + 1)) fX5_33 rfl dX5_group_24 (by omega) rfl ?_
    refine z_iload_n 3 dX5_group_27 rfl rfl rfl ?_
    obtain ⟨i9, k⟩ := k
    refine z_iald (x := (h (l1 + 1) l3)) dX5_group_28 (by rw [zl4_1 w_l1]; exact i9) rfl rfl ?_
    refine z_iload_n 2 dX5_group_29 rfl rfl rfl ?_
    obtain ⟨r1, r2, ka, kb⟩ := k
    refine z_icmp_ne (tgt := 39) dX5_group_30 rfl r1 r2 rfl ⟨fun q => ?_, fun q => ?_⟩
    · have k := ka q
      refine z_iinc dX5_group_39 rfl (Nat.le_of_ble_eq_true rfl) (L' := [some (vr 5 244), some (vr 4 l1), some (vi l2), some (vi (l3 + 1))]) rfl rfl ?_
      refine z_goto (tgt := 15) dX5_group_42 rfl ?_
      exact z_sub (L' := [some (vr 5 244), some (vr 4 l1), some (vi l2), some (vi (l3 + 1))]) (And.intro rfl (And.intro rfl (And.intro rfl (And.intro rfl trivial)))) k
    · have k := kb q
      refine z_aload_n 0 dX5_group_33 rfl rfl (Nat.le_of_ble_eq_true rfl) rfl ?_
      refine z_aload_n 1 dX5_group_34 rfl rfl (Nat.le_of_ble_eq_true rfl) rfl ?_
      refine z_iload_n 3 dX5_group_35 rfl rfl rfl ?_
      refine z_callVv vX5_partBy kX5_36 dX5_group_36 rfl (zRo_d d) (as := [vr 4 l1, vi l3]) (rest := []) (Nat.le_of_ble_eq_true rfl) rfl rfl (zCv_mono (fun h2 k => ?_) k)
      refine z_iinc dX5_group_39 rfl (Nat.le_of_ble_eq_true rfl) (L' := [some (vr 5 244), some (vr 4 l1), some (vi l2), some (vi (l3 + 1))]) rfl rfl ?_
      refine z_goto (tgt := 15) dX5_group_42 rfl ?_
      exact z_sub (L' := [some (vr 5 244), some (vr 4 l1), some (vi l2), some (vi (l3 + 1))]) (And.intro rfl (And.intro rfl (And.intro rfl (And.intro rfl trivial)))) k
theorem eX5_group {G : zG} {d : Nat} {K : zH → Prop} {l1 : Int} {l2 : Int} {h : zH} (k : tX5_group_0 G d K l1 l2 h) : zCv G (d + 1) mX5_group [vr 5 244, vr 4 l1, vi l2] h K := z_entry (by decide +kernel) (Nat.le_of_ble_eq_true rfl) rfl k
def tX5_partBy_0 (G : zG) (d : Nat) (K : zH → Prop) (l1 : Int) (l2 : Int) (h : zH) : Prop := zTv G (d + 1) mX5_partBy K 0 [some (vr 5 244), some (vr 4 l1), some (vi l2), none, none] [] h
def tX5_partBy_15 (G : zG) (d : Nat) (K : zH → Prop) (l1 : Int) (l2 : Int) (l3 : Int) (h : zH) : Prop := zTv G (d + 1) mX5_partBy K 15 [some (vr 5 244), some (vr 4 l1), some (vi l2), some (vi l3), none] [] h
theorem bX5_partBy_0 {G : zG} {d : Nat} {K : zH → Prop} {l1 : Int} {l2 : Int} {h : zH} (k : zCv G d mJ7_fill_53178 [vr 13 246, vi (-1)] h (fun h2 => tX5_partBy_15 G d K l1 l2 0 (zup h2 244 2 0))) : tX5_partBy_0 G d K l1 l2 h := by
  unfold tX5_partBy_0
  refine z_aload_n 0 dX5_partBy_0 rfl rfl (Nat.le_of_ble_eq_true rfl) rfl ?_
  refine z_getF 5 13 (x := 246) fX5_15 rfl dX5_partBy_1 rfl rfl ?_
  refine z_iconst dX5_partBy_4 rfl ?_
  refine z_callSv sJ7_fill_53178 kX5_18 dX5_partBy_5 rfl (zRo_d d) (as := [vr 13 246, vi (-1)]) (rest := []) (Nat.le_of_ble_eq_true rfl) rfl rfl (zCv_mono (fun h2 k => ?_) k)
  refine z_aload_n 0 dX5_partBy_8 rfl rfl (Nat.le_of_ble_eq_true rfl) rfl ?_
  refine z_iconst dX5_partBy_9 rfl ?_
  refine z_putI 5 gX5_24 dX5_partBy_10 rfl ?_
  refine z_iconst dX5_partBy_13 rfl ?_
  refine z_istore_n 3 dX5_partBy_14 rfl (Nat.le_of_ble_eq_true rfl) (L' := [some (vr 5 244), some (vr 4 l1), some (vi l2), some (vi 0), none]) rfl rfl ?_
  exact z_sub (L' := [some (vr 5 244), some (vr 4 l1), some (vi l2), some (vi 0), none]) (And.intro rfl (And.intro rfl (And.intro rfl (And.intro rfl trivial)))) k
theorem bX5_partBy_15 {G : zG} {d : Nat} {K : zH → Prop} {l1 : Int} {l2 : Int} {l3 : Int} {h : zH} (k : zR l3 ∧ zR (h l1 11) ∧ ((h l1 11) ≤ l3 → K h) ∧ (¬ (h l1 11) ≤ l3 → ((0 : Int) ≤ l3 ∧ l3 < 128) ∧ zCb G d mX4_edgeHas [vr 4 l1, vi l2, vi l3] h (fun x1 h2 => (x1 = false → ((0 : Int) ≤ ((2 * (h 245 l3)) + 0) ∧ ((2 * (h 245 l3)) + 0) < 256) ∧ zR (h2 246 ((2 * (h 245 l3)) + 0)) ∧ (¬ (h2 246 ((2 * (h 245 l3)) + 0)) = (-1) → ((0 : Int) ≤ ((2 * (h 245 l3)) + 0) ∧ ((2 * (h 245 l3)) + 0) < 256) ∧ ((0 : Int) ≤ l3 ∧ l3 < 128) ∧ tX5_partBy_15 G d K l1 l2 (l3 + 1) (zup h2 245 l3 (h2 246 ((2 * (h 245 l3)) + 0)))) ∧ ((h2 246 ((2 * (h 245 l3)) + 0)) = (-1) → ((0 : Int) ≤ ((2 * (h 245 l3)) + 0) ∧ ((2 * (h 245 l3)) + 0) < 256) ∧ ((0 : Int) ≤ ((2 * (h 245 l3)) + 0) ∧ ((2 * (h 245 l3)) + 0) < 256) ∧ ((0 : Int) ≤ l3 ∧ l3 < 128) ∧ tX5_partBy_15 G d K l1 l2 (l3 + 1) (zup (zup (zup h2 246 ((2 * (h 245 l3)) + 0) (h2 244 2)) 244 2 ((h2 244 2) + 1)) 245 l3 (h2 244 2)))) ∧ (x1 = true → ((0 : Int) ≤ ((2 * (h 245 l3)) + 1) ∧ ((2 * (h 245 l3)) + 1) < 256) ∧ zR (h2 246 ((2 * (h 245 l3)) + 1)) ∧ (¬ (h2 246 ((2 * (h 245 l3)) + 1)) = (-1) → ((0 : Int) ≤ ((2 * (h 245 l3)) + 1) ∧ ((2 * (h 245 l3)) + 1) < 256) ∧ ((0 : Int) ≤ l3 ∧ l3 < 128) ∧ tX5_partBy_15 G d K l1 l2 (l3 + 1) (zup h2 245 l3 (h2 246 ((2 * (h 245 l3)) + 1)))) ∧ ((h2 246 ((2 * (h 245 l3)) + 1)) = (-1) → ((0 : Int) ≤ ((2 * (h 245 l3)) + 1) ∧ ((2 * (h 245 l3)) + 1) < 256) ∧ ((0 : Int) ≤ ((2 * (h 245 l3)) + 1) ∧ ((2 * (h 245 l3)) + 1) < 256) ∧ ((0 : Int) ≤ l3 ∧ l3 < 128) ∧ tX5_partBy_15 G d K l1 l2 (l3 + 1) (zup (zup (zup h2 246 ((2 * (h 245 l3)) + 1) (h2 244 2)) 244 2 ((h2 244 2) + 1)) 245 l3 (h2 244 2))))))) : tX5_partBy_15 G d K l1 l2 l3 h := by
  unfold tX5_partBy_15
  refine z_iload_n 3 dX5_partBy_15 rfl rfl rfl ?_
  refine z_aload_n 1 dX5_partBy_16 rfl rfl (Nat.le_of_ble_eq_true rfl) rfl ?_
  refine z_getI 4 (x := (h l1 11)) fX5_40 rfl dX5_partBy_17 rfl rfl ?_
  obtain ⟨r1, r2, ka, kb⟩ := k
  refine z_icmp_ge (tgt := 99) dX5_partBy_20 rfl r1 r2 rfl ⟨fun q => ?_, fun q => ?_⟩
  · have k := ka q
    exact z_return rfl dX5_partBy_99 ⟨rfl, k⟩
  · have k := kb q
    refine z_iconst dX5_partBy_23 rfl ?_
    refine z_aload_n 0 dX5_partBy_24 rfl rfl (Nat.le_of_ble_eq_true rfl) rfl ?_
    refine z_getF 5 13 (x := 245) fX5_9 rfl dX5_partBy_25 rfl rfl ?_
    refine z_iload_n 3 dX5_partBy_28 rfl rfl rfl ?_
    obtain ⟨i9, k⟩ := k
    refine z_iald (x := (h 245 l3)) dX5_partBy_29 (by rw [zl_245]; exact i9) rfl rfl ?_
    refine z_imul dX5_partBy_30 rfl ?_
    refine z_aload_n 1 dX5_partBy_31 rfl rfl (Nat.le_of_ble_eq_true rfl) rfl ?_
    refine z_iload_n 2 dX5_partBy_32 rfl rfl rfl ?_
    refine z_iload_n 3 dX5_partBy_33 rfl rfl rfl ?_
    refine z_callVb vX4_edgeHas kX5_43 dX5_partBy_34 rfl (zRo_d d) (as := [vi l2, vi l3]) (rest := [vi (2 * (h 245 l3))]) (Nat.le_of_ble_eq_true rfl) rfl rfl (zCb_mono (fun x1 h2 k => ?_) k)
    obtain ⟨ka, kb⟩ := k
    refine z_ifb_eq (tgt := 44) dX5_partBy_37 rfl rfl ⟨fun q => ?_, fun q => ?_⟩
    · have k := ka q
      refine z_iconst dX5_partBy_44 rfl ?_
      refine z_iadd dX5_partBy_45 rfl ?_
      refine z_istore dX5_partBy_46 (Nat.le_of_ble_eq_true rfl) (L' := [some (vr 5 244), some (vr 4 l1), some (vi l2), some (vi l3), some (vi ((2 * (h 245 l3)) + 0))]) rfl rfl ?_
      refine z_aload_n 0 dX5_partBy_48 rfl rfl (Nat.le_of_ble_eq_true rfl) rfl ?_
      refine z_getF 5 13 (x := 246) fX5_15 rfl dX5_partBy_49 rfl rfl ?_
      refine z_iload dX5_partBy_52 rfl rfl ?_
      obtain ⟨i9, k⟩ := k
      refine z_iald (x := (h2 246 ((2 * (h 245 l3)) + 0))) dX5_partBy_54 (by rw [zl_246]; exact i9) rfl rfl ?_
      refine z_iconst dX5_partBy_55 rfl ?_
      obtain ⟨r1, ka, kb⟩ := k
      refine z_icmp_ne (tgt := 80) dX5_partBy_56 rfl r1 ⟨by decide, by decide⟩ rfl ⟨fun q => ?_, fun q => ?_⟩
      · have k := ka q
        refine z_aload_n 0 dX5_partBy_80 rfl rfl (Nat.le_of_ble_eq_true rfl) rfl ?_
        refine z_getF 5 13 (x := 245) fX5_9 rfl dX5_partBy_81 rfl rfl ?_
        refine z_iload_n 3 dX5_partBy_84 rfl rfl rfl ?_
        refine z_aload_n 0 dX5_partBy_85 rfl rfl (Nat.le_of_ble_eq_true rfl) rfl ?_
        refine z_getF 5 13 (x := 246) fX5_15 rfl dX5_partBy_86 rfl rfl ?_
        refine z_iload dX5_partBy_89 rfl rfl ?_
        obtain ⟨i9, k⟩ := k
        refine z_iald (x := (h2 246 ((2 * (h 245 l3)) + 0))) dX5_partBy_91 (by rw [zl_246]; exact i9) rfl rfl ?_
        obtain ⟨i9, k⟩ := k
        refine z_iast dX5_partBy_92 (by rw [zl_245]; exact i9) rfl ?_
        refine z_iinc dX5_partBy_93 rfl (Nat.le_of_ble_eq_true rfl) (L' := [some (vr 5 244), some (vr 4 l1), some (vi l2), some (vi (l3 + 1)), some (vi ((2 * (h 245 l3)) + 0))]) rfl rfl ?_
        refine z_goto (tgt := 15) dX5_partBy_96 rfl ?_
        exact z_sub (L' := [some (vr 5 244), some (vr 4 l1), some (vi l2), some (vi (l3 + 1)), none]) (And.intro rfl (And.intro rfl (And.intro rfl (And.intro rfl trivial)))) k
      · have k := kb q
        refine z_aload_n 0 dX5_partBy_59 rfl rfl (Nat.le_of_ble_eq_true rfl) rfl ?_
        refine z_getF 5 13 (x := 246) fX5_15 rfl dX5_partBy_60 rfl rfl ?_
        refine z_iload dX5_partBy_63 rfl rfl ?_
        refine z_aload_n 0 dX5_partBy_65 rfl rfl (Nat.le_of_ble_eq_true rfl) rfl ?_
        refine z_getI 5 (x := (h2 244 2)) fX5_24 rfl dX5_partBy_66 rfl rfl ?_
        obtain ⟨i9, k⟩ := k
        refine z_iast dX5_partBy_69 (by rw [zl_246]; exact i9) rfl ?_
        refine z_aload_n 0 dX5_partBy_70 rfl rfl (Nat.le_of_ble_eq_true rfl) rfl ?_
        refine z_dup dX5_partBy_71 (fun q => by cases q) rfl ?_
        refine z_getI 5 (x := (h2 244 2)) fX5_24 rfl dX5_partBy_72 (by simp [zup]) rfl ?_
        refine z_iconst dX5_partBy_75 rfl ?_
        refine z_iadd dX5_partBy_76 rfl ?_
        refine z_putI 5 gX5_24 dX5_partBy_77 rfl ?_
        refine z_aload_n 0 dX5_partBy_80 rfl rfl (Nat.le_of_ble_eq_true rfl) rfl ?_
        refine z_getF 5 13 (x := 245) fX5_9 rfl dX5_partBy_81 rfl rfl ?_
        refine z_iload_n 3 dX5_partBy_84 rfl rfl rfl ?_
        refine z_aload_n 0 dX5_partBy_85 rfl rfl (Nat.le_of_ble_eq_true rfl) rfl ?_
        refine z_getF 5 13 (x := 246) fX5_15 rfl dX5_partBy_86 rfl rfl ?_
        refine z_iload dX5_partBy_89 rfl rfl ?_
        obtain ⟨i9, k⟩ := k
        refine z_iald (x := (h2 244 2)) dX5_partBy_91 (by rw [zl_246]; exact i9) (by simp [zup]) rfl ?_
        obtain ⟨i9, k⟩ := k
        refine z_iast dX5_partBy_92 (by rw [zl_245]; exact i9) rfl ?_
        refine z_iinc dX5_partBy_93 rfl (Nat.le_of_ble_eq_true rfl) (L' := [some (vr 5 244), some (vr 4 l1), some (vi l2), some (vi (l3 + 1)), some (vi ((2 * (h 245 l3)) + 0))]) rfl rfl ?_
        refine z_goto (tgt := 15) dX5_partBy_96 rfl ?_
        exact z_sub (L' := [some (vr 5 244), some (vr 4 l1), some (vi l2), some (vi (l3 + 1)), none]) (And.intro rfl (And.intro rfl (And.intro rfl (And.intro rfl trivial)))) k
    · have k := kb q
      refine z_iconst dX5_partBy_40 rfl ?_
      refine z_goto (tgt := 45) dX5_partBy_41 rfl ?_
      refine z_iadd dX5_partBy_45 rfl ?_
      refine z_istore dX5_partBy_46 (Nat.le_of_ble_eq_true rfl) (L' := [some (vr 5 244), some (vr 4 l1), some (vi l2), some (vi l3), some (vi ((2 * (h 245 l3)) + 1))]) rfl rfl ?_
      refine z_aload_n 0 dX5_partBy_48 rfl rfl (Nat.le_of_ble_eq_true rfl) rfl ?_
      refine z_getF 5 13 (x := 246) fX5_15 rfl dX5_partBy_49 rfl rfl ?_
      refine z_iload dX5_partBy_52 rfl rfl ?_
      obtain ⟨i9, k⟩ := k
      refine z_iald (x := (h2 246 ((2 * (h 245 l3)) + 1))) dX5_partBy_54 (by rw [zl_246]; exact i9) rfl rfl ?_
      refine z_iconst dX5_partBy_55 rfl ?_
      obtain ⟨r1, ka, kb⟩ := k
      refine z_icmp_ne (tgt := 80) dX5_partBy_56 rfl r1 ⟨by decide, by decide⟩ rfl ⟨fun q => ?_, fun q => ?_⟩
      · have k := ka q
        refine z_aload_n 0 dX5_partBy_80 rfl rfl (Nat.le_of_ble_eq_true rfl) rfl ?_
        refine z_getF 5 13 (x := 245) fX5_9 rfl dX5_partBy_81 rfl rfl ?_
        refine z_iload_n 3 dX5_partBy_84 rfl rfl rfl ?_
        refine z_aload_n 0 dX5_partBy_85 rfl rfl (Nat.le_of_ble_eq_true rfl) rfl ?_
        refine z_getF 5 13 (x := 246) fX5_15 rfl dX5_partBy_86 rfl rfl ?_
        refine z_iload dX5_partBy_89 rfl rfl ?_
        obtain ⟨i9, k⟩ := k
        refine z_iald (x := (h2 246 ((2 * (h 245 l3)) + 1))) dX5_partBy_91 (by rw [zl_246]; exact i9) rfl rfl ?_
        obtain ⟨i9, k⟩ := k
        refine z_iast dX5_partBy_92 (by rw [zl_245]; exact i9) rfl ?_
        refine z_iinc dX5_partBy_93 rfl (Nat.le_of_ble_eq_true rfl) (L' := [some (vr 5 244), some (vr 4 l1), some (vi l2), some (vi (l3 + 1)), some (vi ((2 * (h 245 l3)) + 1))]) rfl rfl ?_
        refine z_goto (tgt := 15) dX5_partBy_96 rfl ?_
        exact z_sub (L' := [some (vr 5 244), some (vr 4 l1), some (vi l2), some (vi (l3 + 1)), none]) (And.intro rfl (And.intro rfl (And.intro rfl (And.intro rfl trivial)))) k
      · have k := kb q
        refine z_aload_n 0 dX5_partBy_59 rfl rfl (Nat.le_of_ble_eq_true rfl) rfl ?_
        refine z_getF 5 13 (x := 246) fX5_15 rfl dX5_partBy_60 rfl rfl ?_
        refine z_iload dX5_partBy_63 rfl rfl ?_
        refine z_aload_n 0 dX5_partBy_65 rfl rfl (Nat.le_of_ble_eq_true rfl) rfl ?_
        refine z_getI 5 (x := (h2 244 2)) fX5_24 rfl dX5_partBy_66 rfl rfl ?_
        obtain ⟨i9, k⟩ := k
        refine z_iast dX5_partBy_69 (by rw [zl_246]; exact i9) rfl ?_
        refine z_aload_n 0 dX5_partBy_70 rfl rfl (Nat.le_of_ble_eq_true rfl) rfl ?_
        refine z_dup dX5_partBy_71 (fun q => by cases q) rfl ?_
        refine z_getI 5 (x := (h2 244 2)) fX5_24 rfl dX5_partBy_72 (by simp [zup]) rfl ?_
        refine z_iconst dX5_partBy_75 rfl ?_
        refine z_iadd dX5_partBy_76 rfl ?_
        refine z_putI 5 gX5_24 dX5_partBy_77 rfl ?_
        refine z_aload_n 0 dX5_partBy_80 rfl rfl (Nat.le_of_ble_eq_true rfl) rfl ?_
        refine z_getF 5 13 (x := 245) fX5_9 rfl dX5_partBy_81 rfl rfl ?_
        refine z_iload_n 3 dX5_partBy_84 rfl rfl rfl ?_
        refine z_aload_n 0 dX5_partBy_85 rfl rfl (Nat.le_of_ble_eq_true rfl) rfl ?_
        refine z_getF 5 13 (x := 246) fX5_15 rfl dX5_partBy_86 rfl rfl ?_
        refine z_iload dX5_partBy_89 rfl rfl ?_
        obtain ⟨i9, k⟩ := k
        refine z_iald (x := (h2 244 2)) dX5_partBy_91 (by rw [zl_246]; exact i9) (by simp [zup]) rfl ?_
        obtain ⟨i9, k⟩ := k
        refine z_iast dX5_partBy_92 (by rw [zl_245]; exact i9) rfl ?_
        refine z_iinc dX5_partBy_93 rfl (Nat.le_of_ble_eq_true rfl) (L' := [some (vr 5 244), some (vr 4 l1), some (vi l2), some (vi (l3 + 1)), some (vi ((2 * (h 245 l3)) + 1))]) rfl rfl ?_
        refine z_goto (tgt := 15) dX5_partBy_96 rfl ?_
        exact z_sub (L' := [some (vr 5 244), some (vr 4 l1), some (vi l2), some (vi (l3 + 1)), none]) (And.intro rfl (And.intro rfl (And.intro rfl (And.intro rfl trivial)))) k
theorem eX5_partBy {G : zG} {d : Nat} {K : zH → Prop} {l1 : Int} {l2 : Int} {h : zH} (k : tX5_partBy_0 G d K l1 l2 h) : zCv G (d + 1) mX5_partBy [vr 5 244, vr 4 l1, vi l2] h K := z_entry (by decide +kernel) (Nat.le_of_ble_eq_true rfl) rfl k
def tX5_leaderOf_0 (G : zG) (d : Nat) (K : Int → zH → Prop) (l1 : Int) (l2 : Int) (h : zH) : Prop := zTi G d mX5_leaderOf K 0 [some (vr 5 244), some (vr 4 l1), some (vi l2), none] [] h
def tX5_leaderOf_2 (G : zG) (d : Nat) (K : Int → zH → Prop) (l1 : Int) (l2 : Int) (l3 : Int) (h : zH) : Prop := zTi G d mX5_leaderOf K 2 [some (vr 5 244), some (vr 4 l1), some (vi l2), some (vi l3)] [] h
theorem bX5_leaderOf_0 {G : zG} {d : Nat} {K : Int → zH → Prop} {l1 : Int} {l2 : Int} {h : zH} (k : tX5_leaderOf_2 G d K l1 l2 0 h) : tX5_leaderOf_0 G d K l1 l2 h := by
  unfold tX5_leaderOf_0
  refine z_iconst dX5_leaderOf_0 rfl ?_
  refine z_istore_n 3 dX5_leaderOf_1 rfl (Nat.le_of_ble_eq_true rfl) (L' := [some (vr 5 244), some (vr 4 l1), some (vi l2), some (vi 0)]) rfl rfl ?_
  exact z_sub (L' := [some (vr 5 244), some (vr 4 l1), some (vi l2), some (vi 0)]) (And.intro rfl (And.intro rfl (And.intro rfl (And.intro rfl trivial)))) k
theorem bX5_leaderOf_2 {G : zG} {d : Nat} {K : Int → zH → Prop} {l1 : Int} {l2 : Int} {l3 : Int} {h : zH} (k : zR (l3 + 1) ∧ zR (h l1 11) ∧ ((h l1 11) ≤ (l3 + 1) → K l3 h) ∧ (¬ (h l1 11) ≤ (l3 + 1) → ((0 : Int) ≤ l3 ∧ l3 < 128) ∧ zR (h 245 l3) ∧ zR l2 ∧ ((h 245 l3) = l2 → K l3 h) ∧ (¬ (h 245 l3) = l2 → tX5_leaderOf_2 G d K l1 l2 (l3 + 1) h))) : tX5_leaderOf_2 G d K l1 l2 l3 h := by
  unfold tX5_leaderOf_2
  refine z_iload_n 3 dX5_leaderOf_2 rfl rfl rfl ?_
  refine z_iconst dX5_leaderOf_3 rfl ?_
  refine z_iadd dX5_leaderOf_4 rfl ?_
  refine z_aload_n 1 dX5_leaderOf_5 rfl rfl (Nat.le_of_ble_eq_true rfl) rfl ?_
  refine z_getI 4 (x := (h l1 11)) fX5_40 rfl dX5_leaderOf_6 rfl rfl ?_
  obtain ⟨r1, r2, ka, kb⟩ := k
  refine z_icmp_ge (tgt := 28) dX5_leaderOf_9 rfl r1 r2 rfl ⟨fun q => ?_, fun q => ?_⟩
  · have k := ka q
    refine z_iload_n 3 dX5_leaderOf_28 rfl rfl rfl ?_
    exact z_ireturn rfl dX5_leaderOf_29 ⟨_, rfl, k⟩
  · have k := kb q
    refine z_aload_n 0 dX5_leaderOf_12 rfl rfl (Nat.le_of_ble_eq_true rfl) rfl ?_
    refine z_getF 5 13 (x := 245) fX5_9 rfl dX5_leaderOf_13 rfl rfl ?_
    refine z_iload_n 3 dX5_leaderOf_16 rfl rfl rfl ?_
    obtain ⟨i9, k⟩ := k
    refine z_iald (x := (h 245 l3)) dX5_leaderOf_17 (by rw [zl_245]; exact i9) rfl rfl ?_
    refine z_iload_n 2 dX5_leaderOf_18 rfl rfl rfl ?_
    obtain ⟨r1, r2, ka, kb⟩ := k
    refine z_icmp_eq (tgt := 28) dX5_leaderOf_19 rfl r1 r2 rfl ⟨fun q => ?_, fun q => ?_⟩
    · have k := ka q
      refine z_iload_n 3 dX5_leaderOf_28 rfl rfl rfl ?_
      exact z_ireturn rfl dX5_leaderOf_29 ⟨_, rfl, k⟩
    · have k := kb q
      refine z_iinc dX5_leaderOf_22 rfl (Nat.le_of_ble_eq_true rfl) (L' := [some (vr 5 244), some (vr 4 l1), some (vi l2), some (vi (l3 + 1))]) rfl rfl ?_
      refine z_goto (tgt := 2) dX5_leaderOf_25 rfl ?_
      exact z_sub (L' := [some (vr 5 244), some (vr 4 l1), some (vi l2), some (vi (l3 + 1))]) (And.intro rfl (And.intro rfl (And.intro rfl (And.intro rfl trivial)))) k
theorem eX5_leaderOf {G : zG} {d : Nat} {K : Int → zH → Prop} {l1 : Int} {l2 : Int} {h : zH} (k : tX5_leaderOf_0 G d K l1 l2 h) : zCi G d mX5_leaderOf [vr 5 244, vr 4 l1, vi l2] h K := z_entry (by decide +kernel) (Nat.le_of_ble_eq_true rfl) rfl k
def tX5_amountOf_0 (G : zG) (d : Nat) (K : Int → zH → Prop) (l1 : Int) (l2 : Int) (h : zH) : Prop := zTi G (d + 1) mX5_amountOf K 0 [some (vr 5 244), some (vr 4 l1), some (vi l2), none, none] [] h
def tX5_amountOf_5 (G : zG) (d : Nat) (K : Int → zH → Prop) (l1 : Int) (l2 : Int) (l3 : Int) (l4 : Int) (h : zH) : Prop := zTi G (d + 1) mX5_amountOf K 5 [some (vr 5 244), some (vr 4 l1), some (vi l2), some (vi l3), some (vi l4)] [] h
theorem bX5_amountOf_0 {G : zG} {d : Nat} {K : Int → zH → Prop} {l1 : Int} {l2 : Int} {h : zH} (k : tX5_amountOf_5 G d K l1 l2 0 0 h) : tX5_amountOf_0 G d K l1 l2 h := by
  unfold tX5_amountOf_0
  refine z_iconst dX5_amountOf_0 rfl ?_
  refine z_istore_n 3 dX5_amountOf_1 rfl (Nat.le_of_ble_eq_true rfl) (L' := [some (vr 5 244), some (vr 4 l1), some (vi l2), some (vi 0), none]) rfl rfl ?_
  refine z_iconst dX5_amountOf_2 rfl ?_
  refine z_istore dX5_amountOf_3 (Nat.le_of_ble_eq_true rfl) (L' := [some (vr 5 244), some (vr 4 l1), some (vi l2), some (vi 0), some (vi 0)]) rfl rfl ?_
  exact z_sub (L' := [some (vr 5 244), some (vr 4 l1), some (vi l2), some (vi 0), some (vi 0)]) (And.intro rfl (And.intro rfl (And.intro rfl (And.intro rfl (And.intro rfl trivial))))) k
theorem bX5_amountOf_5 {G : zG} {d : Nat} {K : Int → zH → Prop} {l1 : Int} {l2 : Int} {l3 : Int} {l4 : Int} {h : zH} (k : zR l4 ∧ zR (h l1 11) ∧ ((h l1 11) ≤ l4 → K l3 h) ∧ (¬ (h l1 11) ≤ l4 → ((0 : Int) ≤ l4 ∧ l4 < 128) ∧ zR (h 245 l4) ∧ zR l2 ∧ (¬ (h 245 l4) = l2 → tX5_amountOf_5 G d K l1 l2 l3 (l4 + 1) h) ∧ ((h 245 l4) = l2 → zCi G d mX4_lengthOf [vr 4 l1, vi l4] h (fun x1 h2 => tX5_amountOf_5 G d K l1 l2 (l3 + x1) (l4 + 1) h2)))) : tX5_amountOf_5 G d K l1 l2 l3 l4 h := by
  unfold tX5_amountOf_5
  refine z_iload dX5_amountOf_5 rfl rfl ?_
  refine z_aload_n 1 dX5_amountOf_7 rfl rfl (Nat.le_of_ble_eq_true rfl) rfl ?_
  refine z_getI 4 (x := (h l1 11)) fX5_40 rfl dX5_amountOf_8 rfl rfl ?_
  obtain ⟨r1, r2, ka, kb⟩ := k
  refine z_icmp_ge (tgt := 40) dX5_amountOf_11 rfl r1 r2 rfl ⟨fun q => ?_, fun q => ?_⟩
  · have k := ka q
    refine z_iload_n 3 dX5_amountOf_40 rfl rfl rfl ?_
    exact z_ireturn rfl dX5_amountOf_41 ⟨_, rfl, k⟩
  · have k := kb q
    refine z_aload_n 0 dX5_amountOf_14 rfl rfl (Nat.le_of_ble_eq_true rfl) rfl ?_
    refine z_getF 5 13 (x := 245) fX5_9 rfl dX5_amountOf_15 rfl rfl ?_
    refine z_iload dX5_amountOf_18 rfl rfl ?_
    obtain ⟨i9, k⟩ := k
    refine z_iald (x := (h 245 l4)) dX5_amountOf_20 (by rw [zl_245]; exact i9) rfl rfl ?_
    refine z_iload_n 2 dX5_amountOf_21 rfl rfl rfl ?_
    obtain ⟨r1, r2, ka, kb⟩ := k
    refine z_icmp_ne (tgt := 34) dX5_amountOf_22 rfl r1 r2 rfl ⟨fun q => ?_, fun q => ?_⟩
    · have k := ka q
      refine z_iinc dX5_amountOf_34 rfl (Nat.le_of_ble_eq_true rfl) (L' := [some (vr 5 244), some (vr 4 l1), some (vi l2), some (vi l3), some (vi (l4 + 1))]) rfl rfl ?_
      refine z_goto (tgt := 5) dX5_amountOf_37 rfl ?_
      exact z_sub (L' := [some (vr 5 244), some (vr 4 l1), some (vi l2), some (vi l3), some (vi (l4 + 1))]) (And.intro rfl (And.intro rfl (And.intro rfl (And.intro rfl (And.intro rfl trivial))))) k
    · have k := kb q
      refine z_iload_n 3 dX5_amountOf_25 rfl rfl rfl ?_
      refine z_aload_n 1 dX5_amountOf_26 rfl rfl (Nat.le_of_ble_eq_true rfl) rfl ?_
      refine z_iload dX5_amountOf_27 rfl rfl ?_
      refine z_callVi vX4_lengthOf kX5_47 dX5_amountOf_29 rfl (zRo_d d) (as := [vi l4]) (rest := [vi l3]) (Nat.le_of_ble_eq_true rfl) rfl rfl (zCi_mono (fun x1 h2 k => ?_) k)
      refine z_iadd dX5_amountOf_32 rfl ?_
      refine z_istore_n 3 dX5_amountOf_33 rfl (Nat.le_of_ble_eq_true rfl) (L' := [some (vr 5 244), some (vr 4 l1), some (vi l2), some (vi (l3 + x1)), some (vi l4)]) rfl rfl ?_
      refine z_iinc dX5_amountOf_34 rfl (Nat.le_of_ble_eq_true rfl) (L' := [some (vr 5 244), some (vr 4 l1), some (vi l2), some (vi (l3 + x1)), some (vi (l4 + 1))]) rfl rfl ?_
      refine z_goto (tgt := 5) dX5_amountOf_37 rfl ?_
      exact z_sub (L' := [some (vr 5 244), some (vr 4 l1), some (vi l2), some (vi (l3 + x1)), some (vi (l4 + 1))]) (And.intro rfl (And.intro rfl (And.intro rfl (And.intro rfl (And.intro rfl trivial))))) k
theorem eX5_amountOf {G : zG} {d : Nat} {K : Int → zH → Prop} {l1 : Int} {l2 : Int} {h : zH} (k : tX5_amountOf_0 G d K l1 l2 h) : zCi G (d + 1) mX5_amountOf [vr 5 244, vr 4 l1, vi l2] h K := z_entry (by decide +kernel) (Nat.le_of_ble_eq_true rfl) rfl k
def tX6_firstOf_0 (G : zG) (d : Nat) (K : Int → zH → Prop) (l1 : Int) (l2 : Int) (l3 : Int) (h : zH) : Prop := zTi G (d + 1) mX6_firstOf K 0 [some (vr 6 233), some (vr 4 l1), some (vr 4 l2), some (vi l3), none] [] h
def tX6_firstOf_9 (G : zG) (d : Nat) (K : Int → zH → Prop) (l1 : Int) (l2 : Int) (l3 : Int) (l4 : Int) (h : zH) : Prop := zTi G (d + 1) mX6_firstOf K 9 [some (vr 6 233), some (vr 4 l1), some (vr 4 l2), some (vi l3), some (vi l4)] [] h
theorem bX6_firstOf_0 {G : zG} {d : Nat} {K : Int → zH → Prop} {l1 : Int} {l2 : Int} {l3 : Int} {h : zH} (k : zCv G d mX6_begin [vr 6 233, vr 4 l1, vr 4 l2] h (fun h2 => tX6_firstOf_9 G d K l1 l2 l3 0 h2)) : tX6_firstOf_0 G d K l1 l2 l3 h := by
  unfold tX6_firstOf_0
  refine z_aload_n 0 dX6_firstOf_0 rfl rfl (Nat.le_of_ble_eq_true rfl) rfl ?_
  refine z_aload_n 1 dX6_firstOf_1 rfl rfl (Nat.le_of_ble_eq_true rfl) rfl ?_
  refine z_aload_n 2 dX6_firstOf_2 rfl rfl (Nat.le_of_ble_eq_true rfl) rfl ?_
  refine z_callVv vX6_begin kX6_40 dX6_firstOf_3 rfl (zRo_d d) (as := [vr 4 l1, vr 4 l2]) (rest := []) (Nat.le_of_ble_eq_true rfl) rfl rfl (zCv_mono (fun h2 k => ?_) k)
  refine z_iconst dX6_firstOf_6 rfl ?_
  refine z_istore dX6_firstOf_7 (Nat.le_of_ble_eq_true rfl) (L' := [some (vr 6 233), some (vr 4 l1), some (vr 4 l2), some (vi l3), some (vi 0)]) rfl rfl ?_
  exact z_sub (L' := [some (vr 6 233), some (vr 4 l1), some (vr 4 l2), some (vi l3), some (vi 0)]) (And.intro rfl (And.intro rfl (And.intro rfl (And.intro rfl (And.intro rfl trivial))))) k
theorem bX6_firstOf_9 {G : zG} {d : Nat} {K : Int → zH → Prop} {l1 : Int} {l2 : Int} {l3 : Int} {l4 : Int} {h : zH} (k : zR l4 ∧ (1600 ≤ l4 → K (-1) h) ∧ (¬ 1600 ≤ l4 → zR l4 ∧ zR (h 233 9) ∧ ((h 233 9) ≤ l4 → K (-1) h) ∧ (¬ (h 233 9) ≤ l4 → zCb G d mX6_isTrueOf [vr 6 233, vr 4 l1, vr 4 l2, vi l3, vi l4] h (fun x1 h2 => (x1 = false → zCv G d mX6_widen [vr 6 233, vr 4 l1, vr 4 l2, vi l4] h2 (fun h4 => tX6_firstOf_9 G d K l1 l2 l3 (l4 + 1) h4)) ∧ (x1 = true → K l4 h2))))) : tX6_firstOf_9 G d K l1 l2 l3 l4 h := by
  unfold tX6_firstOf_9
  refine z_iload dX6_firstOf_9 rfl rfl ?_
  refine z_sipush dX6_firstOf_11 rfl rfl ?_
  obtain ⟨r1, ka, kb⟩ := k
  refine z_icmp_ge (tgt := 55) dX6_firstOf_14 rfl r1 ⟨by decide, by decide⟩ rfl ⟨fun q => ?_, fun q => ?_⟩
  · have k := ka q
    refine z_iconst dX6_firstOf_55 rfl ?_
    exact z_ireturn rfl dX6_firstOf_56 ⟨_, rfl, k⟩
  · have k := kb q
    refine z_iload dX6_firstOf_17 rfl rfl ?_
    refine z_aload_n 0 dX6_firstOf_19 rfl rfl (Nat.le_of_ble_eq_true rfl) rfl ?_
    refine z_getI 6 (x := (h 233 9)) fX6_44 rfl dX6_firstOf_20 rfl rfl ?_
    obtain ⟨r1, r2, ka, kb⟩ := k
    refine z_icmp_ge (tgt := 55) dX6_firstOf_23 rfl r1 r2 rfl ⟨fun q => ?_, fun q => ?_⟩
    · have k := ka q
      refine z_iconst dX6_firstOf_55 rfl ?_
      exact z_ireturn rfl dX6_firstOf_56 ⟨_, rfl, k⟩
    · have k := kb q
      refine z_aload_n 0 dX6_firstOf_26 rfl rfl (Nat.le_of_ble_eq_true rfl) rfl ?_
      refine z_aload_n 1 dX6_firstOf_27 rfl rfl (Nat.le_of_ble_eq_true rfl) rfl ?_
      refine z_aload_n 2 dX6_firstOf_28 rfl rfl (Nat.le_of_ble_eq_true rfl) rfl ?_
      refine z_iload_n 3 dX6_firstOf_29 rfl rfl rfl ?_
      refine z_iload dX6_firstOf_30 rfl rfl ?_
      refine z_callVb vX6_isTrueOf kX6_48 dX6_firstOf_32 rfl (zRo_d d) (as := [vr 4 l1, vr 4 l2, vi l3, vi l4]) (rest := []) (Nat.le_of_ble_eq_true rfl) rfl rfl (zCb_mono (fun x1 h2 k => ?_) k)
      obtain ⟨ka, kb⟩ := k
      refine z_ifb_eq (tgt := 41) dX6_firstOf_35 rfl rfl ⟨fun q => ?_, fun q => ?_⟩
      · have k := ka q
        refine z_aload_n 0 dX6_firstOf_41 rfl rfl (Nat.le_of_ble_eq_true rfl) rfl ?_
        refine z_aload_n 1 dX6_firstOf_42 rfl rfl (Nat.le_of_ble_eq_true rfl) rfl ?_
        refine z_aload_n 2 dX6_firstOf_43 rfl rfl (Nat.le_of_ble_eq_true rfl) rfl ?_
        refine z_iload dX6_firstOf_44 rfl rfl ?_
        refine z_callVv vX6_widen kX6_52 dX6_firstOf_46 rfl (zRo_d d) (as := [vr 4 l1, vr 4 l2, vi l4]) (rest := []) (Nat.le_of_ble_eq_true rfl) rfl rfl (zCv_mono (fun h4 k => ?_) k)
        refine z_iinc dX6_firstOf_49 rfl (Nat.le_of_ble_eq_true rfl) (L' := [some (vr 6 233), some (vr 4 l1), some (vr 4 l2), some (vi l3), some (vi (l4 + 1))]) rfl rfl ?_
        refine z_goto (tgt := 9) dX6_firstOf_52 rfl ?_
        exact z_sub (L' := [some (vr 6 233), some (vr 4 l1), some (vr 4 l2), some (vi l3), some (vi (l4 + 1))]) (And.intro rfl (And.intro rfl (And.intro rfl (And.intro rfl (And.intro rfl trivial))))) k
      · have k := kb q
        refine z_iload dX6_firstOf_38 rfl rfl ?_
        exact z_ireturn rfl dX6_firstOf_40 ⟨_, rfl, k⟩
theorem eX6_firstOf {G : zG} {d : Nat} {K : Int → zH → Prop} {l1 : Int} {l2 : Int} {l3 : Int} {h : zH} (k : tX6_firstOf_0 G d K l1 l2 l3 h) : zCi G (d + 1) mX6_firstOf [vr 6 233, vr 4 l1, vr 4 l2, vi l3] h K := z_entry (by decide +kernel) (Nat.le_of_ble_eq_true rfl) rfl k
def tX6_drawAll_0 (G : zG) (d : Nat) (K : Bool → zH → Prop) (l1 : Int) (l2 : Int) (l3 : Int) (h : zH) : Prop := zTb G (d + 1) mX6_drawAll K 0 [some (vr 6 233), some (vr 4 l1), some (vr 4 l2), some (vi l3), none, none] [] h
def tX6_drawAll_9 (G : zG) (d : Nat) (K : Bool → zH → Prop) (l1 : Int) (l2 : Int) (l3 : Int) (l4 : Int) (h : zH) : Prop := zTb G (d + 1) mX6_drawAll K 9 [some (vr 6 233), some (vr 4 l1), some (vr 4 l2), some (vi l3), some (vi l4), none] [] h
def tX6_drawAll_64 (G : zG) (d : Nat) (K : Bool → zH → Prop) (l1 : Int) (l2 : Int) (l3 : Int) (l4 : Int) (h : zH) : Prop := zTb G (d + 1) mX6_drawAll K 64 [some (vr 6 233), some (vr 4 l1), some (vr 4 l2), some (vi l3), some (vi l4), none] [] h
def tX6_drawAll_76 (G : zG) (d : Nat) (K : Bool → zH → Prop) (l1 : Int) (l2 : Int) (l3 : Int) (l4 : Int) (l5 : Int) (h : zH) : Prop := zTb G (d + 1) mX6_drawAll K 76 [some (vr 6 233), some (vr 4 l1), some (vr 4 l2), some (vi l3), some (vi l4), some (vi l5)] [] h
theorem bX6_drawAll_0 {G : zG} {d : Nat} {K : Bool → zH → Prop} {l1 : Int} {l2 : Int} {l3 : Int} {h : zH} (k : zCv G d mX6_begin [vr 6 233, vr 4 l1, vr 4 l2] h (fun h2 => tX6_drawAll_9 G d K l1 l2 l3 0 h2)) : tX6_drawAll_0 G d K l1 l2 l3 h := by
  unfold tX6_drawAll_0
  refine z_aload_n 0 dX6_drawAll_0 rfl rfl (Nat.le_of_ble_eq_true rfl) rfl ?_
  refine z_aload_n 1 dX6_drawAll_1 rfl rfl (Nat.le_of_ble_eq_true rfl) rfl ?_
  refine z_aload_n 2 dX6_drawAll_2 rfl rfl (Nat.le_of_ble_eq_true rfl) rfl ?_
  refine z_callVv vX6_begin kX6_40 dX6_drawAll_3 rfl (zRo_d d) (as := [vr 4 l1, vr 4 l2]) (rest := []) (Nat.le_of_ble_eq_true rfl) rfl rfl (zCv_mono (fun h2 k => ?_) k)
  refine z_iconst dX6_drawAll_6 rfl ?_
  refine z_istore dX6_drawAll_7 (Nat.le_of_ble_eq_true rfl) (L' := [some (vr 6 233), some (vr 4 l1), some (vr 4 l2), some (vi l3), some (vi 0), none]) rfl rfl ?_
  exact z_sub (L' := [some (vr 6 233), some (vr 4 l1), some (vr 4 l2), some (vi l3), some (vi 0), none]) (And.intro rfl (And.intro rfl (And.intro rfl (And.intro rfl (And.intro rfl trivial))))) k
theorem bX6_drawAll_9 {G : zG} {d : Nat} {K : Bool → zH → Prop} {l1 : Int} {l2 : Int} {l3 : Int} {l4 : Int} {h : zH} (k : zR l4 ∧ (40 ≤ l4 → zR (h 233 9) ∧ ((h 233 9) ≤ 40 → tX6_drawAll_64 G d K l1 l2 l3 0 (zup h 4 7 (h 233 9))) ∧ (¬ (h 233 9) ≤ 40 → K false h)) ∧ (¬ 40 ≤ l4 → zR l4 ∧ zR (h 233 9) ∧ ((h 233 9) ≤ l4 → zR (h 233 9) ∧ ((h 233 9) ≤ 40 → tX6_drawAll_64 G d K l1 l2 l3 0 (zup h 4 7 (h 233 9))) ∧ (¬ (h 233 9) ≤ 40 → K false h)) ∧ (¬ (h 233 9) ≤ l4 → zCv G d mX6_widen [vr 6 233, vr 4 l1, vr 4 l2, vi l4] h (fun h2 => tX6_drawAll_9 G d K l1 l2 l3 (l4 + 1) h2)))) : tX6_drawAll_9 G d K l1 l2 l3 l4 h := by
  unfold tX6_drawAll_9
  refine z_iload dX6_drawAll_9 rfl rfl ?_
  refine z_bipush dX6_drawAll_11 rfl rfl ?_
  obtain ⟨r1, ka, kb⟩ := k
  refine z_icmp_ge (tgt := 39) dX6_drawAll_13 rfl r1 ⟨by decide, by decide⟩ rfl ⟨fun q => ?_, fun q => ?_⟩
  · have k := ka q
    refine z_aload_n 0 dX6_drawAll_39 rfl rfl (Nat.le_of_ble_eq_true rfl) rfl ?_
    refine z_getI 6 (x := (h 233 9)) fX6_44 rfl dX6_drawAll_40 rfl rfl ?_
    refine z_bipush dX6_drawAll_43 rfl rfl ?_
    obtain ⟨r1, ka, kb⟩ := k
    refine z_icmp_le (tgt := 50) dX6_drawAll_45 rfl r1 ⟨by decide, by decide⟩ rfl ⟨fun q => ?_, fun q => ?_⟩
    · have k := ka q
      refine z_aload_n 0 dX6_drawAll_50 rfl rfl (Nat.le_of_ble_eq_true rfl) rfl ?_
      refine z_getF 6 2 (x := 4) fX6_36 rfl dX6_drawAll_51 rfl rfl ?_
      refine z_aload_n 0 dX6_drawAll_54 rfl rfl (Nat.le_of_ble_eq_true rfl) rfl ?_
      refine z_getI 6 (x := (h 233 9)) fX6_44 rfl dX6_drawAll_55 rfl rfl ?_
      refine z_putI 2 gX6_56 dX6_drawAll_58 rfl ?_
      refine z_iconst dX6_drawAll_61 rfl ?_
      refine z_istore dX6_drawAll_62 (Nat.le_of_ble_eq_true rfl) (L' := [some (vr 6 233), some (vr 4 l1), some (vr 4 l2), some (vi l3), some (vi 0), none]) rfl rfl ?_
      exact z_sub (L' := [some (vr 6 233), some (vr 4 l1), some (vr 4 l2), some (vi l3), some (vi 0), none]) (And.intro rfl (And.intro rfl (And.intro rfl (And.intro rfl (And.intro rfl trivial))))) k
    · have k := kb q
      refine z_iconst dX6_drawAll_48 rfl ?_
      exact z_zreturn rfl (Or.inl rfl) dX6_drawAll_49 ⟨false, rfl, k⟩
  · have k := kb q
    refine z_iload dX6_drawAll_16 rfl rfl ?_
    refine z_aload_n 0 dX6_drawAll_18 rfl rfl (Nat.le_of_ble_eq_true rfl) rfl ?_
    refine z_getI 6 (x := (h 233 9)) fX6_44 rfl dX6_drawAll_19 rfl rfl ?_
    obtain ⟨r1, r2, ka, kb⟩ := k
    refine z_icmp_ge (tgt := 39) dX6_drawAll_22 rfl r1 r2 rfl ⟨fun q => ?_, fun q => ?_⟩
    · have k := ka q
      refine z_aload_n 0 dX6_drawAll_39 rfl rfl (Nat.le_of_ble_eq_true rfl) rfl ?_
      refine z_getI 6 (x := (h 233 9)) fX6_44 rfl dX6_drawAll_40 rfl rfl ?_
      refine z_bipush dX6_drawAll_43 rfl rfl ?_
      obtain ⟨r1, ka, kb⟩ := k
      refine z_icmp_le (tgt := 50) dX6_drawAll_45 rfl r1 ⟨by decide, by decide⟩ rfl ⟨fun q => ?_, fun q => ?_⟩
      · have k := ka q
        refine z_aload_n 0 dX6_drawAll_50 rfl rfl (Nat.le_of_ble_eq_true rfl) rfl ?_
        refine z_getF 6 2 (x := 4) fX6_36 rfl dX6_drawAll_51 rfl rfl ?_
        refine z_aload_n 0 dX6_drawAll_54 rfl rfl (Nat.le_of_ble_eq_true rfl) rfl ?_
        refine z_getI 6 (x := (h 233 9)) fX6_44 rfl dX6_drawAll_55 rfl rfl ?_
        refine z_putI 2 gX6_56 dX6_drawAll_58 rfl ?_
        refine z_iconst dX6_drawAll_61 rfl ?_
        refine z_istore dX6_drawAll_62 (Nat.le_of_ble_eq_true rfl) (L' := [some (vr 6 233), some (vr 4 l1), some (vr 4 l2), some (vi l3), some (vi 0), none]) rfl rfl ?_
        exact z_sub (L' := [some (vr 6 233), some (vr 4 l1), some (vr 4 l2), some (vi l3), some (vi 0), none]) (And.intro rfl (And.intro rfl (And.intro rfl (And.intro rfl (And.intro rfl trivial))))) k
      · have k := kb q
        refine z_iconst dX6_drawAll_48 rfl ?_
        exact z_zreturn rfl (Or.inl rfl) dX6_drawAll_49 ⟨false, rfl, k⟩
    · have k := kb q
      refine z_aload_n 0 dX6_drawAll_25 rfl rfl (Nat.le_of_ble_eq_true rfl) rfl ?_
      refine z_aload_n 1 dX6_drawAll_26 rfl rfl (Nat.le_of_ble_eq_true rfl) rfl ?_
      refine z_aload_n 2 dX6_drawAll_27 rfl rfl (Nat.le_of_ble_eq_true rfl) rfl ?_
      refine z_iload dX6_drawAll_28 rfl rfl ?_
      refine z_callVv vX6_widen kX6_52 dX6_drawAll_30 rfl (zRo_d d) (as := [vr 4 l1, vr 4 l2, vi l4]) (rest := []) (Nat.le_of_ble_eq_true rfl) rfl rfl (zCv_mono (fun h2 k => ?_) k)
      refine z_iinc dX6_drawAll_33 rfl (Nat.le_of_ble_eq_true rfl) (L' := [some (vr 6 233), some (vr 4 l1), some (vr 4 l2), some (vi l3), some (vi (l4 + 1)), none]) rfl rfl ?_
      refine z_goto (tgt := 9) dX6_drawAll_36 rfl ?_
      exact z_sub (L' := [some (vr 6 233), some (vr 4 l1), some (vr 4 l2), some (vi l3), some (vi (l4 + 1)), none]) (And.intro rfl (And.intro rfl (And.intro rfl (And.intro rfl (And.intro rfl trivial))))) k
theorem bX6_drawAll_64 {G : zG} {d : Nat} {K : Bool → zH → Prop} {l1 : Int} {l2 : Int} {l3 : Int} {l4 : Int} {h : zH} (k : zR l4 ∧ zR (h 233 9) ∧ ((h 233 9) ≤ l4 → K true h) ∧ (¬ (h 233 9) ≤ l4 → tX6_drawAll_76 G d K l1 l2 l3 l4 0 h)) : tX6_drawAll_64 G d K l1 l2 l3 l4 h := by
  unfold tX6_drawAll_64
  refine z_iload dX6_drawAll_64 rfl rfl ?_
  refine z_aload_n 0 dX6_drawAll_66 rfl rfl (Nat.le_of_ble_eq_true rfl) rfl ?_
  refine z_getI 6 (x := (h 233 9)) fX6_44 rfl dX6_drawAll_67 rfl rfl ?_
  obtain ⟨r1, r2, ka, kb⟩ := k
  refine z_icmp_ge (tgt := 154) dX6_drawAll_70 rfl r1 r2 rfl ⟨fun q => ?_, fun q => ?_⟩
  · have k := ka q
    refine z_iconst dX6_drawAll_154 rfl ?_
    exact z_zreturn rfl (Or.inr rfl) dX6_drawAll_155 ⟨true, rfl, k⟩
  · have k := kb q
    refine z_iconst dX6_drawAll_73 rfl ?_
    refine z_istore dX6_drawAll_74 (Nat.le_of_ble_eq_true rfl) (L' := [some (vr 6 233), some (vr 4 l1), some (vr 4 l2), some (vi l3), some (vi l4), some (vi 0)]) rfl rfl ?_
    exact z_sub (L' := [some (vr 6 233), some (vr 4 l1), some (vr 4 l2), some (vi l3), some (vi l4), some (vi 0)]) (And.intro rfl (And.intro rfl (And.intro rfl (And.intro rfl (And.intro rfl (And.intro rfl trivial)))))) k
theorem bX6_drawAll_76 {G : zG} {d : Nat} {K : Bool → zH → Prop} {l1 : Int} {l2 : Int} {l3 : Int} {l4 : Int} {l5 : Int} {h : zH} (k : zR l5 ∧ zR (h 4 11) ∧ ((h 4 11) ≤ l5 → zCb G d mX6_isTrueOf [vr 6 233, vr 4 l1, vr 4 l2, vi l3, vi l4] h (fun x1 h2 => (x1 = false → tX6_drawAll_64 G d K l1 l2 l3 (l4 + 1) h2) ∧ (x1 = true → tX6_drawAll_64 G d K l1 l2 l3 (l4 + 1) (zup h2 4 8 (zlor (h2 4 8) (zlshl 1 l4)))))) ∧ (¬ (h 4 11) ≤ l5 → zCi G d mX6_keyAfter [vr 6 233, vr 4 l1, vr 4 l2, vi l4, vi l5] h (fun x3 h4 => ((0 : Int) ≤ x3 ∧ x3 < 1600) ∧ zCv G d mX2_lead [vr 2 4, vi l4, vi (h4 234 x3), vi l5] h4 (fun h6 => tX6_drawAll_76 G d K l1 l2 l3 l4 (l5 + 1) h6)))) : tX6_drawAll_76 G d K l1 l2 l3 l4 l5 h := by
  unfold tX6_drawAll_76
  refine z_iload dX6_drawAll_76 rfl rfl ?_
  refine z_aload_n 0 dX6_drawAll_78 rfl rfl (Nat.le_of_ble_eq_true rfl) rfl ?_
  refine z_getF 6 2 (x := 4) fX6_36 rfl dX6_drawAll_79 rfl rfl ?_
  refine z_getI 2 (x := (h 4 11)) fX6_61 rfl dX6_drawAll_82 rfl rfl ?_
  obtain ⟨r1, r2, ka, kb⟩ := k
  refine z_icmp_ge (tgt := 120) dX6_drawAll_85 rfl r1 r2 rfl ⟨fun q => ?_, fun q => ?_⟩
  · have k := ka q
    refine z_aload_n 0 dX6_drawAll_120 rfl rfl (Nat.le_of_ble_eq_true rfl) rfl ?_
    refine z_aload_n 1 dX6_drawAll_121 rfl rfl (Nat.le_of_ble_eq_true rfl) rfl ?_
    refine z_aload_n 2 dX6_drawAll_122 rfl rfl (Nat.le_of_ble_eq_true rfl) rfl ?_
    refine z_iload_n 3 dX6_drawAll_123 rfl rfl rfl ?_
    refine z_iload dX6_drawAll_124 rfl rfl ?_
    refine z_callVb vX6_isTrueOf kX6_48 dX6_drawAll_126 rfl (zRo_d d) (as := [vr 4 l1, vr 4 l2, vi l3, vi l4]) (rest := []) (Nat.le_of_ble_eq_true rfl) rfl rfl (zCb_mono (fun x1 h2 k => ?_) k)
    obtain ⟨ka, kb⟩ := k
    refine z_ifb_eq (tgt := 148) dX6_drawAll_129 rfl rfl ⟨fun q => ?_, fun q => ?_⟩
    · have k := ka q
      refine z_iinc dX6_drawAll_148 rfl (Nat.le_of_ble_eq_true rfl) (L' := [some (vr 6 233), some (vr 4 l1), some (vr 4 l2), some (vi l3), some (vi (l4 + 1)), some (vi l5)]) rfl rfl ?_
      refine z_goto (tgt := 64) dX6_drawAll_151 rfl ?_
      exact z_sub (L' := [some (vr 6 233), some (vr 4 l1), some (vr 4 l2), some (vi l3), some (vi (l4 + 1)), none]) (And.intro rfl (And.intro rfl (And.intro rfl (And.intro rfl (And.intro rfl trivial))))) k
    · have k := kb q
      refine z_aload_n 0 dX6_drawAll_132 rfl rfl (Nat.le_of_ble_eq_true rfl) rfl ?_
      refine z_getF 6 2 (x := 4) fX6_36 rfl dX6_drawAll_133 rfl rfl ?_
      refine z_dup dX6_drawAll_136 (fun q => by cases q) rfl ?_
      refine z_getL 2 (x := (h2 4 8)) fX6_72 rfl dX6_drawAll_137 rfl rfl ?_
      refine z_lconst (x := 1) dX6_drawAll_140 rfl rfl ?_
      refine z_iload dX6_drawAll_141 rfl rfl ?_
      refine z_lshl dX6_drawAll_143 rfl ?_
      refine z_lor dX6_drawAll_144 rfl ?_
      refine z_putL 2 gX6_72 dX6_drawAll_145 rfl ?_
      refine z_iinc dX6_drawAll_148 rfl (Nat.le_of_ble_eq_true rfl) (L' := [some (vr 6 233), some (vr 4 l1), some (vr 4 l2), some (vi l3), some (vi (l4 + 1)), some (vi l5)]) rfl rfl ?_
      refine z_goto (tgt := 64) dX6_drawAll_151 rfl ?_
      exact z_sub (L' := [some (vr 6 233), some (vr 4 l1), some (vr 4 l2), some (vi l3), some (vi (l4 + 1)), none]) (And.intro rfl (And.intro rfl (And.intro rfl (And.intro rfl (And.intro rfl trivial))))) k
  · have k := kb q
    refine z_aload_n 0 dX6_drawAll_88 rfl rfl (Nat.le_of_ble_eq_true rfl) rfl ?_
    refine z_getF 6 2 (x := 4) fX6_36 rfl dX6_drawAll_89 rfl rfl ?_
    refine z_iload dX6_drawAll_92 rfl rfl ?_
    refine z_aload_n 0 dX6_drawAll_94 rfl rfl (Nat.le_of_ble_eq_true rfl) rfl ?_
    refine z_getF 6 13 (x := 234) fX6_9 rfl dX6_drawAll_95 rfl rfl ?_
    refine z_aload_n 0 dX6_drawAll_98 rfl rfl (Nat.le_of_ble_eq_true rfl) rfl ?_
    refine z_aload_n 1 dX6_drawAll_99 rfl rfl (Nat.le_of_ble_eq_true rfl) rfl ?_
    refine z_aload_n 2 dX6_drawAll_100 rfl rfl (Nat.le_of_ble_eq_true rfl) rfl ?_
    refine z_iload dX6_drawAll_101 rfl rfl ?_
    refine z_iload dX6_drawAll_103 rfl rfl ?_
    refine z_callVi vX6_keyAfter kX6_64 dX6_drawAll_105 rfl (zRo_d d) (as := [vr 4 l1, vr 4 l2, vi l4, vi l5]) (rest := [vr 13 234, vi l4, vr 2 4]) (Nat.le_of_ble_eq_true rfl) rfl rfl (zCi_mono (fun x3 h4 k => ?_) k)
    obtain ⟨i9, k⟩ := k
    refine z_iald (x := (h4 234 x3)) dX6_drawAll_108 (by rw [zl_234]; exact i9) rfl rfl ?_
    refine z_iload dX6_drawAll_109 rfl rfl ?_
    refine z_callVv vX2_lead kX6_68 dX6_drawAll_111 rfl (zRo_d d) (as := [vi l4, vi (h4 234 x3), vi l5]) (rest := []) (Nat.le_of_ble_eq_true rfl) rfl rfl (zCv_mono (fun h6 k => ?_) k)
    refine z_iinc dX6_drawAll_114 rfl (Nat.le_of_ble_eq_true rfl) (L' := [some (vr 6 233), some (vr 4 l1), some (vr 4 l2), some (vi l3), some (vi l4), some (vi (l5 + 1))]) rfl rfl ?_
    refine z_goto (tgt := 76) dX6_drawAll_117 rfl ?_
    exact z_sub (L' := [some (vr 6 233), some (vr 4 l1), some (vr 4 l2), some (vi l3), some (vi l4), some (vi (l5 + 1))]) (And.intro rfl (And.intro rfl (And.intro rfl (And.intro rfl (And.intro rfl (And.intro rfl trivial)))))) k
theorem eX6_drawAll {G : zG} {d : Nat} {K : Bool → zH → Prop} {l1 : Int} {l2 : Int} {l3 : Int} {h : zH} (k : tX6_drawAll_0 G d K l1 l2 l3 h) : zCb G (d + 1) mX6_drawAll [vr 6 233, vr 4 l1, vr 4 l2, vi l3] h K := z_entry (by decide +kernel) (Nat.le_of_ble_eq_true rfl) rfl k
def tX6_letterOnWay_0 (G : zG) (d : Nat) (K : Int → zH → Prop) (l1 : Int) (l2 : Int) (h : zH) : Prop := zTi G (d + 1) mX6_letterOnWay K 0 [some (vr 6 233), some (vi l1), some (vi l2), none, none] [] h
def tX6_letterOnWay_12 (G : zG) (d : Nat) (K : Int → zH → Prop) (l2 : Int) (l3 : Int) (l4 : Int) (h : zH) : Prop := zTi G (d + 1) mX6_letterOnWay K 12 [some (vr 6 233), none, some (vi l2), some (vi l3), some (vi l4)] [] h
theorem bX6_letterOnWay_0 {G : zG} {d : Nat} {K : Int → zH → Prop} {l1 : Int} {l2 : Int} {h : zH} (k : ((0 : Int) ≤ l1 ∧ l1 < 1600) ∧ tX6_letterOnWay_12 G d K l2 l1 ((h 239 l1) - 1) h) : tX6_letterOnWay_0 G d K l1 l2 h := by
  unfold tX6_letterOnWay_0
  refine z_iload_n 1 dX6_letterOnWay_0 rfl rfl rfl ?_
  refine z_istore_n 3 dX6_letterOnWay_1 rfl (Nat.le_of_ble_eq_true rfl) (L' := [some (vr 6 233), some (vi l1), some (vi l2), some (vi l1), none]) rfl rfl ?_
  refine z_aload_n 0 dX6_letterOnWay_2 rfl rfl (Nat.le_of_ble_eq_true rfl) rfl ?_
  refine z_getF 6 13 (x := 239) fX6_27 rfl dX6_letterOnWay_3 rfl rfl ?_
  refine z_iload_n 1 dX6_letterOnWay_6 rfl rfl rfl ?_
  obtain ⟨i9, k⟩ := k
  refine z_iald (x := (h 239 l1)) dX6_letterOnWay_7 (by rw [zl_239]; exact i9) rfl rfl ?_
  refine z_iconst dX6_letterOnWay_8 rfl ?_
  refine z_isub dX6_letterOnWay_9 rfl ?_
  refine z_istore dX6_letterOnWay_10 (Nat.le_of_ble_eq_true rfl) (L' := [some (vr 6 233), some (vi l1), some (vi l2), some (vi l1), some (vi ((h 239 l1) - 1))]) rfl rfl ?_
  exact z_sub (L' := [some (vr 6 233), none, some (vi l2), some (vi l1), some (vi ((h 239 l1) - 1))]) (And.intro rfl (And.intro rfl (And.intro rfl (And.intro rfl trivial)))) k
theorem bX6_letterOnWay_12 {G : zG} {d : Nat} {K : Int → zH → Prop} {l2 : Int} {l3 : Int} {l4 : Int} {h : zH} (k : zR l4 ∧ zR l2 ∧ (l4 ≤ l2 → ((0 : Int) ≤ l3 ∧ l3 < 1600) ∧ zR (h 238 l3) ∧ ((0 : Int) ≤ (max (h 238 l3) 0) ∧ (max (h 238 l3) 0) < 256) ∧ K (h 10 (max (h 238 l3) 0)) h) ∧ (¬ l4 ≤ l2 → ((0 : Int) ≤ l3 ∧ l3 < 1600) ∧ zR (h 237 l3) ∧ ((h 237 l3) < 0 → ((0 : Int) ≤ l3 ∧ l3 < 1600) ∧ zR (h 238 l3) ∧ ((0 : Int) ≤ (max (h 238 l3) 0) ∧ (max (h 238 l3) 0) < 256) ∧ K (h 10 (max (h 238 l3) 0)) h) ∧ (¬ (h 237 l3) < 0 → ((0 : Int) ≤ l3 ∧ l3 < 1600) ∧ tX6_letterOnWay_12 G d K l2 (h 237 l3) (l4 + (-1)) h))) : tX6_letterOnWay_12 G d K l2 l3 l4 h := by
  unfold tX6_letterOnWay_12
  refine z_iload dX6_letterOnWay_12 rfl rfl ?_
  refine z_iload_n 2 dX6_letterOnWay_14 rfl rfl rfl ?_
  obtain ⟨r1, r2, ka, kb⟩ := k
  refine z_icmp_le (tgt := 40) dX6_letterOnWay_15 rfl r1 r2 rfl ⟨fun q => ?_, fun q => ?_⟩
  · have k := ka q
    refine z_aload_n 0 dX6_letterOnWay_40 rfl rfl (Nat.le_of_ble_eq_true rfl) rfl ?_
    refine z_getF 6 2 (x := 4) fX6_36 rfl dX6_letterOnWay_41 rfl rfl ?_
    refine z_getF 2 13 (x := 10) fX6_76 rfl dX6_letterOnWay_44 rfl rfl ?_
    refine z_aload_n 0 dX6_letterOnWay_47 rfl rfl (Nat.le_of_ble_eq_true rfl) rfl ?_
    refine z_getF 6 13 (x := 238) fX6_24 rfl dX6_letterOnWay_48 rfl rfl ?_
    refine z_iload_n 3 dX6_letterOnWay_51 rfl rfl rfl ?_
    obtain ⟨i9, k⟩ := k
    refine z_iald (x := (h 238 l3)) dX6_letterOnWay_52 (by rw [zl_238]; exact i9) rfl rfl ?_
    refine z_iconst dX6_letterOnWay_53 rfl ?_
    obtain ⟨r1, k⟩ := k
    refine z_mmax (z := (max (h 238 l3) 0)) kX6_79 kmax.1 kmax.2.1 kmax.2.2 dX6_letterOnWay_54 r1 ⟨by decide, by decide⟩ ⟨Nat.le_add_left 1 d, (by show _ ≤ 64 * (d + 1); rw [show zcat _ = 1 from rfl]; omega), Nat.le_refl _, Nat.le_refl _⟩ rfl rfl ?_
    obtain ⟨i9, k⟩ := k
    refine z_iald (x := (h 10 (max (h 238 l3) 0))) dX6_letterOnWay_57 (by rw [zl_10]; exact i9) rfl rfl ?_
    exact z_ireturn rfl dX6_letterOnWay_58 ⟨_, rfl, k⟩
  · have k := kb q
    refine z_aload_n 0 dX6_letterOnWay_18 rfl rfl (Nat.le_of_ble_eq_true rfl) rfl ?_
    refine z_getF 6 13 (x := 237) fX6_21 rfl dX6_letterOnWay_19 rfl rfl ?_
    refine z_iload_n 3 dX6_letterOnWay_22 rfl rfl rfl ?_
    obtain ⟨i9, k⟩ := k
    refine z_iald (x := (h 237 l3)) dX6_letterOnWay_23 (by rw [zl_237]; exact i9) rfl rfl ?_
    obtain ⟨r1, ka, kb⟩ := k
    refine z_if_lt (tgt := 40) dX6_letterOnWay_24 rfl r1 rfl ⟨fun q => ?_, fun q => ?_⟩
    · have k := ka q
      refine z_aload_n 0 dX6_letterOnWay_40 rfl rfl (Nat.le_of_ble_eq_true rfl) rfl ?_
      refine z_getF 6 2 (x := 4) fX6_36 rfl dX6_letterOnWay_41 rfl rfl ?_
      refine z_getF 2 13 (x := 10) fX6_76 rfl dX6_letterOnWay_44 rfl rfl ?_
      refine z_aload_n 0 dX6_letterOnWay_47 rfl rfl (Nat.le_of_ble_eq_true rfl) rfl ?_
      refine z_getF 6 13 (x := 238) fX6_24 rfl dX6_letterOnWay_48 rfl rfl ?_
      refine z_iload_n 3 dX6_letterOnWay_51 rfl rfl rfl ?_
      obtain ⟨i9, k⟩ := k
      refine z_iald (x := (h 238 l3)) dX6_letterOnWay_52 (by rw [zl_238]; exact i9) rfl rfl ?_
      refine z_iconst dX6_letterOnWay_53 rfl ?_
      obtain ⟨r1, k⟩ := k
      refine z_mmax (z := (max (h 238 l3) 0)) kX6_79 kmax.1 kmax.2.1 kmax.2.2 dX6_letterOnWay_54 r1 ⟨by decide, by decide⟩ ⟨Nat.le_add_left 1 d, (by show _ ≤ 64 * (d + 1); rw [show zcat _ = 1 from rfl]; omega), Nat.le_refl _, Nat.le_refl _⟩ rfl rfl ?_
      obtain ⟨i9, k⟩ := k
      refine z_iald (x := (h 10 (max (h 238 l3) 0))) dX6_letterOnWay_57 (by rw [zl_10]; exact i9) rfl rfl ?_
      exact z_ireturn rfl dX6_letterOnWay_58 ⟨_, rfl, k⟩
    · have k := kb q
      refine z_aload_n 0 dX6_letterOnWay_27 rfl rfl (Nat.le_of_ble_eq_true rfl) rfl ?_
      refine z_getF 6 13 (x := 237) fX6_21 rfl dX6_letterOnWay_28 rfl rfl ?_
      refine z_iload_n 3 dX6_letterOnWay_31 rfl rfl rfl ?_
      obtain ⟨i9, k⟩ := k
      refine z_iald (x := (h 237 l3)) dX6_letterOnWay_32 (by rw [zl_237]; exact i9) rfl rfl ?_
      refine z_istore_n 3 dX6_letterOnWay_33 rfl (Nat.le_of_ble_eq_true rfl) (L' := [some (vr 6 233), none, some (vi l2), some (vi (h 237 l3)), some (vi l4)]) rfl rfl ?_
      refine z_iinc dX6_letterOnWay_34 rfl (Nat.le_of_ble_eq_true rfl) (L' := [some (vr 6 233), none, some (vi l2), some (vi (h 237 l3)), some (vi (l4 + (-1)))]) rfl rfl ?_
      refine z_goto (tgt := 12) dX6_letterOnWay_37 rfl ?_
      exact z_sub (L' := [some (vr 6 233), none, some (vi l2), some (vi (h 237 l3)), some (vi (l4 + (-1)))]) (And.intro rfl (And.intro rfl (And.intro rfl (And.intro rfl trivial)))) k
theorem eX6_letterOnWay {G : zG} {d : Nat} {K : Int → zH → Prop} {l1 : Int} {l2 : Int} {h : zH} (k : tX6_letterOnWay_0 G d K l1 l2 h) : zCi G (d + 1) mX6_letterOnWay [vr 6 233, vi l1, vi l2] h K := z_entry (by decide +kernel) (Nat.le_of_ble_eq_true rfl) rfl k
def tX6_begin_0 (G : zG) (d : Nat) (K : zH → Prop) (l1 : Int) (l2 : Int) (h : zH) : Prop := zTv G (d + 1) mX6_begin K 0 [some (vr 6 233), some (vr 4 l1), some (vr 4 l2), none] [] h
def tX6_begin_28 (G : zG) (d : Nat) (K : zH → Prop) (l1 : Int) (l2 : Int) (l3 : Int) (h : zH) : Prop := zTv G (d + 1) mX6_begin K 28 [some (vr 6 233), some (vr 4 l1), some (vr 4 l2), some (vi l3)] [] h
theorem bX6_begin_0 {G : zG} {d : Nat} {K : zH → Prop} {l1 : Int} {l2 : Int} {h : zH} (k : zCv G d mX2_begin [vr 2 4, vi 1] h (fun h2 => zCv G d mX2_cutLike [vr 2 4, vr 4 l1, vi 0] h2 (fun h4 => zCv G d mX2_cutLike [vr 2 4, vr 4 l2, vi 0] h4 (fun h6 => tX6_begin_28 G d K l1 l2 0 h6)))) : tX6_begin_0 G d K l1 l2 h := by
  unfold tX6_begin_0
  refine z_aload_n 0 dX6_begin_0 rfl rfl (Nat.le_of_ble_eq_true rfl) rfl ?_
  refine z_getF 6 2 (x := 4) fX6_36 rfl dX6_begin_1 rfl rfl ?_
  refine z_iconst dX6_begin_4 rfl ?_
  refine z_callVv vX2_begin kX6_85 dX6_begin_5 rfl (zRo_d d) (as := [vi 1]) (rest := []) (Nat.le_of_ble_eq_true rfl) rfl rfl (zCv_mono (fun h2 k => ?_) k)
  refine z_aload_n 0 dX6_begin_8 rfl rfl (Nat.le_of_ble_eq_true rfl) rfl ?_
  refine z_getF 6 2 (x := 4) fX6_36 rfl dX6_begin_9 rfl rfl ?_
  refine z_aload_n 1 dX6_begin_12 rfl rfl (Nat.le_of_ble_eq_true rfl) rfl ?_
  refine z_iconst dX6_begin_13 rfl ?_
  refine z_callVv vX2_cutLike kX6_88 dX6_begin_14 rfl (zRo_d d) (as := [vr 4 l1, vi 0]) (rest := []) (Nat.le_of_ble_eq_true rfl) rfl rfl (zCv_mono (fun h4 k => ?_) k)
  refine z_aload_n 0 dX6_begin_17 rfl rfl (Nat.le_of_ble_eq_true rfl) rfl ?_
  refine z_getF 6 2 (x := 4) fX6_36 rfl dX6_begin_18 rfl rfl ?_
  refine z_aload_n 2 dX6_begin_21 rfl rfl (Nat.le_of_ble_eq_true rfl) rfl ?_
  refine z_iconst dX6_begin_22 rfl ?_
  refine z_callVv vX2_cutLike kX6_88 dX6_begin_23 rfl (zRo_d d) (as := [vr 4 l2, vi 0]) (rest := []) (Nat.le_of_ble_eq_true rfl) rfl rfl (zCv_mono (fun h6 k => ?_) k)
  refine z_iconst dX6_begin_26 rfl ?_
  refine z_istore_n 3 dX6_begin_27 rfl (Nat.le_of_ble_eq_true rfl) (L' := [some (vr 6 233), some (vr 4 l1), some (vr 4 l2), some (vi 0)]) rfl rfl ?_
  exact z_sub (L' := [some (vr 6 233), some (vr 4 l1), some (vr 4 l2), some (vi 0)]) (And.intro rfl (And.intro rfl (And.intro rfl (And.intro rfl trivial)))) k
theorem bX6_begin_28 {G : zG} {d : Nat} {K : zH → Prop} {l1 : Int} {l2 : Int} {l3 : Int} {h : zH} (k : zR l3 ∧ zR (h 4 11) ∧ ((h 4 11) ≤ l3 → zCv G d mJ7_fill_53178 [vr 13 234, vi (-1)] h (fun h2 => zCv G d mX6_add [vr 6 233, vi 0, vi (-1), vi (-1)] (zup h2 233 9 0) (fun h4 => K h4))) ∧ (¬ (h 4 11) ≤ l3 → ((0 : Int) ≤ l3 ∧ l3 < 256) ∧ zCi G d mX4_blockOf [vr 4 l1, vi (h 10 l3)] h (fun x5 h6 => ((0 : Int) ≤ l3 ∧ l3 < 256) ∧ ((0 : Int) ≤ l3 ∧ l3 < 256) ∧ zCi G d mX4_blockOf [vr 4 l2, vi (h6 10 l3)] (zup h6 240 l3 x5) (fun x7 h8 => ((0 : Int) ≤ l3 ∧ l3 < 256) ∧ tX6_begin_28 G d K l1 l2 (l3 + 1) (zup h8 241 l3 x7))))) : tX6_begin_28 G d K l1 l2 l3 h := by
  unfold tX6_begin_28
  refine z_iload_n 3 dX6_begin_28 rfl rfl rfl ?_
  refine z_aload_n 0 dX6_begin_29 rfl rfl (Nat.le_of_ble_eq_true rfl) rfl ?_
  refine z_getF 6 2 (x := 4) fX6_36 rfl dX6_begin_30 rfl rfl ?_
  refine z_getI 2 (x := (h 4 11)) fX6_61 rfl dX6_begin_33 rfl rfl ?_
  obtain ⟨r1, r2, ka, kb⟩ := k
  refine z_icmp_ge (tgt := 83) dX6_begin_36 rfl r1 r2 rfl ⟨fun q => ?_, fun q => ?_⟩
  · have k := ka q
    refine z_aload_n 0 dX6_begin_83 rfl rfl (Nat.le_of_ble_eq_true rfl) rfl ?_
    refine z_getF 6 13 (x := 234) fX6_9 rfl dX6_begin_84 rfl rfl ?_
    refine z_iconst dX6_begin_87 rfl ?_
    refine z_callSv sJ7_fill_53178 kX6_98 dX6_begin_88 rfl (zRo_d d) (as := [vr 13 234, vi (-1)]) (rest := []) (Nat.le_of_ble_eq_true rfl) rfl rfl (zCv_mono (fun h2 k => ?_) k)
    refine z_aload_n 0 dX6_begin_91 rfl rfl (Nat.le_of_ble_eq_true rfl) rfl ?_
    refine z_iconst dX6_begin_92 rfl ?_
    refine z_putI 6 gX6_44 dX6_begin_93 rfl ?_
    refine z_aload_n 0 dX6_begin_96 rfl rfl (Nat.le_of_ble_eq_true rfl) rfl ?_
    refine z_iconst dX6_begin_97 rfl ?_
    refine z_iconst dX6_begin_98 rfl ?_
    refine z_iconst dX6_begin_99 rfl ?_
    refine z_callVv vX6_add kX6_104 dX6_begin_100 rfl (zRo_d d) (as := [vi 0, vi (-1), vi (-1)]) (rest := []) (Nat.le_of_ble_eq_true rfl) rfl rfl (zCv_mono (fun h4 k => ?_) k)
    exact z_return rfl dX6_begin_103 ⟨rfl, k⟩
  · have k := kb q
    refine z_aload_n 0 dX6_begin_39 rfl rfl (Nat.le_of_ble_eq_true rfl) rfl ?_
    refine z_getF 6 13 (x := 240) fX6_30 rfl dX6_begin_40 rfl rfl ?_
    refine z_iload_n 3 dX6_begin_43 rfl rfl rfl ?_
    refine z_aload_n 1 dX6_begin_44 rfl rfl (Nat.le_of_ble_eq_true rfl) rfl ?_
    refine z_aload_n 0 dX6_begin_45 rfl rfl (Nat.le_of_ble_eq_true rfl) rfl ?_
    refine z_getF 6 2 (x := 4) fX6_36 rfl dX6_begin_46 rfl rfl ?_
    refine z_getF 2 13 (x := 10) fX6_76 rfl dX6_begin_49 rfl rfl ?_
    refine z_iload_n 3 dX6_begin_52 rfl rfl rfl ?_
    obtain ⟨i9, k⟩ := k
    refine z_iald (x := (h 10 l3)) dX6_begin_53 (by rw [zl_10]; exact i9) rfl rfl ?_
    refine z_callVi vX4_blockOf kX6_92 dX6_begin_54 rfl (zRo_d d) (as := [vi (h 10 l3)]) (rest := [vi l3, vr 13 240]) (Nat.le_of_ble_eq_true rfl) rfl rfl (zCi_mono (fun x5 h6 k => ?_) k)
    obtain ⟨i9, k⟩ := k
    refine z_iast dX6_begin_57 (by rw [zl_240]; exact i9) rfl ?_
    refine z_aload_n 0 dX6_begin_58 rfl rfl (Nat.le_of_ble_eq_true rfl) rfl ?_
    refine z_getF 6 13 (x := 241) fX6_33 rfl dX6_begin_59 rfl rfl ?_
    refine z_iload_n 3 dX6_begin_62 rfl rfl rfl ?_
    refine z_aload_n 2 dX6_begin_63 rfl rfl (Nat.le_of_ble_eq_true rfl) rfl ?_
    refine z_aload_n 0 dX6_begin_64 rfl rfl (Nat.le_of_ble_eq_true rfl) rfl ?_
    refine z_getF 6 2 (x := 4) fX6_36 rfl dX6_begin_65 rfl rfl ?_
    refine z_getF 2 13 (x := 10) fX6_76 rfl dX6_begin_68 rfl rfl ?_
    refine z_iload_n 3 dX6_begin_71 rfl rfl rfl ?_
    obtain ⟨i9, k⟩ := k
    refine z_iald (x := (h6 10 l3)) dX6_begin_72 (by rw [zl_10]; exact i9) (by simp [zup]) rfl ?_
    refine z_callVi vX4_blockOf kX6_92 dX6_begin_73 rfl (zRo_d d) (as := [vi (h6 10 l3)]) (rest := [vi l3, vr 13 241]) (Nat.le_of_ble_eq_true rfl) rfl rfl (zCi_mono (fun x7 h8 k => ?_) k)
    obtain ⟨i9, k⟩ := k
    refine z_iast dX6_begin_76 (by rw [zl_241]; exact i9) rfl ?_
    refine z_iinc dX6_begin_77 rfl (Nat.le_of_ble_eq_true rfl) (L' := [some (vr 6 233), some (vr 4 l1), some (vr 4 l2), some (vi (l3 + 1))]) rfl rfl ?_
    refine z_goto (tgt := 28) dX6_begin_80 rfl ?_
    exact z_sub (L' := [some (vr 6 233), some (vr 4 l1), some (vr 4 l2), some (vi (l3 + 1))]) (And.intro rfl (And.intro rfl (And.intro rfl (And.intro rfl trivial)))) k
theorem eX6_begin {G : zG} {d : Nat} {K : zH → Prop} {l1 : Int} {l2 : Int} {h : zH} (k : tX6_begin_0 G d K l1 l2 h) : zCv G (d + 1) mX6_begin [vr 6 233, vr 4 l1, vr 4 l2] h K := z_entry (by decide +kernel) (Nat.le_of_ble_eq_true rfl) rfl k
def tX6_isTrueOf_0 (G : zG) (d : Nat) (K : Bool → zH → Prop) (l1 : Int) (l2 : Int) (l3 : Int) (l4 : Int) (h : zH) : Prop := zTb G (d + 1) mX6_isTrueOf K 0 [some (vr 6 233), some (vr 4 l1), some (vr 4 l2), some (vi l3), some (vi l4)] [] h
theorem bX6_isTrueOf_0 {G : zG} {d : Nat} {K : Bool → zH → Prop} {l1 : Int} {l2 : Int} {l3 : Int} {l4 : Int} {h : zH} (k : ((0 : Int) ≤ l4 ∧ l4 < 1600) ∧ zCb G d mX7_classTakes [vr 7 (l1 + 7), vi (h 235 l4)] h (fun x1 h2 => ((0 : Int) ≤ l4 ∧ l4 < 1600) ∧ zCb G d mX7_classTakes [vr 7 (l2 + 7), vi (h2 236 l4)] h2 (fun x3 h4 => zCb G d mX11_isTrue [vi l3, vi (bi x1), vi (bi x3)] h4 (fun x5 h6 => K x5 h6)))) : tX6_isTrueOf_0 G d K l1 l2 l3 l4 h := by
  unfold tX6_isTrueOf_0
  refine z_iload_n 3 dX6_isTrueOf_0 rfl rfl rfl ?_
  refine z_aload_n 1 dX6_isTrueOf_1 rfl rfl (Nat.le_of_ble_eq_true rfl) rfl ?_
  refine z_getF 4 7 (x := (l1 + 7)) fX6_107 rfl dX6_isTrueOf_2 (by omega) rfl ?_
  refine z_aload_n 0 dX6_isTrueOf_5 rfl rfl (Nat.le_of_ble_eq_true rfl) rfl ?_
  refine z_getF 6 13 (x := 235) fX6_15 rfl dX6_isTrueOf_6 rfl rfl ?_
  refine z_iload dX6_isTrueOf_9 rfl rfl ?_
  obtain ⟨i9, k⟩ := k
  refine z_iald (x := (h 235 l4)) dX6_isTrueOf_11 (by rw [zl_235]; exact i9) rfl rfl ?_
  refine z_callVb vX7_classTakes kX6_111 dX6_isTrueOf_12 rfl (zRo_d d) (as := [vi (h 235 l4)]) (rest := [vi l3]) (Nat.le_of_ble_eq_true rfl) rfl rfl (zCb_mono (fun x1 h2 k => ?_) k)
  refine z_aload_n 2 dX6_isTrueOf_15 rfl rfl (Nat.le_of_ble_eq_true rfl) rfl ?_
  refine z_getF 4 7 (x := (l2 + 7)) fX6_107 rfl dX6_isTrueOf_16 (by omega) rfl ?_
  refine z_aload_n 0 dX6_isTrueOf_19 rfl rfl (Nat.le_of_ble_eq_true rfl) rfl ?_
  refine z_getF 6 13 (x := 236) fX6_18 rfl dX6_isTrueOf_20 rfl rfl ?_
  refine z_iload dX6_isTrueOf_23 rfl rfl ?_
  obtain ⟨i9, k⟩ := k
  refine z_iald (x := (h2 236 l4)) dX6_isTrueOf_25 (by rw [zl_236]; exact i9) rfl rfl ?_
  refine z_callVb vX7_classTakes kX6_111 dX6_isTrueOf_26 rfl (zRo_d d) (as := [vi (h2 236 l4)]) (rest := [vi (bi x1), vi l3]) (Nat.le_of_ble_eq_true rfl) rfl rfl (zCb_mono (fun x3 h4 k => ?_) k)
  refine z_callSNb (host := "RangedMachines") sX11_isTrue (by decide +kernel) dX6_isTrueOf_29 rfl (zRo_d d) (as := [vi l3, vi (bi x1), vi (bi x3)]) (rest := []) (Nat.le_of_ble_eq_true rfl) rfl rfl (zCb_mono (fun x5 h6 k => ?_) k)
  exact z_zreturn rfl (bi_01 _) dX6_isTrueOf_32 ⟨_, rfl, k⟩
theorem eX6_isTrueOf {G : zG} {d : Nat} {K : Bool → zH → Prop} {l1 : Int} {l2 : Int} {l3 : Int} {l4 : Int} {h : zH} (k : tX6_isTrueOf_0 G d K l1 l2 l3 l4 h) : zCb G (d + 1) mX6_isTrueOf [vr 6 233, vr 4 l1, vr 4 l2, vi l3, vi l4] h K := z_entry (by decide +kernel) (Nat.le_of_ble_eq_true rfl) rfl k
def tX6_keyAfter_0 (G : zG) (d : Nat) (K : Int → zH → Prop) (l1 : Int) (l2 : Int) (l3 : Int) (l4 : Int) (h : zH) : Prop := zTi G (d + 1) mX6_keyAfter K 0 [some (vr 6 233), some (vr 4 l1), some (vr 4 l2), some (vi l3), some (vi l4)] [] h
theorem bX6_keyAfter_0 {G : zG} {d : Nat} {K : Int → zH → Prop} {l1 : Int} {l2 : Int} {l3 : Int} {l4 : Int} {h : zH} (k : ((0 : Int) ≤ l3 ∧ l3 < 1600) ∧ ((0 : Int) ≤ l4 ∧ l4 < 256) ∧ zCi G d mX7_classStep [vr 7 (l1 + 7), vi (h 235 l3), vi (h 240 l4)] h (fun x1 h2 => ((0 : Int) ≤ l3 ∧ l3 < 1600) ∧ ((0 : Int) ≤ l4 ∧ l4 < 256) ∧ zCi G d mX7_classStep [vr 7 (l2 + 7), vi (h2 236 l3), vi (h2 241 l4)] h2 (fun x3 h4 => K ((x1 * 40) + x3) h4))) : tX6_keyAfter_0 G d K l1 l2 l3 l4 h := by
  unfold tX6_keyAfter_0
  refine z_aload_n 1 dX6_keyAfter_0 rfl rfl (Nat.le_of_ble_eq_true rfl) rfl ?_
  refine z_getF 4 7 (x := (l1 + 7)) fX6_107 rfl dX6_keyAfter_1 (by omega) rfl ?_
  refine z_aload_n 0 dX6_keyAfter_4 rfl rfl (Nat.le_of_ble_eq_true rfl) rfl ?_
  refine z_getF 6 13 (x := 235) fX6_15 rfl dX6_keyAfter_5 rfl rfl ?_
  refine z_iload_n 3 dX6_keyAfter_8 rfl rfl rfl ?_
  obtain ⟨i9, k⟩ := k
  refine z_iald (x := (h 235 l3)) dX6_keyAfter_9 (by rw [zl_235]; exact i9) rfl rfl ?_
  refine z_aload_n 0 dX6_keyAfter_10 rfl rfl (Nat.le_of_ble_eq_true rfl) rfl ?_
  refine z_getF 6 13 (x := 240) fX6_30 rfl dX6_keyAfter_11 rfl rfl ?_
  refine z_iload dX6_keyAfter_14 rfl rfl ?_
  obtain ⟨i9, k⟩ := k
  refine z_iald (x := (h 240 l4)) dX6_keyAfter_16 (by rw [zl_240]; exact i9) rfl rfl ?_
  refine z_callVi vX7_classStep kX6_121 dX6_keyAfter_17 rfl (zRo_d d) (as := [vi (h 235 l3), vi (h 240 l4)]) (rest := []) (Nat.le_of_ble_eq_true rfl) rfl rfl (zCi_mono (fun x1 h2 k => ?_) k)
  refine z_bipush dX6_keyAfter_20 rfl rfl ?_
  refine z_imul dX6_keyAfter_22 rfl ?_
  refine z_aload_n 2 dX6_keyAfter_23 rfl rfl (Nat.le_of_ble_eq_true rfl) rfl ?_
  refine z_getF 4 7 (x := (l2 + 7)) fX6_107 rfl dX6_keyAfter_24 (by omega) rfl ?_
  refine z_aload_n 0 dX6_keyAfter_27 rfl rfl (Nat.le_of_ble_eq_true rfl) rfl ?_
  refine z_getF 6 13 (x := 236) fX6_18 rfl dX6_keyAfter_28 rfl rfl ?_
  refine z_iload_n 3 dX6_keyAfter_31 rfl rfl rfl ?_
  obtain ⟨i9, k⟩ := k
  refine z_iald (x := (h2 236 l3)) dX6_keyAfter_32 (by rw [zl_236]; exact i9) rfl rfl ?_
  refine z_aload_n 0 dX6_keyAfter_33 rfl rfl (Nat.le_of_ble_eq_true rfl) rfl ?_
  refine z_getF 6 13 (x := 241) fX6_33 rfl dX6_keyAfter_34 rfl rfl ?_
  refine z_iload dX6_keyAfter_37 rfl rfl ?_
  obtain ⟨i9, k⟩ := k
  refine z_iald (x := (h2 241 l4)) dX6_keyAfter_39 (by rw [zl_241]; exact i9) rfl rfl ?_
  refine z_callVi vX7_classStep kX6_121 dX6_keyAfter_40 rfl (zRo_d d) (as := [vi (h2 236 l3), vi (h2 241 l4)]) (rest := [vi (x1 * 40)]) (Nat.le_of_ble_eq_true rfl) rfl rfl (zCi_mono (fun x3 h4 k => ?_) k)
  refine z_iadd dX6_keyAfter_43 rfl ?_
  exact z_ireturn rfl dX6_keyAfter_44 ⟨_, rfl, k⟩
theorem eX6_keyAfter {G : zG} {d : Nat} {K : Int → zH → Prop} {l1 : Int} {l2 : Int} {l3 : Int} {l4 : Int} {h : zH} (k : tX6_keyAfter_0 G d K l1 l2 l3 l4 h) : zCi G (d + 1) mX6_keyAfter [vr 6 233, vr 4 l1, vr 4 l2, vi l3, vi l4] h K := z_entry (by decide +kernel) (Nat.le_of_ble_eq_true rfl) rfl k
def tX6_widen_0 (G : zG) (d : Nat) (K : zH → Prop) (l1 : Int) (l2 : Int) (l3 : Int) (h : zH) : Prop := zTv G (d + 1) mX6_widen K 0 [some (vr 6 233), some (vr 4 l1), some (vr 4 l2), some (vi l3), none, none] [] h
def tX6_widen_3 (G : zG) (d : Nat) (K : zH → Prop) (l1 : Int) (l2 : Int) (l3 : Int) (l4 : Int) (h : zH) : Prop := zTv G (d + 1) mX6_widen K 3 [some (vr 6 233), some (vr 4 l1), some (vr 4 l2), some (vi l3), some (vi l4), none] [] h
theorem bX6_widen_0 {G : zG} {d : Nat} {K : zH → Prop} {l1 : Int} {l2 : Int} {l3 : Int} {h : zH} (k : tX6_widen_3 G d K l1 l2 l3 0 h) : tX6_widen_0 G d K l1 l2 l3 h := by
  unfold tX6_widen_0
  refine z_iconst dX6_widen_0 rfl ?_
  refine z_istore dX6_widen_1 (Nat.le_of_ble_eq_true rfl) (L' := [some (vr 6 233), some (vr 4 l1), some (vr 4 l2), some (vi l3), some (vi 0), none]) rfl rfl ?_
  exact z_sub (L' := [some (vr 6 233), some (vr 4 l1), some (vr 4 l2), some (vi l3), some (vi 0), none]) (And.intro rfl (And.intro rfl (And.intro rfl (And.intro rfl (And.intro rfl trivial))))) k
theorem bX6_widen_3 {G : zG} {d : Nat} {K : zH → Prop} {l1 : Int} {l2 : Int} {l3 : Int} {l4 : Int} {h : zH} (k : zR l4 ∧ zR (h 4 11) ∧ ((h 4 11) ≤ l4 → K h) ∧ (¬ (h 4 11) ≤ l4 → zCi G d mX6_keyAfter [vr 6 233, vr 4 l1, vr 4 l2, vi l3, vi l4] h (fun x1 h2 => ((0 : Int) ≤ x1 ∧ x1 < 1600) ∧ zR (h2 234 x1) ∧ (¬ (h2 234 x1) = (-1) → tX6_widen_3 G d K l1 l2 l3 (l4 + 1) h2) ∧ ((h2 234 x1) = (-1) → zCv G d mX6_add [vr 6 233, vi x1, vi l3, vi l4] h2 (fun h4 => tX6_widen_3 G d K l1 l2 l3 (l4 + 1) h4))))) : tX6_widen_3 G d K l1 l2 l3 l4 h := by
  unfold tX6_widen_3
  refine z_iload dX6_widen_3 rfl rfl ?_
  refine z_aload_n 0 dX6_widen_5 rfl rfl (Nat.le_of_ble_eq_true rfl) rfl ?_
  refine z_getF 6 2 (x := 4) fX6_36 rfl dX6_widen_6 rfl rfl ?_
  refine z_getI 2 (x := (h 4 11)) fX6_61 rfl dX6_widen_9 rfl rfl ?_
  obtain ⟨r1, r2, ka, kb⟩ := k
  refine z_icmp_ge (tgt := 52) dX6_widen_12 rfl r1 r2 rfl ⟨fun q => ?_, fun q => ?_⟩
  · have k := ka q
    exact z_return rfl dX6_widen_52 ⟨rfl, k⟩
  · have k := kb q
    refine z_aload_n 0 dX6_widen_15 rfl rfl (Nat.le_of_ble_eq_true rfl) rfl ?_
    refine z_aload_n 1 dX6_widen_16 rfl rfl (Nat.le_of_ble_eq_true rfl) rfl ?_
    refine z_aload_n 2 dX6_widen_17 rfl rfl (Nat.le_of_ble_eq_true rfl) rfl ?_
    refine z_iload_n 3 dX6_widen_18 rfl rfl rfl ?_
    refine z_iload dX6_widen_19 rfl rfl ?_
    refine z_callVi vX6_keyAfter kX6_64 dX6_widen_21 rfl (zRo_d d) (as := [vr 4 l1, vr 4 l2, vi l3, vi l4]) (rest := []) (Nat.le_of_ble_eq_true rfl) rfl rfl (zCi_mono (fun x1 h2 k => ?_) k)
    refine z_istore dX6_widen_24 (Nat.le_of_ble_eq_true rfl) (L' := [some (vr 6 233), some (vr 4 l1), some (vr 4 l2), some (vi l3), some (vi l4), some (vi x1)]) rfl rfl ?_
    refine z_aload_n 0 dX6_widen_26 rfl rfl (Nat.le_of_ble_eq_true rfl) rfl ?_
    refine z_getF 6 13 (x := 234) fX6_9 rfl dX6_widen_27 rfl rfl ?_
    refine z_iload dX6_widen_30 rfl rfl ?_
    obtain ⟨i9, k⟩ := k
    refine z_iald (x := (h2 234 x1)) dX6_widen_32 (by rw [zl_234]; exact i9) rfl rfl ?_
    refine z_iconst dX6_widen_33 rfl ?_
    obtain ⟨r1, ka, kb⟩ := k
    refine z_icmp_ne (tgt := 46) dX6_widen_34 rfl r1 ⟨by decide, by decide⟩ rfl ⟨fun q => ?_, fun q => ?_⟩
    · have k := ka q
      refine z_iinc dX6_widen_46 rfl (Nat.le_of_ble_eq_true rfl) (L' := [some (vr 6 233), some (vr 4 l1), some (vr 4 l2), some (vi l3), some (vi (l4 + 1)), some (vi x1)]) rfl rfl ?_
      refine z_goto (tgt := 3) dX6_widen_49 rfl ?_
      exact z_sub (L' := [some (vr 6 233), some (vr 4 l1), some (vr 4 l2), some (vi l3), some (vi (l4 + 1)), none]) (And.intro rfl (And.intro rfl (And.intro rfl (And.intro rfl (And.intro rfl trivial))))) k
    · have k := kb q
      refine z_aload_n 0 dX6_widen_37 rfl rfl (Nat.le_of_ble_eq_true rfl) rfl ?_
      refine z_iload dX6_widen_38 rfl rfl ?_
      refine z_iload_n 3 dX6_widen_40 rfl rfl rfl ?_
      refine z_iload dX6_widen_41 rfl rfl ?_
      refine z_callVv vX6_add kX6_104 dX6_widen_43 rfl (zRo_d d) (as := [vi x1, vi l3, vi l4]) (rest := []) (Nat.le_of_ble_eq_true rfl) rfl rfl (zCv_mono (fun h4 k => ?_) k)
      refine z_iinc dX6_widen_46 rfl (Nat.le_of_ble_eq_true rfl) (L' := [some (vr 6 233), some (vr 4 l1), some (vr 4 l2), some (vi l3), some (vi (l4 + 1)), some (vi x1)]) rfl rfl ?_
      refine z_goto (tgt := 3) dX6_widen_49 rfl ?_
      exact z_sub (L' := [some (vr 6 233), some (vr 4 l1), some (vr 4 l2), some (vi l3), some (vi (l4 + 1)), none]) (And.intro rfl (And.intro rfl (And.intro rfl (And.intro rfl (And.intro rfl trivial))))) k
theorem eX6_widen {G : zG} {d : Nat} {K : zH → Prop} {l1 : Int} {l2 : Int} {l3 : Int} {h : zH} (k : tX6_widen_0 G d K l1 l2 l3 h) : zCv G (d + 1) mX6_widen [vr 6 233, vr 4 l1, vr 4 l2, vi l3] h K := z_entry (by decide +kernel) (Nat.le_of_ble_eq_true rfl) rfl k
def tX6_add_0 (G : zG) (d : Nat) (K : zH → Prop) (l1 : Int) (l2 : Int) (l3 : Int) (h : zH) : Prop := zTv G d mX6_add K 0 [some (vr 6 233), some (vi l1), some (vi l2), some (vi l3)] [] h
theorem bX6_add_0 {G : zG} {d : Nat} {K : zH → Prop} {l1 : Int} {l2 : Int} {l3 : Int} {h : zH} (k : zR (h 233 9) ∧ ((h 233 9) < 1600 → ((0 : Int) ≤ l1 ∧ l1 < 1600) ∧ (0 ≤ l1 ∧ l1 < 2147483648) ∧ ((0 : Int) ≤ (h 233 9) ∧ (h 233 9) < 1600) ∧ (0 ≤ l1 ∧ l1 < 2147483648) ∧ ((0 : Int) ≤ (h 233 9) ∧ (h 233 9) < 1600) ∧ ((0 : Int) ≤ (h 233 9) ∧ (h 233 9) < 1600) ∧ ((0 : Int) ≤ (h 233 9) ∧ (h 233 9) < 1600) ∧ zR l2 ∧ (0 ≤ l2 → ((0 : Int) ≤ l2 ∧ l2 < 1600) ∧ ((0 : Int) ≤ (h 233 9) ∧ (h 233 9) < 1600) ∧ K (zup (zup (zup (zup (zup (zup (zup h 234 l1 (h 233 9)) 235 (h 233 9) (l1 / 40)) 236 (h 233 9) (l1 % 40)) 237 (h 233 9) l2) 238 (h 233 9) l3) 239 (h 233 9) ((h 239 l2) + 1)) 233 9 ((h 233 9) + 1))) ∧ (¬ 0 ≤ l2 → ((0 : Int) ≤ (h 233 9) ∧ (h 233 9) < 1600) ∧ K (zup (zup (zup (zup (zup (zup (zup h 234 l1 (h 233 9)) 235 (h 233 9) (l1 / 40)) 236 (h 233 9) (l1 % 40)) 237 (h 233 9) l2) 238 (h 233 9) l3) 239 (h 233 9) 0) 233 9 ((h 233 9) + 1)))) ∧ (¬ (h 233 9) < 1600 → K h)) : tX6_add_0 G d K l1 l2 l3 h := by
  unfold tX6_add_0
  refine z_aload_n 0 dX6_add_0 rfl rfl (Nat.le_of_ble_eq_true rfl) rfl ?_
  refine z_getI 6 (x := (h 233 9)) fX6_44 rfl dX6_add_1 rfl rfl ?_
  refine z_sipush dX6_add_4 rfl rfl ?_
  obtain ⟨r1, ka, kb⟩ := k
  refine z_icmp_lt (tgt := 11) dX6_add_7 rfl r1 ⟨by decide, by decide⟩ rfl ⟨fun q => ?_, fun q => ?_⟩
  · have k := ka q
    refine z_aload_n 0 dX6_add_11 rfl rfl (Nat.le_of_ble_eq_true rfl) rfl ?_
    refine z_getF 6 13 (x := 234) fX6_9 rfl dX6_add_12 rfl rfl ?_
    refine z_iload_n 1 dX6_add_15 rfl rfl rfl ?_
    refine z_aload_n 0 dX6_add_16 rfl rfl (Nat.le_of_ble_eq_true rfl) rfl ?_
    refine z_getI 6 (x := (h 233 9)) fX6_44 rfl dX6_add_17 rfl rfl ?_
    obtain ⟨i9, k⟩ := k
    refine z_iast dX6_add_20 (by rw [zl_234]; exact i9) rfl ?_
    refine z_aload_n 0 dX6_add_21 rfl rfl (Nat.le_of_ble_eq_true rfl) rfl ?_
    refine z_getF 6 13 (x := 235) fX6_15 rfl dX6_add_22 rfl rfl ?_
    refine z_aload_n 0 dX6_add_25 rfl rfl (Nat.le_of_ble_eq_true rfl) rfl ?_
    refine z_getI 6 (x := (h 233 9)) fX6_44 rfl dX6_add_26 (by simp [zup]) rfl ?_
    refine z_iload_n 1 dX6_add_29 rfl rfl rfl ?_
    refine z_bipush dX6_add_30 rfl rfl ?_
    obtain ⟨i9, k⟩ := k
    refine z_idiv dX6_add_32 ⟨i9.1, i9.2, by decide, by decide⟩ rfl ?_
    obtain ⟨i9, k⟩ := k
    refine z_iast dX6_add_33 (by rw [zl_235]; exact i9) rfl ?_
    refine z_aload_n 0 dX6_add_34 rfl rfl (Nat.le_of_ble_eq_true rfl) rfl ?_
    refine z_getF 6 13 (x := 236) fX6_18 rfl dX6_add_35 rfl rfl ?_
    refine z_aload_n 0 dX6_add_38 rfl rfl (Nat.le_of_ble_eq_true rfl) rfl ?_
    refine z_getI 6 (x := (h 233 9)) fX6_44 rfl dX6_add_39 (by simp [zup]) rfl ?_
    refine z_iload_n 1 dX6_add_42 rfl rfl rfl ?_
    refine z_bipush dX6_add_43 rfl rfl ?_
    obtain ⟨i9, k⟩ := k
    refine z_irem dX6_add_45 ⟨i9.1, i9.2, by decide, by decide⟩ rfl ?_
    obtain ⟨i9, k⟩ := k
    refine z_iast dX6_add_46 (by rw [zl_236]; exact i9) rfl ?_
    refine z_aload_n 0 dX6_add_47 rfl rfl (Nat.le_of_ble_eq_true rfl) rfl ?_
    refine z_getF 6 13 (x := 237) fX6_21 rfl dX6_add_48 rfl rfl ?_
    refine z_aload_n 0 dX6_add_51 rfl rfl (Nat.le_of_ble_eq_true rfl) rfl ?_
    refine z_getI 6 (x := (h 233 9)) fX6_44 rfl dX6_add_52 (by simp [zup]) rfl ?_
    refine z_iload_n 2 dX6_add_55 rfl rfl rfl ?_
    obtain ⟨i9, k⟩ := k
    refine z_iast dX6_add_56 (by rw [zl_237]; exact i9) rfl ?_
    refine z_aload_n 0 dX6_add_57 rfl rfl (Nat.le_of_ble_eq_true rfl) rfl ?_
    refine z_getF 6 13 (x := 238) fX6_24 rfl dX6_add_58 rfl rfl ?_
    refine z_aload_n 0 dX6_add_61 rfl rfl (Nat.le_of_ble_eq_true rfl) rfl ?_
    refine z_getI 6 (x := (h 233 9)) fX6_44 rfl dX6_add_62 (by simp [zup]) rfl ?_
    refine z_iload_n 3 dX6_add_65 rfl rfl rfl ?_
    obtain ⟨i9, k⟩ := k
    refine z_iast dX6_add_66 (by rw [zl_238]; exact i9) rfl ?_
    refine z_aload_n 0 dX6_add_67 rfl rfl (Nat.le_of_ble_eq_true rfl) rfl ?_
    refine z_getF 6 13 (x := 239) fX6_27 rfl dX6_add_68 rfl rfl ?_
    refine z_aload_n 0 dX6_add_71 rfl rfl (Nat.le_of_ble_eq_true rfl) rfl ?_
    refine z_getI 6 (x := (h 233 9)) fX6_44 rfl dX6_add_72 (by simp [zup]) rfl ?_
    refine z_iload_n 2 dX6_add_75 rfl rfl rfl ?_
    obtain ⟨r1, ka, kb⟩ := k
    refine z_if_ge (tgt := 83) dX6_add_76 rfl r1 rfl ⟨fun q => ?_, fun q => ?_⟩
    · have k := ka q
      refine z_aload_n 0 dX6_add_83 rfl rfl (Nat.le_of_ble_eq_true rfl) rfl ?_
      refine z_getF 6 13 (x := 239) fX6_27 rfl dX6_add_84 rfl rfl ?_
      refine z_iload_n 2 dX6_add_87 rfl rfl rfl ?_
      obtain ⟨i9, k⟩ := k
      refine z_iald (x := (h 239 l2)) dX6_add_88 (by rw [zl_239]; exact i9) (by simp [zup]) rfl ?_
      refine z_iconst dX6_add_89 rfl ?_
      refine z_iadd dX6_add_90 rfl ?_
      obtain ⟨i9, k⟩ := k
      refine z_iast dX6_add_91 (by rw [zl_239]; exact i9) rfl ?_
      refine z_aload_n 0 dX6_add_92 rfl rfl (Nat.le_of_ble_eq_true rfl) rfl ?_
      refine z_dup dX6_add_93 (fun q => by cases q) rfl ?_
      refine z_getI 6 (x := (h 233 9)) fX6_44 rfl dX6_add_94 (by simp [zup]) rfl ?_
      refine z_iconst dX6_add_97 rfl ?_
      refine z_iadd dX6_add_98 rfl ?_
      refine z_putI 6 gX6_44 dX6_add_99 rfl ?_
      exact z_return rfl dX6_add_102 ⟨rfl, k⟩
    · have k := kb q
      refine z_iconst dX6_add_79 rfl ?_
      refine z_goto (tgt := 91) dX6_add_80 rfl ?_
      obtain ⟨i9, k⟩ := k
      refine z_iast dX6_add_91 (by rw [zl_239]; exact i9) rfl ?_
      refine z_aload_n 0 dX6_add_92 rfl rfl (Nat.le_of_ble_eq_true rfl) rfl ?_
      refine z_dup dX6_add_93 (fun q => by cases q) rfl ?_
      refine z_getI 6 (x := (h 233 9)) fX6_44 rfl dX6_add_94 (by simp [zup]) rfl ?_
      refine z_iconst dX6_add_97 rfl ?_
      refine z_iadd dX6_add_98 rfl ?_
      refine z_putI 6 gX6_44 dX6_add_99 rfl ?_
      exact z_return rfl dX6_add_102 ⟨rfl, k⟩
  · have k := kb q
    exact z_return rfl dX6_add_10 ⟨rfl, k⟩
theorem eX6_add {G : zG} {d : Nat} {K : zH → Prop} {l1 : Int} {l2 : Int} {l3 : Int} {h : zH} (k : tX6_add_0 G d K l1 l2 l3 h) : zCv G d mX6_add [vr 6 233, vi l1, vi l2, vi l3] h K := z_entry (by decide +kernel) (Nat.le_of_ble_eq_true rfl) rfl k
def tX0_readBody_0 (G : zG) (d : Nat) (K : Bool → zH → Prop) (l1 : Int) (l2 : Int) (h : zH) : Prop := zTb G (d + 1) mX0_readBody K 0 [some (vr 0 17), some (vr 9 l1), some (vr 3 l2), none, none, none] [] h
def tX0_readBody_28 (G : zG) (d : Nat) (K : Bool → zH → Prop) (l1 : Int) (l2 : Int) (l3 : Int) (l4 : Int) (l5 : Int) (h : zH) : Prop := zTb G (d + 1) mX0_readBody K 28 [some (vr 0 17), some (vr 9 l1), some (vr 3 l2), some (vi l3), some (vi l4), some (vi l5)] [] h
theorem bX0_readBody_0 {G : zG} {d : Nat} {K : Bool → zH → Prop} {l1 : Int} {l2 : Int} {h : zH} (k : zCv G d mX0_openLevel [vr 0 17] (zup (zup h 17 8 0) 17 9 0) (fun h2 => tX0_readBody_28 G d K l1 l2 (h 13 6) 1 0 h2)) : tX0_readBody_0 G d K l1 l2 h := by
  unfold tX0_readBody_0
  refine z_aload_n 0 dX0_readBody_0 rfl rfl (Nat.le_of_ble_eq_true rfl) rfl ?_
  refine z_getF 0 10 (x := 13) fX0_40 rfl dX0_readBody_1 rfl rfl ?_
  refine z_getI 10 (x := (h 13 6)) fX0_44 rfl dX0_readBody_4 rfl rfl ?_
  refine z_istore_n 3 dX0_readBody_7 rfl (Nat.le_of_ble_eq_true rfl) (L' := [some (vr 0 17), some (vr 9 l1), some (vr 3 l2), some (vi (h 13 6)), none, none]) rfl rfl ?_
  refine z_aload_n 0 dX0_readBody_8 rfl rfl (Nat.le_of_ble_eq_true rfl) rfl ?_
  refine z_iconst dX0_readBody_9 rfl ?_
  refine z_putI 0 gX0_50 dX0_readBody_10 rfl ?_
  refine z_aload_n 0 dX0_readBody_13 rfl rfl (Nat.le_of_ble_eq_true rfl) rfl ?_
  refine z_iconst dX0_readBody_14 rfl ?_
  refine z_putI 0 gX0_53 dX0_readBody_15 rfl ?_
  refine z_aload_n 0 dX0_readBody_18 rfl rfl (Nat.le_of_ble_eq_true rfl) rfl ?_
  refine z_callVv vX0_openLevel kX0_56 dX0_readBody_19 rfl (zRo_d d) (as := []) (rest := []) (Nat.le_of_ble_eq_true rfl) rfl rfl (zCv_mono (fun h2 k => ?_) k)
  refine z_iconst dX0_readBody_22 rfl ?_
  refine z_istore dX0_readBody_23 (Nat.le_of_ble_eq_true rfl) (L' := [some (vr 0 17), some (vr 9 l1), some (vr 3 l2), some (vi (h 13 6)), some (vi 1), none]) rfl rfl ?_
  refine z_iconst dX0_readBody_25 rfl ?_
  refine z_istore dX0_readBody_26 (Nat.le_of_ble_eq_true rfl) (L' := [some (vr 0 17), some (vr 9 l1), some (vr 3 l2), some (vi (h 13 6)), some (vi 1), some (vi 0)]) rfl rfl ?_
  exact z_sub (L' := [some (vr 0 17), some (vr 9 l1), some (vr 3 l2), some (vi (h 13 6)), some (vi 1), some (vi 0)]) (And.intro rfl (And.intro rfl (And.intro rfl (And.intro rfl (And.intro rfl (And.intro rfl trivial)))))) k
theorem bX0_readBody_28 {G : zG} {d : Nat} {K : Bool → zH → Prop} {l1 : Int} {l2 : Int} {l3 : Int} {l4 : Int} {l5 : Int} {h : zH} (k : zR l4 ∧ (l4 = 0 → zR (h 17 8) ∧ ((h 17 8) ≤ 0 → zCv G d mX0_closeMeet [vr 0 17] h (fun h2 => zCi G d mX3_rangeCount [vr 3 (h2 18 0)] h2 (fun x4 h5 => zR x4 ∧ (x4 ≤ 24 → zCv G d mX3_copy [vr 3 l2, vr 3 (h5 18 0)] h5 (fun h8 => K true h8)) ∧ (¬ x4 ≤ 24 → zCb G d mX10_failAt [vr 10 13, vi 5, vi l3] h5 (fun x9 h10 => K x9 h10))))) ∧ (¬ (h 17 8) ≤ 0 → zCb G d mX10_fail [vr 10 13, vi 1] h (fun x11 h12 => K x11 h12))) ∧ (¬ l4 = 0 → zR l5 ∧ (900 < l5 → zR (h 17 8) ∧ ((h 17 8) ≤ 0 → zCv G d mX0_closeMeet [vr 0 17] h (fun h14 => zCi G d mX3_rangeCount [vr 3 (h14 18 0)] h14 (fun x16 h17 => zR x16 ∧ (x16 ≤ 24 → zCv G d mX3_copy [vr 3 l2, vr 3 (h17 18 0)] h17 (fun h20 => K true h20)) ∧ (¬ x16 ≤ 24 → zCb G d mX10_failAt [vr 10 13, vi 5, vi l3] h17 (fun x21 h22 => K x21 h22))))) ∧ (¬ (h 17 8) ≤ 0 → zCb G d mX10_fail [vr 10 13, vi 1] h (fun x23 h24 => K x23 h24))) ∧ (¬ 900 < l5 → zR (h 17 10) ∧ (¬ (h 17 10) = 0 → zCb G d mX0_readPart [vr 0 17, vr 9 l1] h (fun x25 h26 => (x25 = true → tX0_readBody_28 G d K l1 l2 l3 l4 (l5 + 1) h26) ∧ (x25 = false → K false h26))) ∧ ((h 17 10) = 0 → zCb G d mX0_readSign [vr 0 17] h (fun x27 h28 => tX0_readBody_28 G d K l1 l2 l3 (bi x27) (l5 + 1) h28))))) : tX0_readBody_28 G d K l1 l2 l3 l4 l5 h := by
  unfold tX0_readBody_28
  refine z_iload dX0_readBody_28 rfl rfl ?_
  obtain ⟨r1, ka, kb⟩ := k
  refine z_if_eq (tgt := 73) dX0_readBody_30 rfl r1 rfl ⟨fun q => ?_, fun q => ?_⟩
  · have k := ka q
    refine z_aload_n 0 dX0_readBody_73 rfl rfl (Nat.le_of_ble_eq_true rfl) rfl ?_
    refine z_getI 0 (x := (h 17 8)) fX0_50 rfl dX0_readBody_74 rfl rfl ?_
    obtain ⟨r1, ka, kb⟩ := k
    refine z_if_le (tgt := 89) dX0_readBody_77 rfl r1 rfl ⟨fun q => ?_, fun q => ?_⟩
    · have k := ka q
      refine z_aload_n 0 dX0_readBody_89 rfl rfl (Nat.le_of_ble_eq_true rfl) rfl ?_
      refine z_callVv vX0_closeMeet kX0_75 dX0_readBody_90 rfl (zRo_d d) (as := []) (rest := []) (Nat.le_of_ble_eq_true rfl) rfl rfl (zCv_mono (fun h2 k => ?_) k)
      refine z_aload_n 0 dX0_readBody_93 rfl rfl (Nat.le_of_ble_eq_true rfl) rfl ?_
      refine z_getF 0 16 (x := 18) fX0_13 rfl dX0_readBody_94 rfl rfl ?_
      refine z_iconst dX0_readBody_97 rfl ?_
      refine z_aald16 (x := (h2 18 0)) dX0_readBody_98 (by rw [zl_18]; decide) rfl rfl ?_
      refine z_w (fun w3 => ?_)
      refine z_callVi vX3_rangeCount kX0_78 dX0_readBody_99 rfl (zRo_d d) (as := []) (rest := []) (Nat.le_of_ble_eq_true rfl) rfl rfl (zCi_mono (fun x4 h5 k => ?_) k)
      refine z_bipush dX0_readBody_102 rfl rfl ?_
      obtain ⟨r1, ka, kb⟩ := k
      refine z_icmp_le (tgt := 117) dX0_readBody_104 rfl r1 ⟨by decide, by decide⟩ rfl ⟨fun q => ?_, fun q => ?_⟩
      · have k := ka q
        refine z_aload_n 2 dX0_readBody_117 rfl rfl (Nat.le_of_ble_eq_true rfl) rfl ?_
        refine z_aload_n 0 dX0_readBody_118 rfl rfl (Nat.le_of_ble_eq_true rfl) rfl ?_
        refine z_getF 0 16 (x := 18) fX0_13 rfl dX0_readBody_119 rfl rfl ?_
        refine z_iconst dX0_readBody_122 rfl ?_
        refine z_aald16 (x := (h5 18 0)) dX0_readBody_123 (by rw [zl_18]; decide) rfl rfl ?_
        refine z_w (fun w6 => ?_)
        refine z_callVv vX3_copy kX0_86 dX0_readBody_124 rfl (zRo_d d) (as := [vr 3 (h5 18 0)]) (rest := []) (Nat.le_of_ble_eq_true rfl) rfl rfl (zCv_mono (fun h8 k => ?_) k)
        refine z_iconst dX0_readBody_127 rfl ?_
        exact z_zreturn rfl (Or.inr rfl) dX0_readBody_128 ⟨true, rfl, k⟩
      · have k := kb q
        refine z_aload_n 0 dX0_readBody_107 rfl rfl (Nat.le_of_ble_eq_true rfl) rfl ?_
        refine z_getF 0 10 (x := 13) fX0_40 rfl dX0_readBody_108 rfl rfl ?_
        refine z_iconst dX0_readBody_111 rfl ?_
        refine z_iload_n 3 dX0_readBody_112 rfl rfl rfl ?_
        refine z_callVb vX10_failAt kX0_82 dX0_readBody_113 rfl (zRo_d d) (as := [vi 5, vi l3]) (rest := []) (Nat.le_of_ble_eq_true rfl) rfl rfl (zCb_mono (fun x9 h10 k => ?_) k)
        exact z_zreturn rfl (bi_01 _) dX0_readBody_116 ⟨_, rfl, k⟩
    · have k := kb q
      refine z_aload_n 0 dX0_readBody_80 rfl rfl (Nat.le_of_ble_eq_true rfl) rfl ?_
      refine z_getF 0 10 (x := 13) fX0_40 rfl dX0_readBody_81 rfl rfl ?_
      refine z_iconst dX0_readBody_84 rfl ?_
      refine z_callVb vX10_fail kX0_71 dX0_readBody_85 rfl (zRo_d d) (as := [vi 1]) (rest := []) (Nat.le_of_ble_eq_true rfl) rfl rfl (zCb_mono (fun x11 h12 k => ?_) k)
      exact z_zreturn rfl (bi_01 _) dX0_readBody_88 ⟨_, rfl, k⟩
  · have k := kb q
    refine z_iload dX0_readBody_33 rfl rfl ?_
    refine z_sipush dX0_readBody_35 rfl rfl ?_
    obtain ⟨r1, ka, kb⟩ := k
    refine z_icmp_gt (tgt := 73) dX0_readBody_38 rfl r1 ⟨by decide, by decide⟩ rfl ⟨fun q => ?_, fun q => ?_⟩
    · have k := ka q
      refine z_aload_n 0 dX0_readBody_73 rfl rfl (Nat.le_of_ble_eq_true rfl) rfl ?_
      refine z_getI 0 (x := (h 17 8)) fX0_50 rfl dX0_readBody_74 rfl rfl ?_
      obtain ⟨r1, ka, kb⟩ := k
      refine z_if_le (tgt := 89) dX0_readBody_77 rfl r1 rfl ⟨fun q => ?_, fun q => ?_⟩
      · have k := ka q
        refine z_aload_n 0 dX0_readBody_89 rfl rfl (Nat.le_of_ble_eq_true rfl) rfl ?_
        refine z_callVv vX0_closeMeet kX0_75 dX0_readBody_90 rfl (zRo_d d) (as := []) (rest := []) (Nat.le_of_ble_eq_true rfl) rfl rfl (zCv_mono (fun h14 k => ?_) k)
        refine z_aload_n 0 dX0_readBody_93 rfl rfl (Nat.le_of_ble_eq_true rfl) rfl ?_
        refine z_getF 0 16 (x := 18) fX0_13 rfl dX0_readBody_94 rfl rfl ?_
        refine z_iconst dX0_readBody_97 rfl ?_
        refine z_aald16 (x := (h14 18 0)) dX0_readBody_98 (by rw [zl_18]; decide) rfl rfl ?_
        refine z_w (fun w15 => ?_)
        refine z_callVi vX3_rangeCount kX0_78 dX0_readBody_99 rfl (zRo_d d) (as := []) (rest := []) (Nat.le_of_ble_eq_true rfl) rfl rfl (zCi_mono (fun x16 h17 k => ?_) k)
        refine z_bipush dX0_readBody_102 rfl rfl ?_
        obtain ⟨r1, ka, kb⟩ := k
        refine z_icmp_le (tgt := 117) dX0_readBody_104 rfl r1 ⟨by decide, by decide⟩ rfl ⟨fun q => ?_, fun q => ?_⟩
        · have k := ka q
          refine z_aload_n 2 dX0_readBody_117 rfl rfl (Nat.le_of_ble_eq_true rfl) rfl ?_
          refine z_aload_n 0 dX0_readBody_118 rfl rfl (Nat.le_of_ble_eq_true rfl) rfl ?_
          refine z_getF 0 16 (x := 18) fX0_13 rfl dX0_readBody_119 rfl rfl ?_
          refine z_iconst dX0_readBody_122 rfl ?_
          refine z_aald16 (x := (h17 18 0)) dX0_readBody_123 (by rw [zl_18]; decide) rfl rfl ?_
          refine z_w (fun w18 => ?_)
          refine z_callVv vX3_copy kX0_86 dX0_readBody_124 rfl (zRo_d d) (as := [vr 3 (h17 18 0)]) (rest := []) (Nat.le_of_ble_eq_true rfl) rfl rfl (zCv_mono (fun h20 k => ?_) k)
          refine z_iconst dX0_readBody_127 rfl ?_
          exact z_zreturn rfl (Or.inr rfl) dX0_readBody_128 ⟨true, rfl, k⟩
        · have k := kb q
          refine z_aload_n 0 dX0_readBody_107 rfl rfl (Nat.le_of_ble_eq_true rfl) rfl ?_
          refine z_getF 0 10 (x := 13) fX0_40 rfl dX0_readBody_108 rfl rfl ?_
          refine z_iconst dX0_readBody_111 rfl ?_
          refine z_iload_n 3 dX0_readBody_112 rfl rfl rfl ?_
          refine z_callVb vX10_failAt kX0_82 dX0_readBody_113 rfl (zRo_d d) (as := [vi 5, vi l3]) (rest := []) (Nat.le_of_ble_eq_true rfl) rfl rfl (zCb_mono (fun x21 h22 k => ?_) k)
          exact z_zreturn rfl (bi_01 _) dX0_readBody_116 ⟨_, rfl, k⟩
      · have k := kb q
        refine z_aload_n 0 dX0_readBody_80 rfl rfl (Nat.le_of_ble_eq_true rfl) rfl ?_
        refine z_getF 0 10 (x := 13) fX0_40 rfl dX0_readBody_81 rfl rfl ?_
        refine z_iconst dX0_readBody_84 rfl ?_
        refine z_callVb vX10_fail kX0_71 dX0_readBody_85 rfl (zRo_d d) (as := [vi 1]) (rest := []) (Nat.le_of_ble_eq_true rfl) rfl rfl (zCb_mono (fun x23 h24 k => ?_) k)
        exact z_zreturn rfl (bi_01 _) dX0_readBody_88 ⟨_, rfl, k⟩
    · have k := kb q
      refine z_aload_n 0 dX0_readBody_41 rfl rfl (Nat.le_of_ble_eq_true rfl) rfl ?_
      refine z_getZ 0 (x := (h 17 10)) fX0_59 rfl dX0_readBody_42 rfl rfl ?_
      obtain ⟨r1, ka, kb⟩ := k
      refine z_if_ne (tgt := 57) dX0_readBody_45 rfl r1 rfl ⟨fun q => ?_, fun q => ?_⟩
      · have k := ka q
        refine z_aload_n 0 dX0_readBody_57 rfl rfl (Nat.le_of_ble_eq_true rfl) rfl ?_
        refine z_aload_n 1 dX0_readBody_58 rfl rfl (Nat.le_of_ble_eq_true rfl) rfl ?_
        refine z_callVb vX0_readPart kX0_67 dX0_readBody_59 rfl (zRo_d d) (as := [vr 9 l1]) (rest := []) (Nat.le_of_ble_eq_true rfl) rfl rfl (zCb_mono (fun x25 h26 k => ?_) k)
        obtain ⟨ka, kb⟩ := k
        refine z_ifb_ne (tgt := 67) dX0_readBody_62 rfl rfl ⟨fun q => ?_, fun q => ?_⟩
        · have k := ka q
          refine z_iinc dX0_readBody_67 rfl (Nat.le_of_ble_eq_true rfl) (L' := [some (vr 0 17), some (vr 9 l1), some (vr 3 l2), some (vi l3), some (vi l4), some (vi (l5 + 1))]) rfl rfl ?_
          refine z_goto (tgt := 28) dX0_readBody_70 rfl ?_
          exact z_sub (L' := [some (vr 0 17), some (vr 9 l1), some (vr 3 l2), some (vi l3), some (vi l4), some (vi (l5 + 1))]) (And.intro rfl (And.intro rfl (And.intro rfl (And.intro rfl (And.intro rfl (And.intro rfl trivial)))))) k
        · have k := kb q
          refine z_iconst dX0_readBody_65 rfl ?_
          exact z_zreturn rfl (Or.inl rfl) dX0_readBody_66 ⟨false, rfl, k⟩
      · have k := kb q
        refine z_aload_n 0 dX0_readBody_48 rfl rfl (Nat.le_of_ble_eq_true rfl) rfl ?_
        refine z_callVb vX0_readSign kX0_63 dX0_readBody_49 rfl (zRo_d d) (as := []) (rest := []) (Nat.le_of_ble_eq_true rfl) rfl rfl (zCb_mono (fun x27 h28 k => ?_) k)
        refine z_istore dX0_readBody_52 (Nat.le_of_ble_eq_true rfl) (L' := [some (vr 0 17), some (vr 9 l1), some (vr 3 l2), some (vi l3), some (vi (bi x27)), some (vi l5)]) rfl rfl ?_
        refine z_goto (tgt := 67) dX0_readBody_54 rfl ?_
        refine z_iinc dX0_readBody_67 rfl (Nat.le_of_ble_eq_true rfl) (L' := [some (vr 0 17), some (vr 9 l1), some (vr 3 l2), some (vi l3), some (vi (bi x27)), some (vi (l5 + 1))]) rfl rfl ?_
        refine z_goto (tgt := 28) dX0_readBody_70 rfl ?_
        exact z_sub (L' := [some (vr 0 17), some (vr 9 l1), some (vr 3 l2), some (vi l3), some (vi (bi x27)), some (vi (l5 + 1))]) (And.intro rfl (And.intro rfl (And.intro rfl (And.intro rfl (And.intro rfl (And.intro rfl trivial)))))) k
theorem eX0_readBody {G : zG} {d : Nat} {K : Bool → zH → Prop} {l1 : Int} {l2 : Int} {h : zH} (k : tX0_readBody_0 G d K l1 l2 h) : zCb G (d + 1) mX0_readBody [vr 0 17, vr 9 l1, vr 3 l2] h K := z_entry (by decide +kernel) (Nat.le_of_ble_eq_true rfl) rfl k
def tX0_openLevel_0 (G : zG) (d : Nat) (K : zH → Prop) (h : zH) : Prop := zTv G (d + 1) mX0_openLevel K 0 [some (vr 0 17)] [] h
theorem bX0_openLevel_0 {G : zG} {d : Nat} {K : zH → Prop} {h : zH} (k : ((0 : Int) ≤ (h 17 8) ∧ (h 17 8) < 13) ∧ zCv G d mX3_clear [vr 3 (h 18 (h 17 8))] h (fun h3 => ((0 : Int) ≤ (h3 17 8) ∧ (h3 17 8) < 13) ∧ zCv G d mX0_openMeet [vr 0 17] (zup h3 21 (h3 17 8) 0) (fun h5 => K h5))) : tX0_openLevel_0 G d K h := by
  unfold tX0_openLevel_0
  refine z_aload_n 0 dX0_openLevel_0 rfl rfl (Nat.le_of_ble_eq_true rfl) rfl ?_
  refine z_getF 0 16 (x := 18) fX0_13 rfl dX0_openLevel_1 rfl rfl ?_
  refine z_aload_n 0 dX0_openLevel_4 rfl rfl (Nat.le_of_ble_eq_true rfl) rfl ?_
  refine z_getI 0 (x := (h 17 8)) fX0_50 rfl dX0_openLevel_5 rfl rfl ?_
  obtain ⟨i9, k⟩ := k
  refine z_aald16 (x := (h 18 (h 17 8))) dX0_openLevel_8 (by rw [zl_18]; exact i9) rfl rfl ?_
  refine z_w (fun w1 => ?_)
  refine z_callVv vX3_clear kX0_90 dX0_openLevel_9 rfl (zRo_d d) (as := []) (rest := []) (Nat.le_of_ble_eq_true rfl) rfl rfl (zCv_mono (fun h3 k => ?_) k)
  refine z_aload_n 0 dX0_openLevel_12 rfl rfl (Nat.le_of_ble_eq_true rfl) rfl ?_
  refine z_getF 0 13 (x := 21) fX0_24 rfl dX0_openLevel_13 rfl rfl ?_
  refine z_aload_n 0 dX0_openLevel_16 rfl rfl (Nat.le_of_ble_eq_true rfl) rfl ?_
  refine z_getI 0 (x := (h3 17 8)) fX0_50 rfl dX0_openLevel_17 rfl rfl ?_
  refine z_iconst dX0_openLevel_20 rfl ?_
  obtain ⟨i9, k⟩ := k
  refine z_iast dX0_openLevel_21 (by rw [zl_21]; exact i9) rfl ?_
  refine z_aload_n 0 dX0_openLevel_22 rfl rfl (Nat.le_of_ble_eq_true rfl) rfl ?_
  refine z_callVv vX0_openMeet kX0_93 dX0_openLevel_23 rfl (zRo_d d) (as := []) (rest := []) (Nat.le_of_ble_eq_true rfl) rfl rfl (zCv_mono (fun h5 k => ?_) k)
  exact z_return rfl dX0_openLevel_26 ⟨rfl, k⟩
theorem eX0_openLevel {G : zG} {d : Nat} {K : zH → Prop} {h : zH} (k : tX0_openLevel_0 G d K h) : zCv G (d + 1) mX0_openLevel [vr 0 17] h K := z_entry (by decide +kernel) (Nat.le_of_ble_eq_true rfl) rfl k
def tX0_openMeet_0 (G : zG) (d : Nat) (K : zH → Prop) (h : zH) : Prop := zTv G (d + 1) mX0_openMeet K 0 [some (vr 0 17)] [] h
theorem bX0_openMeet_0 {G : zG} {d : Nat} {K : zH → Prop} {h : zH} (k : ((0 : Int) ≤ (h 17 8) ∧ (h 17 8) < 13) ∧ zCv G d mX3_become [vr 3 (h 19 (h 17 8)), vi 0, vi 65535] h (fun h3 => ((0 : Int) ≤ (h3 17 8) ∧ (h3 17 8) < 13) ∧ K (zup (zup h3 20 (h3 17 8) 8) 17 10 1))) : tX0_openMeet_0 G d K h := by
  unfold tX0_openMeet_0
  refine z_aload_n 0 dX0_openMeet_0 rfl rfl (Nat.le_of_ble_eq_true rfl) rfl ?_
  refine z_getF 0 16 (x := 19) fX0_17 rfl dX0_openMeet_1 rfl rfl ?_
  refine z_aload_n 0 dX0_openMeet_4 rfl rfl (Nat.le_of_ble_eq_true rfl) rfl ?_
  refine z_getI 0 (x := (h 17 8)) fX0_50 rfl dX0_openMeet_5 rfl rfl ?_
  obtain ⟨i9, k⟩ := k
  refine z_aald16 (x := (h 19 (h 17 8))) dX0_openMeet_8 (by rw [zl_19]; exact i9) rfl rfl ?_
  refine z_w (fun w1 => ?_)
  refine z_iconst dX0_openMeet_9 rfl ?_
  refine z_ldc (x := 65535) cX0_96 rfl dX0_openMeet_10 rfl ?_
  refine z_callVv vX3_become kX0_97 dX0_openMeet_12 rfl (zRo_d d) (as := [vi 0, vi 65535]) (rest := []) (Nat.le_of_ble_eq_true rfl) rfl rfl (zCv_mono (fun h3 k => ?_) k)
  refine z_aload_n 0 dX0_openMeet_15 rfl rfl (Nat.le_of_ble_eq_true rfl) rfl ?_
  refine z_getF 0 13 (x := 20) fX0_20 rfl dX0_openMeet_16 rfl rfl ?_
  refine z_aload_n 0 dX0_openMeet_19 rfl rfl (Nat.le_of_ble_eq_true rfl) rfl ?_
  refine z_getI 0 (x := (h3 17 8)) fX0_50 rfl dX0_openMeet_20 rfl rfl ?_
  refine z_bipush dX0_openMeet_23 rfl rfl ?_
  obtain ⟨i9, k⟩ := k
  refine z_iast dX0_openMeet_25 (by rw [zl_20]; exact i9) rfl ?_
  refine z_aload_n 0 dX0_openMeet_26 rfl rfl (Nat.le_of_ble_eq_true rfl) rfl ?_
  refine z_iconst dX0_openMeet_27 rfl ?_
  refine z_putZ 0 gX0_59 (Or.inr rfl) dX0_openMeet_28 rfl ?_
  exact z_return rfl dX0_openMeet_31 ⟨rfl, k⟩
theorem eX0_openMeet {G : zG} {d : Nat} {K : zH → Prop} {h : zH} (k : tX0_openMeet_0 G d K h) : zCv G (d + 1) mX0_openMeet [vr 0 17] h K := z_entry (by decide +kernel) (Nat.le_of_ble_eq_true rfl) rfl k
def tX0_closeMeet_0 (G : zG) (d : Nat) (K : zH → Prop) (h : zH) : Prop := zTv G (d + 1) mX0_closeMeet K 0 [some (vr 0 17), none] [] h
theorem bX0_closeMeet_0 {G : zG} {d : Nat} {K : zH → Prop} {h : zH} (k : ((0 : Int) ≤ (h 17 8) ∧ (h 17 8) < 13) ∧ ((0 : Int) ≤ (h 17 8) ∧ (h 17 8) < 13) ∧ zCv G d mX3_combine [vr 3 (h 17 7), vr 3 (h 18 (h 17 8)), vr 3 (h 19 (h 17 8)), vi 14] h (fun h5 => ((0 : Int) ≤ (h5 17 8) ∧ (h5 17 8) < 13) ∧ ((0 : Int) ≤ (h5 17 8) ∧ (h5 17 8) < 13) ∧ K (zup (zup h5 18 (h5 17 8) (h5 17 7)) 17 7 (h5 18 (h5 17 8))))) : tX0_closeMeet_0 G d K h := by
  unfold tX0_closeMeet_0
  refine z_aload_n 0 dX0_closeMeet_0 rfl rfl (Nat.le_of_ble_eq_true rfl) rfl ?_
  refine z_getR 0 3 (x := (h 17 7)) fX0_37 rfl dX0_closeMeet_1 rfl rfl ?_
  refine z_w (fun w1 => ?_)
  refine z_aload_n 0 dX0_closeMeet_4 rfl rfl (Nat.le_of_ble_eq_true rfl) rfl ?_
  refine z_getF 0 16 (x := 18) fX0_13 rfl dX0_closeMeet_5 rfl rfl ?_
  refine z_aload_n 0 dX0_closeMeet_8 rfl rfl (Nat.le_of_ble_eq_true rfl) rfl ?_
  refine z_getI 0 (x := (h 17 8)) fX0_50 rfl dX0_closeMeet_9 rfl rfl ?_
  obtain ⟨i9, k⟩ := k
  refine z_aald16 (x := (h 18 (h 17 8))) dX0_closeMeet_12 (by rw [zl_18]; exact i9) rfl rfl ?_
  refine z_w (fun w2 => ?_)
  refine z_aload_n 0 dX0_closeMeet_13 rfl rfl (Nat.le_of_ble_eq_true rfl) rfl ?_
  refine z_getF 0 16 (x := 19) fX0_17 rfl dX0_closeMeet_14 rfl rfl ?_
  refine z_aload_n 0 dX0_closeMeet_17 rfl rfl (Nat.le_of_ble_eq_true rfl) rfl ?_
  refine z_getI 0 (x := (h 17 8)) fX0_50 rfl dX0_closeMeet_18 rfl rfl ?_
  obtain ⟨i9, k⟩ := k
  refine z_aald16 (x := (h 19 (h 17 8))) dX0_closeMeet_21 (by rw [zl_19]; exact i9) rfl rfl ?_
  refine z_w (fun w3 => ?_)
  refine z_bipush dX0_closeMeet_22 rfl rfl ?_
  refine z_callVv vX3_combine kX0_101 dX0_closeMeet_24 rfl (zRo_d d) (as := [vr 3 (h 18 (h 17 8)), vr 3 (h 19 (h 17 8)), vi 14]) (rest := []) (Nat.le_of_ble_eq_true rfl) rfl rfl (zCv_mono (fun h5 k => ?_) k)
  refine z_aload_n 0 dX0_closeMeet_27 rfl rfl (Nat.le_of_ble_eq_true rfl) rfl ?_
  refine z_getF 0 16 (x := 18) fX0_13 rfl dX0_closeMeet_28 rfl rfl ?_
  refine z_aload_n 0 dX0_closeMeet_31 rfl rfl (Nat.le_of_ble_eq_true rfl) rfl ?_
  refine z_getI 0 (x := (h5 17 8)) fX0_50 rfl dX0_closeMeet_32 rfl rfl ?_
  obtain ⟨i9, k⟩ := k
  refine z_aald16 (x := (h5 18 (h5 17 8))) dX0_closeMeet_35 (by rw [zl_18]; exact i9) rfl rfl ?_
  refine z_w (fun w6 => ?_)
  refine z_astore_n 1 dX0_closeMeet_36 rfl (Nat.le_of_ble_eq_true rfl) (Nat.le_of_ble_eq_true rfl) (L' := [some (vr 0 17), some (vr 3 (h5 18 (h5 17 8)))]) rfl rfl ?_
  refine z_aload_n 0 dX0_closeMeet_37 rfl rfl (Nat.le_of_ble_eq_true rfl) rfl ?_
  refine z_getF 0 16 (x := 18) fX0_13 rfl dX0_closeMeet_38 rfl rfl ?_
  refine z_aload_n 0 dX0_closeMeet_41 rfl rfl (Nat.le_of_ble_eq_true rfl) rfl ?_
  refine z_getI 0 (x := (h5 17 8)) fX0_50 rfl dX0_closeMeet_42 rfl rfl ?_
  refine z_aload_n 0 dX0_closeMeet_45 rfl rfl (Nat.le_of_ble_eq_true rfl) rfl ?_
  refine z_getR 0 3 (x := (h5 17 7)) fX0_37 rfl dX0_closeMeet_46 rfl rfl ?_
  refine z_w (fun w7 => ?_)
  obtain ⟨i9, k⟩ := k
  refine z_aast16 dX0_closeMeet_49 (by rw [zl_18]; exact i9) rfl ?_
  refine z_aload_n 0 dX0_closeMeet_50 rfl rfl (Nat.le_of_ble_eq_true rfl) rfl ?_
  refine z_aload_n 1 dX0_closeMeet_51 rfl rfl (Nat.le_of_ble_eq_true rfl) rfl ?_
  refine z_putR 0 3 gX0_37 rfl (by decide) dX0_closeMeet_52 rfl ?_
  exact z_return rfl dX0_closeMeet_55 ⟨rfl, k⟩
theorem eX0_closeMeet {G : zG} {d : Nat} {K : zH → Prop} {h : zH} (k : tX0_closeMeet_0 G d K h) : zCv G (d + 1) mX0_closeMeet [vr 0 17] h K := z_entry (by decide +kernel) (Nat.le_of_ble_eq_true rfl) rfl k
def tX0_closePart_0 (G : zG) (d : Nat) (K : zH → Prop) (l1 : Int) (h : zH) : Prop := zTv G (d + 1) mX0_closePart K 0 [some (vr 0 17), some (vr 3 l1), none, none] [] h
theorem bX0_closePart_0 {G : zG} {d : Nat} {K : zH → Prop} {l1 : Int} {h : zH} (k : ((0 : Int) ≤ (h 17 8) ∧ (h 17 8) < 13) ∧ ((0 : Int) ≤ (h 17 8) ∧ (h 17 8) < 13) ∧ (0 ≤ (h 21 (h 17 8)) ∧ (h 21 (h 17 8)) < 2147483648) ∧ (¬ ((h 21 (h 17 8)) % 2) = 1 → ((0 : Int) ≤ (h 17 8) ∧ (h 17 8) < 13) ∧ zCv G d mX3_combine [vr 3 (h 17 7), vr 3 (h 19 (h 17 8)), vr 3 l1, vi (h 20 (h 17 8))] h (fun h4 => ((0 : Int) ≤ (h4 17 8) ∧ (h4 17 8) < 13) ∧ ((0 : Int) ≤ (h4 17 8) ∧ (h4 17 8) < 13) ∧ ((0 : Int) ≤ (h4 17 8) ∧ (h4 17 8) < 13) ∧ ((0 : Int) ≤ (h4 17 8) ∧ (h4 17 8) < 13) ∧ K (zup (zup (zup (zup (zup h4 19 (h4 17 8) (h4 17 7)) 17 7 (h4 19 (h4 17 8))) 17 9 ((h4 17 9) - (h4 21 (h4 17 8)))) 21 (h4 17 8) 0) 17 10 0))) ∧ (((h 21 (h 17 8)) % 2) = 1 → ((0 : Int) ≤ (h 17 8) ∧ (h 17 8) < 13) ∧ zCv G d mX3_combine [vr 3 (h 17 7), vr 3 (h 19 (h 17 8)), vr 3 l1, vi (zior (zishl (ziand (h 20 (h 17 8)) 3) 2) (zishr (h 20 (h 17 8)) 2))] h (fun h10 => ((0 : Int) ≤ (h10 17 8) ∧ (h10 17 8) < 13) ∧ ((0 : Int) ≤ (h10 17 8) ∧ (h10 17 8) < 13) ∧ ((0 : Int) ≤ (h10 17 8) ∧ (h10 17 8) < 13) ∧ ((0 : Int) ≤ (h10 17 8) ∧ (h10 17 8) < 13) ∧ K (zup (zup (zup (zup (zup h10 19 (h10 17 8) (h10 17 7)) 17 7 (h10 19 (h10 17 8))) 17 9 ((h10 17 9) - (h10 21 (h10 17 8)))) 21 (h10 17 8) 0) 17 10 0)))) : tX0_closePart_0 G d K l1 h := by
  unfold tX0_closePart_0
  refine z_aload_n 0 dX0_closePart_0 rfl rfl (Nat.le_of_ble_eq_true rfl) rfl ?_
  refine z_getF 0 13 (x := 20) fX0_20 rfl dX0_closePart_1 rfl rfl ?_
  refine z_aload_n 0 dX0_closePart_4 rfl rfl (Nat.le_of_ble_eq_true rfl) rfl ?_
  refine z_getI 0 (x := (h 17 8)) fX0_50 rfl dX0_closePart_5 rfl rfl ?_
  obtain ⟨i9, k⟩ := k
  refine z_iald (x := (h 20 (h 17 8))) dX0_closePart_8 (by rw [zl_20]; exact i9) rfl rfl ?_
  refine z_istore_n 2 dX0_closePart_9 rfl (Nat.le_of_ble_eq_true rfl) (L' := [some (vr 0 17), some (vr 3 l1), some (vi (h 20 (h 17 8))), none]) rfl rfl ?_
  refine z_aload_n 0 dX0_closePart_10 rfl rfl (Nat.le_of_ble_eq_true rfl) rfl ?_
  refine z_getF 0 13 (x := 21) fX0_24 rfl dX0_closePart_11 rfl rfl ?_
  refine z_aload_n 0 dX0_closePart_14 rfl rfl (Nat.le_of_ble_eq_true rfl) rfl ?_
  refine z_getI 0 (x := (h 17 8)) fX0_50 rfl dX0_closePart_15 rfl rfl ?_
  obtain ⟨i9, k⟩ := k
  refine z_iald (x := (h 21 (h 17 8))) dX0_closePart_18 (by rw [zl_21]; exact i9) rfl rfl ?_
  refine z_iconst dX0_closePart_19 rfl ?_
  obtain ⟨i9, k⟩ := k
  refine z_irem dX0_closePart_20 ⟨i9.1, i9.2, by decide, by decide⟩ rfl ?_
  refine z_iconst dX0_closePart_21 rfl ?_
  obtain ⟨ka, kb⟩ := k
  refine z_icmp_ne (tgt := 35) dX0_closePart_22 rfl (zR_mod _ (by decide)) ⟨by decide, by decide⟩ rfl ⟨fun q => ?_, fun q => ?_⟩
  · have k := ka q
    refine z_aload_n 0 dX0_closePart_35 rfl rfl (Nat.le_of_ble_eq_true rfl) rfl ?_
    refine z_getR 0 3 (x := (h 17 7)) fX0_37 rfl dX0_closePart_36 rfl rfl ?_
    refine z_w (fun w1 => ?_)
    refine z_aload_n 0 dX0_closePart_39 rfl rfl (Nat.le_of_ble_eq_true rfl) rfl ?_
    refine z_getF 0 16 (x := 19) fX0_17 rfl dX0_closePart_40 rfl rfl ?_
    refine z_aload_n 0 dX0_closePart_43 rfl rfl (Nat.le_of_ble_eq_true rfl) rfl ?_
    refine z_getI 0 (x := (h 17 8)) fX0_50 rfl dX0_closePart_44 rfl rfl ?_
    obtain ⟨i9, k⟩ := k
    refine z_aald16 (x := (h 19 (h 17 8))) dX0_closePart_47 (by rw [zl_19]; exact i9) rfl rfl ?_
    refine z_w (fun w2 => ?_)
    refine z_aload_n 1 dX0_closePart_48 rfl rfl (Nat.le_of_ble_eq_true rfl) rfl ?_
    refine z_iload_n 2 dX0_closePart_49 rfl rfl rfl ?_
    refine z_callVv vX3_combine kX0_101 dX0_closePart_50 rfl (zRo_d d) (as := [vr 3 (h 19 (h 17 8)), vr 3 l1, vi (h 20 (h 17 8))]) (rest := []) (Nat.le_of_ble_eq_true rfl) rfl rfl (zCv_mono (fun h4 k => ?_) k)
    refine z_aload_n 0 dX0_closePart_53 rfl rfl (Nat.le_of_ble_eq_true rfl) rfl ?_
    refine z_getF 0 16 (x := 19) fX0_17 rfl dX0_closePart_54 rfl rfl ?_
    refine z_aload_n 0 dX0_closePart_57 rfl rfl (Nat.le_of_ble_eq_true rfl) rfl ?_
    refine z_getI 0 (x := (h4 17 8)) fX0_50 rfl dX0_closePart_58 rfl rfl ?_
    obtain ⟨i9, k⟩ := k
    refine z_aald16 (x := (h4 19 (h4 17 8))) dX0_closePart_61 (by rw [zl_19]; exact i9) rfl rfl ?_
    refine z_w (fun w5 => ?_)
    refine z_astore_n 3 dX0_closePart_62 rfl (Nat.le_of_ble_eq_true rfl) (Nat.le_of_ble_eq_true rfl) (L' := [some (vr 0 17), some (vr 3 l1), some (vi (h 20 (h 17 8))), some (vr 3 (h4 19 (h4 17 8)))]) rfl rfl ?_
    refine z_aload_n 0 dX0_closePart_63 rfl rfl (Nat.le_of_ble_eq_true rfl) rfl ?_
    refine z_getF 0 16 (x := 19) fX0_17 rfl dX0_closePart_64 rfl rfl ?_
    refine z_aload_n 0 dX0_closePart_67 rfl rfl (Nat.le_of_ble_eq_true rfl) rfl ?_
    refine z_getI 0 (x := (h4 17 8)) fX0_50 rfl dX0_closePart_68 rfl rfl ?_
    refine z_aload_n 0 dX0_closePart_71 rfl rfl (Nat.le_of_ble_eq_true rfl) rfl ?_
    refine z_getR 0 3 (x := (h4 17 7)) fX0_37 rfl dX0_closePart_72 rfl rfl ?_
    refine z_w (fun w6 => ?_)
    obtain ⟨i9, k⟩ := k
    refine z_aast16 dX0_closePart_75 (by rw [zl_19]; exact i9) rfl ?_
    refine z_aload_n 0 dX0_closePart_76 rfl rfl (Nat.le_of_ble_eq_true rfl) rfl ?_
    refine z_aload_n 3 dX0_closePart_77 rfl rfl (Nat.le_of_ble_eq_true rfl) rfl ?_
    refine z_putR 0 3 gX0_37 rfl (by decide) dX0_closePart_78 rfl ?_
    refine z_aload_n 0 dX0_closePart_81 rfl rfl (Nat.le_of_ble_eq_true rfl) rfl ?_
    refine z_dup dX0_closePart_82 (fun q => by cases q) rfl ?_
    refine z_getI 0 (x := (h4 17 9)) fX0_53 rfl dX0_closePart_83 (by simp [zup]) rfl ?_
    refine z_aload_n 0 dX0_closePart_86 rfl rfl (Nat.le_of_ble_eq_true rfl) rfl ?_
    refine z_getF 0 13 (x := 21) fX0_24 rfl dX0_closePart_87 rfl rfl ?_
    refine z_aload_n 0 dX0_closePart_90 rfl rfl (Nat.le_of_ble_eq_true rfl) rfl ?_
    refine z_getI 0 (x := (h4 17 8)) fX0_50 rfl dX0_closePart_91 (by simp [zup]) rfl ?_
    obtain ⟨i9, k⟩ := k
    refine z_iald (x := (h4 21 (h4 17 8))) dX0_closePart_94 (by rw [zl_21]; exact i9) (by simp [zup]) rfl ?_
    refine z_isub dX0_closePart_95 rfl ?_
    refine z_putI 0 gX0_53 dX0_closePart_96 rfl ?_
    refine z_aload_n 0 dX0_closePart_99 rfl rfl (Nat.le_of_ble_eq_true rfl) rfl ?_
    refine z_getF 0 13 (x := 21) fX0_24 rfl dX0_closePart_100 rfl rfl ?_
    refine z_aload_n 0 dX0_closePart_103 rfl rfl (Nat.le_of_ble_eq_true rfl) rfl ?_
    refine z_getI 0 (x := (h4 17 8)) fX0_50 rfl dX0_closePart_104 (by simp [zup]) rfl ?_
    refine z_iconst dX0_closePart_107 rfl ?_
    obtain ⟨i9, k⟩ := k
    refine z_iast dX0_closePart_108 (by rw [zl_21]; exact i9) rfl ?_
    refine z_aload_n 0 dX0_closePart_109 rfl rfl (Nat.le_of_ble_eq_true rfl) rfl ?_
    refine z_iconst dX0_closePart_110 rfl ?_
    refine z_putZ 0 gX0_59 (Or.inl rfl) dX0_closePart_111 rfl ?_
    exact z_return rfl dX0_closePart_114 ⟨rfl, k⟩
  · have k := kb q
    refine z_iload_n 2 dX0_closePart_25 rfl rfl rfl ?_
    refine z_iconst dX0_closePart_26 rfl ?_
    refine z_iand dX0_closePart_27 rfl ?_
    refine z_iconst dX0_closePart_28 rfl ?_
    refine z_ishl dX0_closePart_29 rfl ?_
    refine z_iload_n 2 dX0_closePart_30 rfl rfl rfl ?_
    refine z_iconst dX0_closePart_31 rfl ?_
    refine z_ishr dX0_closePart_32 rfl ?_
    refine z_ior dX0_closePart_33 rfl ?_
    refine z_istore_n 2 dX0_closePart_34 rfl (Nat.le_of_ble_eq_true rfl) (L' := [some (vr 0 17), some (vr 3 l1), some (vi (zior (zishl (ziand (h 20 (h 17 8)) 3) 2) (zishr (h 20 (h 17 8)) 2))), none]) rfl rfl ?_
    refine z_aload_n 0 dX0_closePart_35 rfl rfl (Nat.le_of_ble_eq_true rfl) rfl ?_
    refine z_getR 0 3 (x := (h 17 7)) fX0_37 rfl dX0_closePart_36 rfl rfl ?_
    refine z_w (fun w7 => ?_)
    refine z_aload_n 0 dX0_closePart_39 rfl rfl (Nat.le_of_ble_eq_true rfl) rfl ?_
    refine z_getF 0 16 (x := 19) fX0_17 rfl dX0_closePart_40 rfl rfl ?_
    refine z_aload_n 0 dX0_closePart_43 rfl rfl (Nat.le_of_ble_eq_true rfl) rfl ?_
    refine z_getI 0 (x := (h 17 8)) fX0_50 rfl dX0_closePart_44 rfl rfl ?_
    obtain ⟨i9, k⟩ := k
    refine z_aald16 (x := (h 19 (h 17 8))) dX0_closePart_47 (by rw [zl_19]; exact i9) rfl rfl ?_
    refine z_w (fun w8 => ?_)
    refine z_aload_n 1 dX0_closePart_48 rfl rfl (Nat.le_of_ble_eq_true rfl) rfl ?_
    refine z_iload_n 2 dX0_closePart_49 rfl rfl rfl ?_
    refine z_callVv vX3_combine kX0_101 dX0_closePart_50 rfl (zRo_d d) (as := [vr 3 (h 19 (h 17 8)), vr 3 l1, vi (zior (zishl (ziand (h 20 (h 17 8)) 3) 2) (zishr (h 20 (h 17 8)) 2))]) (rest := []) (Nat.le_of_ble_eq_true rfl) rfl rfl (zCv_mono (fun h10 k => ?_) k)
    refine z_aload_n 0 dX0_closePart_53 rfl rfl (Nat.le_of_ble_eq_true rfl) rfl ?_
    refine z_getF 0 16 (x := 19) fX0_17 rfl dX0_closePart_54 rfl rfl ?_
    refine z_aload_n 0 dX0_closePart_57 rfl rfl (Nat.le_of_ble_eq_true rfl) rfl ?_
    refine z_getI 0 (x := (h10 17 8)) fX0_50 rfl dX0_closePart_58 rfl rfl ?_
    obtain ⟨i9, k⟩ := k
    refine z_aald16 (x := (h10 19 (h10 17 8))) dX0_closePart_61 (by rw [zl_19]; exact i9) rfl rfl ?_
    refine z_w (fun w11 => ?_)
    refine z_astore_n 3 dX0_closePart_62 rfl (Nat.le_of_ble_eq_true rfl) (Nat.le_of_ble_eq_true rfl) (L' := [some (vr 0 17), some (vr 3 l1), some (vi (zior (zishl (ziand (h 20 (h 17 8)) 3) 2) (zishr (h 20 (h 17 8)) 2))), some (vr 3 (h10 19 (h10 17 8)))]) rfl rfl ?_
    refine z_aload_n 0 dX0_closePart_63 rfl rfl (Nat.le_of_ble_eq_true rfl) rfl ?_
    refine z_getF 0 16 (x := 19) fX0_17 rfl dX0_closePart_64 rfl rfl ?_
    refine z_aload_n 0 dX0_closePart_67 rfl rfl (Nat.le_of_ble_eq_true rfl) rfl ?_
    refine z_getI 0 (x := (h10 17 8)) fX0_50 rfl dX0_closePart_68 rfl rfl ?_
    refine z_aload_n 0 dX0_closePart_71 rfl rfl (Nat.le_of_ble_eq_true rfl) rfl ?_
    refine z_getR 0 3 (x := (h10 17 7)) fX0_37 rfl dX0_closePart_72 rfl rfl ?_
    refine z_w (fun w12 => ?_)
    obtain ⟨i9, k⟩ := k
    refine z_aast16 dX0_closePart_75 (by rw [zl_19]; exact i9) rfl ?_
    refine z_aload_n 0 dX0_closePart_76 rfl rfl (Nat.le_of_ble_eq_true rfl) rfl ?_
    refine z_aload_n 3 dX0_closePart_77 rfl rfl (Nat.le_of_ble_eq_true rfl) rfl ?_
    refine z_putR 0 3 gX0_37 rfl (by decide) dX0_closePart_78 rfl ?_
    refine z_aload_n 0 dX0_closePart_81 rfl rfl (Nat.le_of_ble_eq_true rfl) rfl ?_
    refine z_dup dX0_closePart_82 (fun q => by cases q) rfl ?_
    refine z_getI 0 (x := (h10 17 9)) fX0_53 rfl dX0_closePart_83 (by simp [zup]) rfl ?_
    refine z_aload_n 0 dX0_closePart_86 rfl rfl (Nat.le_of_ble_eq_true rfl) rfl ?_
    refine z_getF 0 13 (x := 21) fX0_24 rfl dX0_closePart_87 rfl rfl ?_
    refine z_aload_n 0 dX0_closePart_90 rfl rfl (Nat.le_of_ble_eq_true rfl) rfl ?_
    refine z_getI 0 (x := (h10 17 8)) fX0_50 rfl dX0_closePart_91 (by simp [zup]) rfl ?_
    obtain ⟨i9, k⟩ := k
    refine z_iald (x := (h10 21 (h10 17 8))) dX0_closePart_94 (by rw [zl_21]; exact i9) (by simp [zup]) rfl ?_
    refine z_isub dX0_closePart_95 rfl ?_
    refine z_putI 0 gX0_53 dX0_closePart_96 rfl ?_
    refine z_aload_n 0 dX0_closePart_99 rfl rfl (Nat.le_of_ble_eq_true rfl) rfl ?_
    refine z_getF 0 13 (x := 21) fX0_24 rfl dX0_closePart_100 rfl rfl ?_
    refine z_aload_n 0 dX0_closePart_103 rfl rfl (Nat.le_of_ble_eq_true rfl) rfl ?_
    refine z_getI 0 (x := (h10 17 8)) fX0_50 rfl dX0_closePart_104 (by simp [zup]) rfl ?_
    refine z_iconst dX0_closePart_107 rfl ?_
    obtain ⟨i9, k⟩ := k
    refine z_iast dX0_closePart_108 (by rw [zl_21]; exact i9) rfl ?_
    refine z_aload_n 0 dX0_closePart_109 rfl rfl (Nat.le_of_ble_eq_true rfl) rfl ?_
    refine z_iconst dX0_closePart_110 rfl ?_
    refine z_putZ 0 gX0_59 (Or.inl rfl) dX0_closePart_111 rfl ?_
    exact z_return rfl dX0_closePart_114 ⟨rfl, k⟩
theorem eX0_closePart {G : zG} {d : Nat} {K : zH → Prop} {l1 : Int} {h : zH} (k : tX0_closePart_0 G d K l1 h) : zCv G (d + 1) mX0_closePart [vr 0 17, vr 3 l1] h K := z_entry (by decide +kernel) (Nat.le_of_ble_eq_true rfl) rfl k
def tX0_readPart_0 (G : zG) (d : Nat) (K : Bool → zH → Prop) (l1 : Int) (h : zH) : Prop := zTb G (d + 1) mX0_readPart K 0 [some (vr 0 17), some (vr 9 l1), none] [] h
theorem bX0_readPart_0 {G : zG} {d : Nat} {K : Bool → zH → Prop} {l1 : Int} {h : zH} (k : zR (h 13 5) ∧ (¬ (h 13 5) = 33 → zR (h 13 5) ∧ (¬ (h 13 5) = 40 → zR (h 13 5) ∧ (¬ (h 13 5) = 91 → zCb G d mX0_readName [vr 0 17, vr 9 l1] h (fun x1 h2 => (x1 = true → zCv G d mX0_closePart [vr 0 17, vr 3 (h2 17 6)] h2 (fun h5 => K true h5)) ∧ (x1 = false → K false h2))) ∧ ((h 13 5) = 91 → zCb G d mX0_readRanges [vr 0 17] h (fun x6 h7 => (x6 = true → zCv G d mX0_closePart [vr 0 17, vr 3 (h7 17 6)] h7 (fun h10 => K true h10)) ∧ (x6 = false → K false h7)))) ∧ ((h 13 5) = 40 → zR (h 17 9) ∧ (12 ≤ (h 17 9) → zCb G d mX10_fail [vr 10 13, vi 6] h (fun x11 h12 => K x11 h12)) ∧ (¬ 12 ≤ (h 17 9) → zR ((h 17 8) + 1) ∧ (((h 17 8) + 1) < 13 → zCv G d mX10_step [vr 10 13] (zup h 17 9 ((h 17 9) + 1)) (fun h14 => zCv G d mX0_openLevel [vr 0 17] (zup h14 17 8 ((h14 17 8) + 1)) (fun h16 => K true h16))) ∧ (¬ ((h 17 8) + 1) < 13 → zCb G d mX10_fail [vr 10 13, vi 6] h (fun x17 h18 => K x17 h18))))) ∧ ((h 13 5) = 33 → zR (h 17 9) ∧ (12 ≤ (h 17 9) → zCb G d mX10_fail [vr 10 13, vi 6] h (fun x19 h20 => K x19 h20)) ∧ (¬ 12 ≤ (h 17 9) → zR ((h 17 8) + 1) ∧ (((h 17 8) + 1) < 13 → zCv G d mX10_step [vr 10 13] (zup h 17 9 ((h 17 9) + 1)) (fun h22 => ((0 : Int) ≤ (h22 17 8) ∧ (h22 17 8) < 13) ∧ ((0 : Int) ≤ (h22 17 8) ∧ (h22 17 8) < 13) ∧ K true (zup h22 21 (h22 17 8) ((h22 21 (h22 17 8)) + 1)))) ∧ (¬ ((h 17 8) + 1) < 13 → zCb G d mX10_fail [vr 10 13, vi 6] h (fun x23 h24 => K x23 h24))))) : tX0_readPart_0 G d K l1 h := by
  unfold tX0_readPart_0
  refine z_aload_n 0 dX0_readPart_0 rfl rfl (Nat.le_of_ble_eq_true rfl) rfl ?_
  refine z_getF 0 10 (x := 13) fX0_40 rfl dX0_readPart_1 rfl rfl ?_
  refine z_getI 10 (x := (h 13 5)) fX0_105 rfl dX0_readPart_4 rfl rfl ?_
  refine z_bipush dX0_readPart_7 rfl rfl ?_
  obtain ⟨r1, ka, kb⟩ := k
  refine z_icmp_ne (tgt := 16) dX0_readPart_9 rfl r1 ⟨by decide, by decide⟩ rfl ⟨fun q => ?_, fun q => ?_⟩
  · have k := ka q
    refine z_iconst dX0_readPart_16 rfl ?_
    refine z_istore_n 2 dX0_readPart_17 rfl (Nat.le_of_ble_eq_true rfl) (L' := [some (vr 0 17), some (vr 9 l1), some (vi 0)]) rfl rfl ?_
    refine z_iload_n 2 dX0_readPart_18 rfl rfl rfl ?_
    refine z_if_ne (tgt := 34) dX0_readPart_19 rfl ⟨by decide, by decide⟩ rfl ⟨fun q => absurd q (by decide), fun _ => ?_⟩
    refine z_aload_n 0 dX0_readPart_22 rfl rfl (Nat.le_of_ble_eq_true rfl) rfl ?_
    refine z_getF 0 10 (x := 13) fX0_40 rfl dX0_readPart_23 rfl rfl ?_
    refine z_getI 10 (x := (h 13 5)) fX0_105 rfl dX0_readPart_26 rfl rfl ?_
    refine z_bipush dX0_readPart_29 rfl rfl ?_
    obtain ⟨r1, ka, kb⟩ := k
    refine z_icmp_ne (tgt := 117) dX0_readPart_31 rfl r1 ⟨by decide, by decide⟩ rfl ⟨fun q => ?_, fun q => ?_⟩
    · have k := ka q
      refine z_aload_n 0 dX0_readPart_117 rfl rfl (Nat.le_of_ble_eq_true rfl) rfl ?_
      refine z_getF 0 10 (x := 13) fX0_40 rfl dX0_readPart_118 rfl rfl ?_
      refine z_getI 10 (x := (h 13 5)) fX0_105 rfl dX0_readPart_121 rfl rfl ?_
      refine z_bipush dX0_readPart_124 rfl rfl ?_
      obtain ⟨r1, ka, kb⟩ := k
      refine z_icmp_ne (tgt := 139) dX0_readPart_126 rfl r1 ⟨by decide, by decide⟩ rfl ⟨fun q => ?_, fun q => ?_⟩
      · have k := ka q
        refine z_aload_n 0 dX0_readPart_139 rfl rfl (Nat.le_of_ble_eq_true rfl) rfl ?_
        refine z_aload_n 1 dX0_readPart_140 rfl rfl (Nat.le_of_ble_eq_true rfl) rfl ?_
        refine z_callVb vX0_readName kX0_114 dX0_readPart_141 rfl (zRo_d d) (as := [vr 9 l1]) (rest := []) (Nat.le_of_ble_eq_true rfl) rfl rfl (zCb_mono (fun x1 h2 k => ?_) k)
        obtain ⟨ka, kb⟩ := k
        refine z_ifb_ne (tgt := 149) dX0_readPart_144 rfl rfl ⟨fun q => ?_, fun q => ?_⟩
        · have k := ka q
          refine z_aload_n 0 dX0_readPart_149 rfl rfl (Nat.le_of_ble_eq_true rfl) rfl ?_
          refine z_aload_n 0 dX0_readPart_150 rfl rfl (Nat.le_of_ble_eq_true rfl) rfl ?_
          refine z_getR 0 3 (x := (h2 17 6)) fX0_34 rfl dX0_readPart_151 rfl rfl ?_
          refine z_w (fun w3 => ?_)
          refine z_callVv vX0_closePart kX0_117 dX0_readPart_154 rfl (zRo_d d) (as := [vr 3 (h2 17 6)]) (rest := []) (Nat.le_of_ble_eq_true rfl) rfl rfl (zCv_mono (fun h5 k => ?_) k)
          refine z_iconst dX0_readPart_157 rfl ?_
          exact z_zreturn rfl (Or.inr rfl) dX0_readPart_158 ⟨true, rfl, k⟩
        · have k := kb q
          refine z_iconst dX0_readPart_147 rfl ?_
          exact z_zreturn rfl (Or.inl rfl) dX0_readPart_148 ⟨false, rfl, k⟩
      · have k := kb q
        refine z_aload_n 0 dX0_readPart_129 rfl rfl (Nat.le_of_ble_eq_true rfl) rfl ?_
        refine z_callVb vX0_readRanges kX0_111 dX0_readPart_130 rfl (zRo_d d) (as := []) (rest := []) (Nat.le_of_ble_eq_true rfl) rfl rfl (zCb_mono (fun x6 h7 k => ?_) k)
        obtain ⟨ka, kb⟩ := k
        refine z_ifb_ne (tgt := 149) dX0_readPart_133 rfl rfl ⟨fun q => ?_, fun q => ?_⟩
        · have k := ka q
          refine z_aload_n 0 dX0_readPart_149 rfl rfl (Nat.le_of_ble_eq_true rfl) rfl ?_
          refine z_aload_n 0 dX0_readPart_150 rfl rfl (Nat.le_of_ble_eq_true rfl) rfl ?_
          refine z_getR 0 3 (x := (h7 17 6)) fX0_34 rfl dX0_readPart_151 rfl rfl ?_
          refine z_w (fun w8 => ?_)
          refine z_callVv vX0_closePart kX0_117 dX0_readPart_154 rfl (zRo_d d) (as := [vr 3 (h7 17 6)]) (rest := []) (Nat.le_of_ble_eq_true rfl) rfl rfl (zCv_mono (fun h10 k => ?_) k)
          refine z_iconst dX0_readPart_157 rfl ?_
          exact z_zreturn rfl (Or.inr rfl) dX0_readPart_158 ⟨true, rfl, k⟩
        · have k := kb q
          refine z_goto (tgt := 147) dX0_readPart_136 rfl ?_
          refine z_iconst dX0_readPart_147 rfl ?_
          exact z_zreturn rfl (Or.inl rfl) dX0_readPart_148 ⟨false, rfl, k⟩
    · have k := kb q
      refine z_aload_n 0 dX0_readPart_34 rfl rfl (Nat.le_of_ble_eq_true rfl) rfl ?_
      refine z_getI 0 (x := (h 17 9)) fX0_53 rfl dX0_readPart_35 rfl rfl ?_
      refine z_bipush dX0_readPart_38 rfl rfl ?_
      obtain ⟨r1, ka, kb⟩ := k
      refine z_icmp_ge (tgt := 54) dX0_readPart_40 rfl r1 ⟨by decide, by decide⟩ rfl ⟨fun q => ?_, fun q => ?_⟩
      · have k := ka q
        refine z_aload_n 0 dX0_readPart_54 rfl rfl (Nat.le_of_ble_eq_true rfl) rfl ?_
        refine z_getF 0 10 (x := 13) fX0_40 rfl dX0_readPart_55 rfl rfl ?_
        refine z_bipush dX0_readPart_58 rfl rfl ?_
        refine z_callVb vX10_fail kX0_71 dX0_readPart_60 rfl (zRo_d d) (as := [vi 6]) (rest := []) (Nat.le_of_ble_eq_true rfl) rfl rfl (zCb_mono (fun x11 h12 k => ?_) k)
        exact z_zreturn rfl (bi_01 _) dX0_readPart_63 ⟨_, rfl, k⟩
      · have k := kb q
        refine z_aload_n 0 dX0_readPart_43 rfl rfl (Nat.le_of_ble_eq_true rfl) rfl ?_
        refine z_getI 0 (x := (h 17 8)) fX0_50 rfl dX0_readPart_44 rfl rfl ?_
        refine z_iconst dX0_readPart_47 rfl ?_
        refine z_iadd dX0_readPart_48 rfl ?_
        refine z_bipush dX0_readPart_49 rfl rfl ?_
        obtain ⟨r1, ka, kb⟩ := k
        refine z_icmp_lt (tgt := 64) dX0_readPart_51 rfl r1 ⟨by decide, by decide⟩ rfl ⟨fun q => ?_, fun q => ?_⟩
        · have k := ka q
          refine z_aload_n 0 dX0_readPart_64 rfl rfl (Nat.le_of_ble_eq_true rfl) rfl ?_
          refine z_dup dX0_readPart_65 (fun q => by cases q) rfl ?_
          refine z_getI 0 (x := (h 17 9)) fX0_53 rfl dX0_readPart_66 rfl rfl ?_
          refine z_iconst dX0_readPart_69 rfl ?_
          refine z_iadd dX0_readPart_70 rfl ?_
          refine z_putI 0 gX0_53 dX0_readPart_71 rfl ?_
          refine z_aload_n 0 dX0_readPart_74 rfl rfl (Nat.le_of_ble_eq_true rfl) rfl ?_
          refine z_getF 0 10 (x := 13) fX0_40 rfl dX0_readPart_75 rfl rfl ?_
          refine z_callVv vX10_step kX0_108 dX0_readPart_78 rfl (zRo_d d) (as := []) (rest := []) (Nat.le_of_ble_eq_true rfl) rfl rfl (zCv_mono (fun h14 k => ?_) k)
          refine z_iload_n 2 dX0_readPart_81 rfl rfl rfl ?_
          refine z_if_eq (tgt := 101) dX0_readPart_82 rfl ⟨by decide, by decide⟩ rfl ⟨fun _ => ?_, fun q => absurd q (by decide)⟩
          refine z_aload_n 0 dX0_readPart_101 rfl rfl (Nat.le_of_ble_eq_true rfl) rfl ?_
          refine z_dup dX0_readPart_102 (fun q => by cases q) rfl ?_
          refine z_getI 0 (x := (h14 17 8)) fX0_50 rfl dX0_readPart_103 rfl rfl ?_
          refine z_iconst dX0_readPart_106 rfl ?_
          refine z_iadd dX0_readPart_107 rfl ?_
          refine z_putI 0 gX0_50 dX0_readPart_108 rfl ?_
          refine z_aload_n 0 dX0_readPart_111 rfl rfl (Nat.le_of_ble_eq_true rfl) rfl ?_
          refine z_callVv vX0_openLevel kX0_56 dX0_readPart_112 rfl (zRo_d d) (as := []) (rest := []) (Nat.le_of_ble_eq_true rfl) rfl rfl (zCv_mono (fun h16 k => ?_) k)
          refine z_iconst dX0_readPart_115 rfl ?_
          exact z_zreturn rfl (Or.inr rfl) dX0_readPart_116 ⟨true, rfl, k⟩
        · have k := kb q
          refine z_aload_n 0 dX0_readPart_54 rfl rfl (Nat.le_of_ble_eq_true rfl) rfl ?_
          refine z_getF 0 10 (x := 13) fX0_40 rfl dX0_readPart_55 rfl rfl ?_
          refine z_bipush dX0_readPart_58 rfl rfl ?_
          refine z_callVb vX10_fail kX0_71 dX0_readPart_60 rfl (zRo_d d) (as := [vi 6]) (rest := []) (Nat.le_of_ble_eq_true rfl) rfl rfl (zCb_mono (fun x17 h18 k => ?_) k)
          exact z_zreturn rfl (bi_01 _) dX0_readPart_63 ⟨_, rfl, k⟩
  · have k := kb q
    refine z_iconst dX0_readPart_12 rfl ?_
    refine z_goto (tgt := 17) dX0_readPart_13 rfl ?_
    refine z_istore_n 2 dX0_readPart_17 rfl (Nat.le_of_ble_eq_true rfl) (L' := [some (vr 0 17), some (vr 9 l1), some (vi 1)]) rfl rfl ?_
    refine z_iload_n 2 dX0_readPart_18 rfl rfl rfl ?_
    refine z_if_ne (tgt := 34) dX0_readPart_19 rfl ⟨by decide, by decide⟩ rfl ⟨fun _ => ?_, fun q => absurd q (by decide)⟩
    refine z_aload_n 0 dX0_readPart_34 rfl rfl (Nat.le_of_ble_eq_true rfl) rfl ?_
    refine z_getI 0 (x := (h 17 9)) fX0_53 rfl dX0_readPart_35 rfl rfl ?_
    refine z_bipush dX0_readPart_38 rfl rfl ?_
    obtain ⟨r1, ka, kb⟩ := k
    refine z_icmp_ge (tgt := 54) dX0_readPart_40 rfl r1 ⟨by decide, by decide⟩ rfl ⟨fun q => ?_, fun q => ?_⟩
    · have k := ka q
      refine z_aload_n 0 dX0_readPart_54 rfl rfl (Nat.le_of_ble_eq_true rfl) rfl ?_
      refine z_getF 0 10 (x := 13) fX0_40 rfl dX0_readPart_55 rfl rfl ?_
      refine z_bipush dX0_readPart_58 rfl rfl ?_
      refine z_callVb vX10_fail kX0_71 dX0_readPart_60 rfl (zRo_d d) (as := [vi 6]) (rest := []) (Nat.le_of_ble_eq_true rfl) rfl rfl (zCb_mono (fun x19 h20 k => ?_) k)
      exact z_zreturn rfl (bi_01 _) dX0_readPart_63 ⟨_, rfl, k⟩
    · have k := kb q
      refine z_aload_n 0 dX0_readPart_43 rfl rfl (Nat.le_of_ble_eq_true rfl) rfl ?_
      refine z_getI 0 (x := (h 17 8)) fX0_50 rfl dX0_readPart_44 rfl rfl ?_
      refine z_iconst dX0_readPart_47 rfl ?_
      refine z_iadd dX0_readPart_48 rfl ?_
      refine z_bipush dX0_readPart_49 rfl rfl ?_
      obtain ⟨r1, ka, kb⟩ := k
      refine z_icmp_lt (tgt := 64) dX0_readPart_51 rfl r1 ⟨by decide, by decide⟩ rfl ⟨fun q => ?_, fun q => ?_⟩
      · have k := ka q
        refine z_aload_n 0 dX0_readPart_64 rfl rfl (Nat.le_of_ble_eq_true rfl) rfl ?_
        refine z_dup dX0_readPart_65 (fun q => by cases q) rfl ?_
        refine z_getI 0 (x := (h 17 9)) fX0_53 rfl dX0_readPart_66 rfl rfl ?_
        refine z_iconst dX0_readPart_69 rfl ?_
        refine z_iadd dX0_readPart_70 rfl ?_
        refine z_putI 0 gX0_53 dX0_readPart_71 rfl ?_
        refine z_aload_n 0 dX0_readPart_74 rfl rfl (Nat.le_of_ble_eq_true rfl) rfl ?_
        refine z_getF 0 10 (x := 13) fX0_40 rfl dX0_readPart_75 rfl rfl ?_
        refine z_callVv vX10_step kX0_108 dX0_readPart_78 rfl (zRo_d d) (as := []) (rest := []) (Nat.le_of_ble_eq_true rfl) rfl rfl (zCv_mono (fun h22 k => ?_) k)
        refine z_iload_n 2 dX0_readPart_81 rfl rfl rfl ?_
        refine z_if_eq (tgt := 101) dX0_readPart_82 rfl ⟨by decide, by decide⟩ rfl ⟨fun q => absurd q (by decide), fun _ => ?_⟩
        refine z_aload_n 0 dX0_readPart_85 rfl rfl (Nat.le_of_ble_eq_true rfl) rfl ?_
        refine z_getF 0 13 (x := 21) fX0_24 rfl dX0_readPart_86 rfl rfl ?_
        refine z_aload_n 0 dX0_readPart_89 rfl rfl (Nat.le_of_ble_eq_true rfl) rfl ?_
        refine z_getI 0 (x := (h22 17 8)) fX0_50 rfl dX0_readPart_90 rfl rfl ?_
        refine z_dup2 dX0_readPart_93 (fun q => by cases q) (fun q => by cases q) rfl ?_
        obtain ⟨i9, k⟩ := k
        refine z_iald (x := (h22 21 (h22 17 8))) dX0_readPart_94 (by rw [zl_21]; exact i9) rfl rfl ?_
        refine z_iconst dX0_readPart_95 rfl ?_
        refine z_iadd dX0_readPart_96 rfl ?_
        obtain ⟨i9, k⟩ := k
        refine z_iast dX0_readPart_97 (by rw [zl_21]; exact i9) rfl ?_
        refine z_goto (tgt := 115) dX0_readPart_98 rfl ?_
        refine z_iconst dX0_readPart_115 rfl ?_
        exact z_zreturn rfl (Or.inr rfl) dX0_readPart_116 ⟨true, rfl, k⟩
      · have k := kb q
        refine z_aload_n 0 dX0_readPart_54 rfl rfl (Nat.le_of_ble_eq_true rfl) rfl ?_
        refine z_getF 0 10 (x := 13) fX0_40 rfl dX0_readPart_55 rfl rfl ?_
        refine z_bipush dX0_readPart_58 rfl rfl ?_
        refine z_callVb vX10_fail kX0_71 dX0_readPart_60 rfl (zRo_d d) (as := [vi 6]) (rest := []) (Nat.le_of_ble_eq_true rfl) rfl rfl (zCb_mono (fun x23 h24 k => ?_) k)
        exact z_zreturn rfl (bi_01 _) dX0_readPart_63 ⟨_, rfl, k⟩
theorem eX0_readPart {G : zG} {d : Nat} {K : Bool → zH → Prop} {l1 : Int} {h : zH} (k : tX0_readPart_0 G d K l1 h) : zCb G (d + 1) mX0_readPart [vr 0 17, vr 9 l1] h K := z_entry (by decide +kernel) (Nat.le_of_ble_eq_true rfl) rfl k
