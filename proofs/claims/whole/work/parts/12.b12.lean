def tX12_longest_0 (G : zG) (d : Nat) (K : Int → zH → Prop) (l1 : Int) (h : zH) : Prop := zTi G (d + 1) mX12_longest K 0 [some (vr 12 466), some (vi l1), none, none, none, none, none, none, none, none, none] [] h
def tX12_longest_42 (G : zG) (d : Nat) (K : Int → zH → Prop) (l1 : Int) (l2 : Int) (l3 : Int) (l5 : Int) (l6 : Int) (h : zH) : Prop := zTi G (d + 1) mX12_longest K 42 [some (vr 12 466), some (vi l1), some (vi l2), some (vl l3), none, some (vi l5), some (vi l6), none, none, none, none] [] h
def tX12_longest_56 (G : zG) (d : Nat) (K : Int → zH → Prop) (l1 : Int) (l2 : Int) (l3 : Int) (l5 : Int) (l6 : Int) (l7 : Int) (l9 : Int) (h : zH) : Prop := zTi G (d + 1) mX12_longest K 56 [some (vr 12 466), some (vi l1), some (vi l2), some (vl l3), none, some (vi l5), some (vi l6), some (vl l7), none, some (vi l9), none] [] h
def tX12_longest_103 (G : zG) (d : Nat) (K : Int → zH → Prop) (l1 : Int) (l2 : Int) (l3 : Int) (l5 : Int) (l6 : Int) (l7 : Int) (l9 : Int) (l10 : Int) (h : zH) : Prop := zTi G (d + 1) mX12_longest K 103 [some (vr 12 466), some (vi l1), some (vi l2), some (vl l3), none, some (vi l5), some (vi l6), some (vl l7), none, some (vi l9), some (vi l10)] [] h
theorem bX12_longest_0 {G : zG} {d : Nat} {K : Int → zH → Prop} {l1 : Int} {h : zH} (k : zCb G d mX12_isMachine [vr 12 466, vi l1] (zup h 466 0 0) (fun x1 h2 => (x1 = true → zCb G d mX12_gathers [vr 12 466, vi l1, vi 0] h2 (fun x3 h4 => tX12_longest_42 G d K l1 (h4 506 0) 1 (-2) 0 h4)) ∧ (x1 = false → zCi G d mX12_refused [vr 12 466, vi 1] h2 (fun x5 h6 => K x5 h6)))) : tX12_longest_0 G d K l1 h := by
  unfold tX12_longest_0
  refine z_aload_n 0 dX12_longest_0 rfl rfl (Nat.le_of_ble_eq_true rfl) rfl ?_
  refine z_iconst dX12_longest_1 rfl ?_
  refine z_putI 12 gX12_190 dX12_longest_2 rfl ?_
  refine z_aload_n 0 dX12_longest_5 rfl rfl (Nat.le_of_ble_eq_true rfl) rfl ?_
  refine z_iload_n 1 dX12_longest_6 rfl rfl rfl ?_
  refine z_callVb vX12_isMachine kX12_561 dX12_longest_7 rfl (zRo_d d) (as := [vi l1]) (rest := []) (Nat.le_of_ble_eq_true rfl) rfl rfl (zCb_mono (fun x1 h2 k => ?_) k)
  obtain ⟨ka, kb⟩ := k
  refine z_ifb_ne (tgt := 19) dX12_longest_10 rfl rfl ⟨fun q => ?_, fun q => ?_⟩
  · have k := ka q
    refine z_aload_n 0 dX12_longest_19 rfl rfl (Nat.le_of_ble_eq_true rfl) rfl ?_
    refine z_iload_n 1 dX12_longest_20 rfl rfl rfl ?_
    refine z_iconst dX12_longest_21 rfl ?_
    refine z_callVb vX12_gathers kX12_521 dX12_longest_22 rfl (zRo_d d) (as := [vi l1, vi 0]) (rest := []) (Nat.le_of_ble_eq_true rfl) rfl rfl (zCb_mono (fun x3 h4 k => ?_) k)
    refine z_pop dX12_longest_25 (fun q => by cases q) rfl ?_
    refine z_aload_n 0 dX12_longest_26 rfl rfl (Nat.le_of_ble_eq_true rfl) rfl ?_
    refine z_getF 12 13 (x := 506) fX12_133 rfl dX12_longest_27 rfl rfl ?_
    refine z_iconst dX12_longest_30 rfl ?_
    refine z_iald (x := (h4 506 0)) dX12_longest_31 (by rw [zl_506]; decide) rfl rfl ?_
    refine z_istore_n 2 dX12_longest_32 rfl (Nat.le_of_ble_eq_true rfl) (L' := [some (vr 12 466), some (vi l1), some (vi (h4 506 0)), none, none, none, none, none, none, none, none]) rfl rfl ?_
    refine z_lconst (x := 1) dX12_longest_33 rfl rfl ?_
    refine z_lstore_n 3 dX12_longest_34 rfl (Nat.le_of_ble_eq_true rfl) (L' := [some (vr 12 466), some (vi l1), some (vi (h4 506 0)), some (vl 1), none, none, none, none, none, none, none]) rfl rfl ?_
    refine z_bipush dX12_longest_35 rfl rfl ?_
    refine z_istore dX12_longest_37 (Nat.le_of_ble_eq_true rfl) (L' := [some (vr 12 466), some (vi l1), some (vi (h4 506 0)), some (vl 1), none, some (vi (-2)), none, none, none, none, none]) rfl rfl ?_
    refine z_iconst dX12_longest_39 rfl ?_
    refine z_istore dX12_longest_40 (Nat.le_of_ble_eq_true rfl) (L' := [some (vr 12 466), some (vi l1), some (vi (h4 506 0)), some (vl 1), none, some (vi (-2)), some (vi 0), none, none, none, none]) rfl rfl ?_
    exact z_sub (L' := [some (vr 12 466), some (vi l1), some (vi (h4 506 0)), some (vl 1), none, some (vi (-2)), some (vi 0), none, none, none, none]) (And.intro rfl (And.intro rfl (And.intro rfl (And.intro rfl (And.intro rfl (And.intro rfl trivial)))))) k
  · have k := kb q
    refine z_aload_n 0 dX12_longest_13 rfl rfl (Nat.le_of_ble_eq_true rfl) rfl ?_
    refine z_iconst dX12_longest_14 rfl ?_
    refine z_callVi vX12_refused kX12_426 dX12_longest_15 rfl (zRo_d d) (as := [vi 1]) (rest := []) (Nat.le_of_ble_eq_true rfl) rfl rfl (zCi_mono (fun x5 h6 k => ?_) k)
    exact z_ireturn rfl dX12_longest_18 ⟨_, rfl, k⟩
theorem bX12_longest_42 {G : zG} {d : Nat} {K : Int → zH → Prop} {l1 : Int} {l2 : Int} {l3 : Int} {l5 : Int} {l6 : Int} {h : zH} (k : zR l6 ∧ zR (2 * l2) ∧ ((2 * l2) ≤ l6 → zCi G d mX12_good [vr 12 466, vi l5] h (fun x1 h2 => K x1 h2)) ∧ (¬ (2 * l2) ≤ l6 → tX12_longest_56 G d K l1 l2 l3 l5 l6 0 0 h)) : tX12_longest_42 G d K l1 l2 l3 l5 l6 h := by
  unfold tX12_longest_42
  refine z_iload dX12_longest_42 rfl rfl ?_
  refine z_iconst dX12_longest_44 rfl ?_
  refine z_iload_n 2 dX12_longest_45 rfl rfl rfl ?_
  refine z_imul dX12_longest_46 rfl ?_
  obtain ⟨r1, r2, ka, kb⟩ := k
  refine z_icmp_ge (tgt := 165) dX12_longest_47 rfl r1 r2 rfl ⟨fun q => ?_, fun q => ?_⟩
  · have k := ka q
    refine z_aload_n 0 dX12_longest_165 rfl rfl (Nat.le_of_ble_eq_true rfl) rfl ?_
    refine z_iload dX12_longest_166 rfl rfl ?_
    refine z_callVi vX12_good kX12_196 dX12_longest_168 rfl (zRo_d d) (as := [vi l5]) (rest := []) (Nat.le_of_ble_eq_true rfl) rfl rfl (zCi_mono (fun x1 h2 k => ?_) k)
    exact z_ireturn rfl dX12_longest_171 ⟨_, rfl, k⟩
  · have k := kb q
    refine z_lconst (x := 0) dX12_longest_50 rfl rfl ?_
    refine z_lstore dX12_longest_51 (Nat.le_of_ble_eq_true rfl) (L' := [some (vr 12 466), some (vi l1), some (vi l2), some (vl l3), none, some (vi l5), some (vi l6), some (vl 0), none, none, none]) rfl rfl ?_
    refine z_iconst dX12_longest_53 rfl ?_
    refine z_istore dX12_longest_54 (Nat.le_of_ble_eq_true rfl) (L' := [some (vr 12 466), some (vi l1), some (vi l2), some (vl l3), none, some (vi l5), some (vi l6), some (vl 0), none, some (vi 0), none]) rfl rfl ?_
    exact z_sub (L' := [some (vr 12 466), some (vi l1), some (vi l2), some (vl l3), none, some (vi l5), some (vi l6), some (vl 0), none, some (vi 0), none]) (And.intro rfl (And.intro rfl (And.intro rfl (And.intro rfl (And.intro rfl (And.intro rfl (And.intro rfl (And.intro rfl trivial)))))))) k
theorem bX12_longest_56 {G : zG} {d : Nat} {K : Int → zH → Prop} {l1 : Int} {l2 : Int} {l3 : Int} {l5 : Int} {l6 : Int} {l7 : Int} {l9 : Int} {h : zH} (k : zR l9 ∧ zR l2 ∧ (l2 ≤ l9 → zR l5 ∧ (¬ l5 = (-3) → tX12_longest_42 G d K l1 l2 l7 l5 (l6 + 1) h) ∧ (l5 = (-3) → zCi G d mX12_good [vr 12 466, vi (-3)] h (fun x1 h2 => K x1 h2))) ∧ (¬ l2 ≤ l9 → zCb G d mX12_bit [vl l3, vi l9] h (fun x3 h4 => (x3 = true → zCb G d mX12_sheafEnds [vr 12 466, vi l1, vi 0, vi l9] h4 (fun x5 h6 => (x5 = false → tX12_longest_103 G d K l1 l2 l3 l5 l6 l7 l9 0 h6) ∧ (x5 = true → zR l6 ∧ zR l2 ∧ (l2 ≤ l6 → tX12_longest_103 G d K l1 l2 l3 (-3) l6 l7 l9 0 h6) ∧ (¬ l2 ≤ l6 → tX12_longest_103 G d K l1 l2 l3 l6 l6 l7 l9 0 h6)))) ∧ (x3 = false → tX12_longest_56 G d K l1 l2 l3 l5 l6 l7 (l9 + 1) h4)))) : tX12_longest_56 G d K l1 l2 l3 l5 l6 l7 l9 h := by
  unfold tX12_longest_56
  refine z_iload dX12_longest_56 rfl rfl ?_
  refine z_iload_n 2 dX12_longest_58 rfl rfl rfl ?_
  obtain ⟨r1, r2, ka, kb⟩ := k
  refine z_icmp_ge (tgt := 142) dX12_longest_59 rfl r1 r2 rfl ⟨fun q => ?_, fun q => ?_⟩
  · have k := ka q
    refine z_iload dX12_longest_142 rfl rfl ?_
    refine z_bipush dX12_longest_144 rfl rfl ?_
    obtain ⟨r1, ka, kb⟩ := k
    refine z_icmp_ne (tgt := 156) dX12_longest_146 rfl r1 ⟨by decide, by decide⟩ rfl ⟨fun q => ?_, fun q => ?_⟩
    · have k := ka q
      refine z_lload dX12_longest_156 rfl rfl ?_
      refine z_lstore_n 3 dX12_longest_158 rfl (Nat.le_of_ble_eq_true rfl) (L' := [some (vr 12 466), some (vi l1), some (vi l2), some (vl l7), none, some (vi l5), some (vi l6), some (vl l7), none, some (vi l9), none]) rfl rfl ?_
      refine z_iinc dX12_longest_159 rfl (Nat.le_of_ble_eq_true rfl) (L' := [some (vr 12 466), some (vi l1), some (vi l2), some (vl l7), none, some (vi l5), some (vi (l6 + 1)), some (vl l7), none, some (vi l9), none]) rfl rfl ?_
      refine z_goto (tgt := 42) dX12_longest_162 rfl ?_
      exact z_sub (L' := [some (vr 12 466), some (vi l1), some (vi l2), some (vl l7), none, some (vi l5), some (vi (l6 + 1)), none, none, none, none]) (And.intro rfl (And.intro rfl (And.intro rfl (And.intro rfl (And.intro rfl (And.intro rfl trivial)))))) k
    · have k := kb q
      refine z_aload_n 0 dX12_longest_149 rfl rfl (Nat.le_of_ble_eq_true rfl) rfl ?_
      refine z_bipush dX12_longest_150 rfl rfl ?_
      refine z_callVi vX12_good kX12_196 dX12_longest_152 rfl (zRo_d d) (as := [vi (-3)]) (rest := []) (Nat.le_of_ble_eq_true rfl) rfl rfl (zCi_mono (fun x1 h2 k => ?_) k)
      exact z_ireturn rfl dX12_longest_155 ⟨_, rfl, k⟩
  · have k := kb q
    refine z_lload_n 3 dX12_longest_62 rfl rfl rfl ?_
    refine z_iload dX12_longest_63 rfl rfl ?_
    refine z_callSb sX12_bit kX12_366 dX12_longest_65 rfl (zRo_d d) (as := [vl l3, vi l9]) (rest := []) (Nat.le_of_ble_eq_true rfl) rfl rfl (zCb_mono (fun x3 h4 k => ?_) k)
    obtain ⟨ka, kb⟩ := k
    refine z_ifb_ne (tgt := 74) dX12_longest_68 rfl rfl ⟨fun q => ?_, fun q => ?_⟩
    · have k := ka q
      refine z_aload_n 0 dX12_longest_74 rfl rfl (Nat.le_of_ble_eq_true rfl) rfl ?_
      refine z_iload_n 1 dX12_longest_75 rfl rfl rfl ?_
      refine z_iconst dX12_longest_76 rfl ?_
      refine z_iload dX12_longest_77 rfl rfl ?_
      refine z_callVb vX12_sheafEnds kX12_542 dX12_longest_79 rfl (zRo_d d) (as := [vi l1, vi 0, vi l9]) (rest := []) (Nat.le_of_ble_eq_true rfl) rfl rfl (zCb_mono (fun x5 h6 k => ?_) k)
      obtain ⟨ka, kb⟩ := k
      refine z_ifb_eq (tgt := 100) dX12_longest_82 rfl rfl ⟨fun q => ?_, fun q => ?_⟩
      · have k := ka q
        refine z_iconst dX12_longest_100 rfl ?_
        refine z_istore dX12_longest_101 (Nat.le_of_ble_eq_true rfl) (L' := [some (vr 12 466), some (vi l1), some (vi l2), some (vl l3), none, some (vi l5), some (vi l6), some (vl l7), none, some (vi l9), some (vi 0)]) rfl rfl ?_
        exact z_sub (L' := [some (vr 12 466), some (vi l1), some (vi l2), some (vl l3), none, some (vi l5), some (vi l6), some (vl l7), none, some (vi l9), some (vi 0)]) (And.intro rfl (And.intro rfl (And.intro rfl (And.intro rfl (And.intro rfl (And.intro rfl (And.intro rfl (And.intro rfl (And.intro rfl trivial))))))))) k
      · have k := kb q
        refine z_iload dX12_longest_85 rfl rfl ?_
        refine z_iload_n 2 dX12_longest_87 rfl rfl rfl ?_
        obtain ⟨r1, r2, ka, kb⟩ := k
        refine z_icmp_ge (tgt := 96) dX12_longest_88 rfl r1 r2 rfl ⟨fun q => ?_, fun q => ?_⟩
        · have k := ka q
          refine z_bipush dX12_longest_96 rfl rfl ?_
          refine z_istore dX12_longest_98 (Nat.le_of_ble_eq_true rfl) (L' := [some (vr 12 466), some (vi l1), some (vi l2), some (vl l3), none, some (vi (-3)), some (vi l6), some (vl l7), none, some (vi l9), none]) rfl rfl ?_
          refine z_iconst dX12_longest_100 rfl ?_
          refine z_istore dX12_longest_101 (Nat.le_of_ble_eq_true rfl) (L' := [some (vr 12 466), some (vi l1), some (vi l2), some (vl l3), none, some (vi (-3)), some (vi l6), some (vl l7), none, some (vi l9), some (vi 0)]) rfl rfl ?_
          exact z_sub (L' := [some (vr 12 466), some (vi l1), some (vi l2), some (vl l3), none, some (vi (-3)), some (vi l6), some (vl l7), none, some (vi l9), some (vi 0)]) (And.intro rfl (And.intro rfl (And.intro rfl (And.intro rfl (And.intro rfl (And.intro rfl (And.intro rfl (And.intro rfl (And.intro rfl trivial))))))))) k
        · have k := kb q
          refine z_iload dX12_longest_91 rfl rfl ?_
          refine z_goto (tgt := 98) dX12_longest_93 rfl ?_
          refine z_istore dX12_longest_98 (Nat.le_of_ble_eq_true rfl) (L' := [some (vr 12 466), some (vi l1), some (vi l2), some (vl l3), none, some (vi l6), some (vi l6), some (vl l7), none, some (vi l9), none]) rfl rfl ?_
          refine z_iconst dX12_longest_100 rfl ?_
          refine z_istore dX12_longest_101 (Nat.le_of_ble_eq_true rfl) (L' := [some (vr 12 466), some (vi l1), some (vi l2), some (vl l3), none, some (vi l6), some (vi l6), some (vl l7), none, some (vi l9), some (vi 0)]) rfl rfl ?_
          exact z_sub (L' := [some (vr 12 466), some (vi l1), some (vi l2), some (vl l3), none, some (vi l6), some (vi l6), some (vl l7), none, some (vi l9), some (vi 0)]) (And.intro rfl (And.intro rfl (And.intro rfl (And.intro rfl (And.intro rfl (And.intro rfl (And.intro rfl (And.intro rfl (And.intro rfl trivial))))))))) k
    · have k := kb q
      refine z_goto (tgt := 136) dX12_longest_71 rfl ?_
      refine z_iinc dX12_longest_136 rfl (Nat.le_of_ble_eq_true rfl) (L' := [some (vr 12 466), some (vi l1), some (vi l2), some (vl l3), none, some (vi l5), some (vi l6), some (vl l7), none, some (vi (l9 + 1)), none]) rfl rfl ?_
      refine z_goto (tgt := 56) dX12_longest_139 rfl ?_
      exact z_sub (L' := [some (vr 12 466), some (vi l1), some (vi l2), some (vl l3), none, some (vi l5), some (vi l6), some (vl l7), none, some (vi (l9 + 1)), none]) (And.intro rfl (And.intro rfl (And.intro rfl (And.intro rfl (And.intro rfl (And.intro rfl (And.intro rfl (And.intro rfl trivial)))))))) k
theorem bX12_longest_103 {G : zG} {d : Nat} {K : Int → zH → Prop} {l1 : Int} {l2 : Int} {l3 : Int} {l5 : Int} {l6 : Int} {l7 : Int} {l9 : Int} {l10 : Int} {h : zH} (k : ((0 : Int) ≤ l1 ∧ l1 < 14) ∧ zR l10 ∧ zR (h 496 l1) ∧ ((h 496 l1) ≤ l10 → tX12_longest_56 G d K l1 l2 l3 l5 l6 l7 (l9 + 1) h) ∧ (¬ (h 496 l1) ≤ l10 → zCi G d mX12_goesTo [vr 12 466, vi 0, vi l9, vi l10] h (fun x1 h2 => tX12_longest_103 G d K l1 l2 l3 l5 l6 (zlor l7 (zlshl 1 x1)) l9 (l10 + 1) h2))) : tX12_longest_103 G d K l1 l2 l3 l5 l6 l7 l9 l10 h := by
  unfold tX12_longest_103
  refine z_iload dX12_longest_103 rfl rfl ?_
  refine z_aload_n 0 dX12_longest_105 rfl rfl (Nat.le_of_ble_eq_true rfl) rfl ?_
  refine z_getF 12 13 (x := 496) fX12_103 rfl dX12_longest_106 rfl rfl ?_
  refine z_iload_n 1 dX12_longest_109 rfl rfl rfl ?_
  obtain ⟨i9, k⟩ := k
  refine z_iald (x := (h 496 l1)) dX12_longest_110 (by rw [zl_496]; exact i9) rfl rfl ?_
  obtain ⟨r1, r2, ka, kb⟩ := k
  refine z_icmp_ge (tgt := 136) dX12_longest_111 rfl r1 r2 rfl ⟨fun q => ?_, fun q => ?_⟩
  · have k := ka q
    refine z_iinc dX12_longest_136 rfl (Nat.le_of_ble_eq_true rfl) (L' := [some (vr 12 466), some (vi l1), some (vi l2), some (vl l3), none, some (vi l5), some (vi l6), some (vl l7), none, some (vi (l9 + 1)), some (vi l10)]) rfl rfl ?_
    refine z_goto (tgt := 56) dX12_longest_139 rfl ?_
    exact z_sub (L' := [some (vr 12 466), some (vi l1), some (vi l2), some (vl l3), none, some (vi l5), some (vi l6), some (vl l7), none, some (vi (l9 + 1)), none]) (And.intro rfl (And.intro rfl (And.intro rfl (And.intro rfl (And.intro rfl (And.intro rfl (And.intro rfl (And.intro rfl trivial)))))))) k
  · have k := kb q
    refine z_lload dX12_longest_114 rfl rfl ?_
    refine z_lconst (x := 1) dX12_longest_116 rfl rfl ?_
    refine z_aload_n 0 dX12_longest_117 rfl rfl (Nat.le_of_ble_eq_true rfl) rfl ?_
    refine z_iconst dX12_longest_118 rfl ?_
    refine z_iload dX12_longest_119 rfl rfl ?_
    refine z_iload dX12_longest_121 rfl rfl ?_
    refine z_callVi vX12_goesTo kX12_555 dX12_longest_123 rfl (zRo_d d) (as := [vi 0, vi l9, vi l10]) (rest := [vl 1, vl l7]) (Nat.le_of_ble_eq_true rfl) rfl rfl (zCi_mono (fun x1 h2 k => ?_) k)
    refine z_lshl dX12_longest_126 rfl ?_
    refine z_lor dX12_longest_127 rfl ?_
    refine z_lstore dX12_longest_128 (Nat.le_of_ble_eq_true rfl) (L' := [some (vr 12 466), some (vi l1), some (vi l2), some (vl l3), none, some (vi l5), some (vi l6), some (vl (zlor l7 (zlshl 1 x1))), none, some (vi l9), some (vi l10)]) rfl rfl ?_
    refine z_iinc dX12_longest_130 rfl (Nat.le_of_ble_eq_true rfl) (L' := [some (vr 12 466), some (vi l1), some (vi l2), some (vl l3), none, some (vi l5), some (vi l6), some (vl (zlor l7 (zlshl 1 x1))), none, some (vi l9), some (vi (l10 + 1))]) rfl rfl ?_
    refine z_goto (tgt := 103) dX12_longest_133 rfl ?_
    exact z_sub (L' := [some (vr 12 466), some (vi l1), some (vi l2), some (vl l3), none, some (vi l5), some (vi l6), some (vl (zlor l7 (zlshl 1 x1))), none, some (vi l9), some (vi (l10 + 1))]) (And.intro rfl (And.intro rfl (And.intro rfl (And.intro rfl (And.intro rfl (And.intro rfl (And.intro rfl (And.intro rfl (And.intro rfl trivial))))))))) k
theorem eX12_longest {G : zG} {d : Nat} {K : Int → zH → Prop} {l1 : Int} {h : zH} (k : tX12_longest_0 G d K l1 h) : zCi G (d + 1) mX12_longest [vr 12 466, vi l1] h K := z_entry (by decide +kernel) (Nat.le_of_ble_eq_true rfl) rfl k
def tX12_cutsBoth_0 (G : zG) (d : Nat) (K : zH → Prop) (l1 : Int) (l2 : Int) (h : zH) : Prop := zTv G (d + 1) mX12_cutsBoth K 0 [some (vr 12 466), some (vi l1), some (vi l2), none, none, none, none, none, none] [] h
def tX12_cutsBoth_10 (G : zG) (d : Nat) (K : zH → Prop) (l1 : Int) (l2 : Int) (l3 : Int) (l4 : Int) (h : zH) : Prop := zTv G (d + 1) mX12_cutsBoth K 10 [some (vr 12 466), some (vi l1), some (vi l2), some (vi l3), some (vi l4), none, none, none, none] [] h
theorem bX12_cutsBoth_0 {G : zG} {d : Nat} {K : zH → Prop} {l1 : Int} {l2 : Int} {h : zH} (k : tX12_cutsBoth_10 G d K l1 l2 0 0 (zup h 466 87 0)) : tX12_cutsBoth_0 G d K l1 l2 h := by
  unfold tX12_cutsBoth_0
  refine z_aload_n 0 dX12_cutsBoth_0 rfl rfl (Nat.le_of_ble_eq_true rfl) rfl ?_
  refine z_iconst dX12_cutsBoth_1 rfl ?_
  refine z_putI 12 gX12_647 dX12_cutsBoth_2 rfl ?_
  refine z_iconst dX12_cutsBoth_5 rfl ?_
  refine z_istore_n 3 dX12_cutsBoth_6 rfl (Nat.le_of_ble_eq_true rfl) (L' := [some (vr 12 466), some (vi l1), some (vi l2), some (vi 0), none, none, none, none, none]) rfl rfl ?_
  refine z_iconst dX12_cutsBoth_7 rfl ?_
  refine z_istore dX12_cutsBoth_8 (Nat.le_of_ble_eq_true rfl) (L' := [some (vr 12 466), some (vi l1), some (vi l2), some (vi 0), some (vi 0), none, none, none, none]) rfl rfl ?_
  exact z_sub (L' := [some (vr 12 466), some (vi l1), some (vi l2), some (vi 0), some (vi 0), none, none, none, none]) (And.intro rfl (And.intro rfl (And.intro rfl (And.intro rfl (And.intro rfl trivial))))) k
theorem bX12_cutsBoth_10 {G : zG} {d : Nat} {K : zH → Prop} {l1 : Int} {l2 : Int} {l3 : Int} {l4 : Int} {h : zH} (k : ((0 : Int) ≤ l1 ∧ l1 < 14) ∧ zR l3 ∧ zR (h 496 l1) ∧ ((h 496 l1) ≤ l3 → K h) ∧ (¬ (h 496 l1) ≤ l3 → ((0 : Int) ≤ l2 ∧ l2 < 14) ∧ zR l4 ∧ zR (h 496 l2) ∧ ((h 496 l2) ≤ l4 → K h) ∧ (¬ (h 496 l2) ≤ l4 → ((0 : Int) ≤ ((l1 * 128) + l3) ∧ ((l1 * 128) + l3) < 1792) ∧ ((0 : Int) ≤ ((l2 * 128) + l4) ∧ ((l2 * 128) + l4) < 1792) ∧ zR (h 497 ((l1 * 128) + l3)) ∧ zR (h 497 ((l2 * 128) + l4)) ∧ ((h 497 ((l1 * 128) + l3)) ≤ (h 497 ((l2 * 128) + l4)) → ((0 : Int) ≤ (h 466 87) ∧ (h 466 87) < 256) ∧ ((0 : Int) ≤ (h 466 87) ∧ (h 466 87) < 256) ∧ ((0 : Int) ≤ (h 466 87) ∧ (h 466 87) < 256) ∧ zCi G d mX12_blockEnd [vr 12 466, vi l1, vi l3] (zup (zup (zup (zup h 516 (h 466 87) (h 497 ((l2 * 128) + l4))) 517 (h 466 87) l3) 518 (h 466 87) l4) 466 87 ((h 466 87) + 1)) (fun x1 h2 => zCi G d mX12_blockEnd [vr 12 466, vi l2, vi l4] h2 (fun x3 h4 => zR x1 ∧ zR x3 ∧ (x3 < x1 → zR x3 ∧ zR x1 ∧ (x1 < x3 → tX12_cutsBoth_10 G d K l1 l2 l3 l4 h4) ∧ (¬ x1 < x3 → tX12_cutsBoth_10 G d K l1 l2 l3 (l4 + 1) h4)) ∧ (¬ x3 < x1 → zR x3 ∧ zR x1 ∧ (x1 < x3 → tX12_cutsBoth_10 G d K l1 l2 (l3 + 1) l4 h4) ∧ (¬ x1 < x3 → tX12_cutsBoth_10 G d K l1 l2 (l3 + 1) (l4 + 1) h4))))) ∧ (¬ (h 497 ((l1 * 128) + l3)) ≤ (h 497 ((l2 * 128) + l4)) → ((0 : Int) ≤ (h 466 87) ∧ (h 466 87) < 256) ∧ ((0 : Int) ≤ (h 466 87) ∧ (h 466 87) < 256) ∧ ((0 : Int) ≤ (h 466 87) ∧ (h 466 87) < 256) ∧ zCi G d mX12_blockEnd [vr 12 466, vi l1, vi l3] (zup (zup (zup (zup h 516 (h 466 87) (h 497 ((l1 * 128) + l3))) 517 (h 466 87) l3) 518 (h 466 87) l4) 466 87 ((h 466 87) + 1)) (fun x5 h6 => zCi G d mX12_blockEnd [vr 12 466, vi l2, vi l4] h6 (fun x7 h8 => zR x5 ∧ zR x7 ∧ (x7 < x5 → zR x7 ∧ zR x5 ∧ (x5 < x7 → tX12_cutsBoth_10 G d K l1 l2 l3 l4 h8) ∧ (¬ x5 < x7 → tX12_cutsBoth_10 G d K l1 l2 l3 (l4 + 1) h8)) ∧ (¬ x7 < x5 → zR x7 ∧ zR x5 ∧ (x5 < x7 → tX12_cutsBoth_10 G d K l1 l2 (l3 + 1) l4 h8) ∧ (¬ x5 < x7 → tX12_cutsBoth_10 G d K l1 l2 (l3 + 1) (l4 + 1) h8)))))))) : tX12_cutsBoth_10 G d K l1 l2 l3 l4 h := by
  unfold tX12_cutsBoth_10
  refine z_iload_n 3 dX12_cutsBoth_10 rfl rfl rfl ?_
  refine z_aload_n 0 dX12_cutsBoth_11 rfl rfl (Nat.le_of_ble_eq_true rfl) rfl ?_
  refine z_getF 12 13 (x := 496) fX12_103 rfl dX12_cutsBoth_12 rfl rfl ?_
  refine z_iload_n 1 dX12_cutsBoth_15 rfl rfl rfl ?_
  obtain ⟨i9, k⟩ := k
  refine z_iald (x := (h 496 l1)) dX12_cutsBoth_16 (by rw [zl_496]; exact i9) rfl rfl ?_
  obtain ⟨r1, r2, ka, kb⟩ := k
  refine z_icmp_ge (tgt := 154) dX12_cutsBoth_17 rfl r1 r2 rfl ⟨fun q => ?_, fun q => ?_⟩
  · have k := ka q
    exact z_return rfl dX12_cutsBoth_154 ⟨rfl, k⟩
  · have k := kb q
    refine z_iload dX12_cutsBoth_20 rfl rfl ?_
    refine z_aload_n 0 dX12_cutsBoth_22 rfl rfl (Nat.le_of_ble_eq_true rfl) rfl ?_
    refine z_getF 12 13 (x := 496) fX12_103 rfl dX12_cutsBoth_23 rfl rfl ?_
    refine z_iload_n 2 dX12_cutsBoth_26 rfl rfl rfl ?_
    obtain ⟨i9, k⟩ := k
    refine z_iald (x := (h 496 l2)) dX12_cutsBoth_27 (by rw [zl_496]; exact i9) rfl rfl ?_
    obtain ⟨r1, r2, ka, kb⟩ := k
    refine z_icmp_ge (tgt := 154) dX12_cutsBoth_28 rfl r1 r2 rfl ⟨fun q => ?_, fun q => ?_⟩
    · have k := ka q
      exact z_return rfl dX12_cutsBoth_154 ⟨rfl, k⟩
    · have k := kb q
      refine z_aload_n 0 dX12_cutsBoth_31 rfl rfl (Nat.le_of_ble_eq_true rfl) rfl ?_
      refine z_getF 12 13 (x := 497) fX12_106 rfl dX12_cutsBoth_32 rfl rfl ?_
      refine z_iload_n 1 dX12_cutsBoth_35 rfl rfl rfl ?_
      refine z_sipush dX12_cutsBoth_36 rfl rfl ?_
      refine z_imul dX12_cutsBoth_39 rfl ?_
      refine z_iload_n 3 dX12_cutsBoth_40 rfl rfl rfl ?_
      refine z_iadd dX12_cutsBoth_41 rfl ?_
      obtain ⟨i9, k⟩ := k
      refine z_iald (x := (h 497 ((l1 * 128) + l3))) dX12_cutsBoth_42 (by rw [zl_497]; exact i9) rfl rfl ?_
      refine z_istore dX12_cutsBoth_43 (Nat.le_of_ble_eq_true rfl) (L' := [some (vr 12 466), some (vi l1), some (vi l2), some (vi l3), some (vi l4), some (vi (h 497 ((l1 * 128) + l3))), none, none, none]) rfl rfl ?_
      refine z_aload_n 0 dX12_cutsBoth_45 rfl rfl (Nat.le_of_ble_eq_true rfl) rfl ?_
      refine z_getF 12 13 (x := 497) fX12_106 rfl dX12_cutsBoth_46 rfl rfl ?_
      refine z_iload_n 2 dX12_cutsBoth_49 rfl rfl rfl ?_
      refine z_sipush dX12_cutsBoth_50 rfl rfl ?_
      refine z_imul dX12_cutsBoth_53 rfl ?_
      refine z_iload dX12_cutsBoth_54 rfl rfl ?_
      refine z_iadd dX12_cutsBoth_56 rfl ?_
      obtain ⟨i9, k⟩ := k
      refine z_iald (x := (h 497 ((l2 * 128) + l4))) dX12_cutsBoth_57 (by rw [zl_497]; exact i9) rfl rfl ?_
      refine z_istore dX12_cutsBoth_58 (Nat.le_of_ble_eq_true rfl) (L' := [some (vr 12 466), some (vi l1), some (vi l2), some (vi l3), some (vi l4), some (vi (h 497 ((l1 * 128) + l3))), some (vi (h 497 ((l2 * 128) + l4))), none, none]) rfl rfl ?_
      refine z_aload_n 0 dX12_cutsBoth_60 rfl rfl (Nat.le_of_ble_eq_true rfl) rfl ?_
      refine z_getF 12 13 (x := 516) fX12_163 rfl dX12_cutsBoth_61 rfl rfl ?_
      refine z_aload_n 0 dX12_cutsBoth_64 rfl rfl (Nat.le_of_ble_eq_true rfl) rfl ?_
      refine z_getI 12 (x := (h 466 87)) fX12_647 rfl dX12_cutsBoth_65 rfl rfl ?_
      refine z_iload dX12_cutsBoth_68 rfl rfl ?_
      refine z_iload dX12_cutsBoth_70 rfl rfl ?_
      obtain ⟨r1, r2, ka, kb⟩ := k
      refine z_icmp_le (tgt := 80) dX12_cutsBoth_72 rfl r1 r2 rfl ⟨fun q => ?_, fun q => ?_⟩
      · have k := ka q
        refine z_iload dX12_cutsBoth_80 rfl rfl ?_
        obtain ⟨i9, k⟩ := k
        refine z_iast dX12_cutsBoth_82 (by rw [zl_516]; exact i9) rfl ?_
        refine z_aload_n 0 dX12_cutsBoth_83 rfl rfl (Nat.le_of_ble_eq_true rfl) rfl ?_
        refine z_getF 12 13 (x := 517) fX12_166 rfl dX12_cutsBoth_84 rfl rfl ?_
        refine z_aload_n 0 dX12_cutsBoth_87 rfl rfl (Nat.le_of_ble_eq_true rfl) rfl ?_
        refine z_getI 12 (x := (h 466 87)) fX12_647 rfl dX12_cutsBoth_88 (by simp [zup]) rfl ?_
        refine z_iload_n 3 dX12_cutsBoth_91 rfl rfl rfl ?_
        obtain ⟨i9, k⟩ := k
        refine z_iast dX12_cutsBoth_92 (by rw [zl_517]; exact i9) rfl ?_
        refine z_aload_n 0 dX12_cutsBoth_93 rfl rfl (Nat.le_of_ble_eq_true rfl) rfl ?_
        refine z_getF 12 13 (x := 518) fX12_169 rfl dX12_cutsBoth_94 rfl rfl ?_
        refine z_aload_n 0 dX12_cutsBoth_97 rfl rfl (Nat.le_of_ble_eq_true rfl) rfl ?_
        refine z_getI 12 (x := (h 466 87)) fX12_647 rfl dX12_cutsBoth_98 (by simp [zup]) rfl ?_
        refine z_iload dX12_cutsBoth_101 rfl rfl ?_
        obtain ⟨i9, k⟩ := k
        refine z_iast dX12_cutsBoth_103 (by rw [zl_518]; exact i9) rfl ?_
        refine z_aload_n 0 dX12_cutsBoth_104 rfl rfl (Nat.le_of_ble_eq_true rfl) rfl ?_
        refine z_dup dX12_cutsBoth_105 (fun q => by cases q) rfl ?_
        refine z_getI 12 (x := (h 466 87)) fX12_647 rfl dX12_cutsBoth_106 (by simp [zup]) rfl ?_
        refine z_iconst dX12_cutsBoth_109 rfl ?_
        refine z_iadd dX12_cutsBoth_110 rfl ?_
        refine z_putI 12 gX12_647 dX12_cutsBoth_111 rfl ?_
        refine z_aload_n 0 dX12_cutsBoth_114 rfl rfl (Nat.le_of_ble_eq_true rfl) rfl ?_
        refine z_iload_n 1 dX12_cutsBoth_115 rfl rfl rfl ?_
        refine z_iload_n 3 dX12_cutsBoth_116 rfl rfl rfl ?_
        refine z_callVi vX12_blockEnd kX12_571 dX12_cutsBoth_117 rfl (zRo_d d) (as := [vi l1, vi l3]) (rest := []) (Nat.le_of_ble_eq_true rfl) rfl rfl (zCi_mono (fun x1 h2 k => ?_) k)
        refine z_istore dX12_cutsBoth_120 (Nat.le_of_ble_eq_true rfl) (L' := [some (vr 12 466), some (vi l1), some (vi l2), some (vi l3), some (vi l4), some (vi (h 497 ((l1 * 128) + l3))), some (vi (h 497 ((l2 * 128) + l4))), some (vi x1), none]) rfl rfl ?_
        refine z_aload_n 0 dX12_cutsBoth_122 rfl rfl (Nat.le_of_ble_eq_true rfl) rfl ?_
        refine z_iload_n 2 dX12_cutsBoth_123 rfl rfl rfl ?_
        refine z_iload dX12_cutsBoth_124 rfl rfl ?_
        refine z_callVi vX12_blockEnd kX12_571 dX12_cutsBoth_126 rfl (zRo_d d) (as := [vi l2, vi l4]) (rest := []) (Nat.le_of_ble_eq_true rfl) rfl rfl (zCi_mono (fun x3 h4 k => ?_) k)
        refine z_istore dX12_cutsBoth_129 (Nat.le_of_ble_eq_true rfl) (L' := [some (vr 12 466), some (vi l1), some (vi l2), some (vi l3), some (vi l4), some (vi (h 497 ((l1 * 128) + l3))), some (vi (h 497 ((l2 * 128) + l4))), some (vi x1), some (vi x3)]) rfl rfl ?_
        refine z_iload dX12_cutsBoth_131 rfl rfl ?_
        refine z_iload dX12_cutsBoth_133 rfl rfl ?_
        obtain ⟨r1, r2, ka, kb⟩ := k
        refine z_icmp_gt (tgt := 141) dX12_cutsBoth_135 rfl r1 r2 rfl ⟨fun q => ?_, fun q => ?_⟩
        · have k := ka q
          refine z_iload dX12_cutsBoth_141 rfl rfl ?_
          refine z_iload dX12_cutsBoth_143 rfl rfl ?_
          obtain ⟨r1, r2, ka, kb⟩ := k
          refine z_icmp_gt (tgt := 151) dX12_cutsBoth_145 rfl r1 r2 rfl ⟨fun q => ?_, fun q => ?_⟩
          · have k := ka q
            refine z_goto (tgt := 10) dX12_cutsBoth_151 rfl ?_
            exact z_sub (L' := [some (vr 12 466), some (vi l1), some (vi l2), some (vi l3), some (vi l4), none, none, none, none]) (And.intro rfl (And.intro rfl (And.intro rfl (And.intro rfl (And.intro rfl trivial))))) k
          · have k := kb q
            refine z_iinc dX12_cutsBoth_148 rfl (Nat.le_of_ble_eq_true rfl) (L' := [some (vr 12 466), some (vi l1), some (vi l2), some (vi l3), some (vi (l4 + 1)), some (vi (h 497 ((l1 * 128) + l3))), some (vi (h 497 ((l2 * 128) + l4))), some (vi x1), some (vi x3)]) rfl rfl ?_
            refine z_goto (tgt := 10) dX12_cutsBoth_151 rfl ?_
            exact z_sub (L' := [some (vr 12 466), some (vi l1), some (vi l2), some (vi l3), some (vi (l4 + 1)), none, none, none, none]) (And.intro rfl (And.intro rfl (And.intro rfl (And.intro rfl (And.intro rfl trivial))))) k
        · have k := kb q
          refine z_iinc dX12_cutsBoth_138 rfl (Nat.le_of_ble_eq_true rfl) (L' := [some (vr 12 466), some (vi l1), some (vi l2), some (vi (l3 + 1)), some (vi l4), some (vi (h 497 ((l1 * 128) + l3))), some (vi (h 497 ((l2 * 128) + l4))), some (vi x1), some (vi x3)]) rfl rfl ?_
          refine z_iload dX12_cutsBoth_141 rfl rfl ?_
          refine z_iload dX12_cutsBoth_143 rfl rfl ?_
          obtain ⟨r1, r2, ka, kb⟩ := k
          refine z_icmp_gt (tgt := 151) dX12_cutsBoth_145 rfl r1 r2 rfl ⟨fun q => ?_, fun q => ?_⟩
          · have k := ka q
            refine z_goto (tgt := 10) dX12_cutsBoth_151 rfl ?_
            exact z_sub (L' := [some (vr 12 466), some (vi l1), some (vi l2), some (vi (l3 + 1)), some (vi l4), none, none, none, none]) (And.intro rfl (And.intro rfl (And.intro rfl (And.intro rfl (And.intro rfl trivial))))) k
          · have k := kb q
            refine z_iinc dX12_cutsBoth_148 rfl (Nat.le_of_ble_eq_true rfl) (L' := [some (vr 12 466), some (vi l1), some (vi l2), some (vi (l3 + 1)), some (vi (l4 + 1)), some (vi (h 497 ((l1 * 128) + l3))), some (vi (h 497 ((l2 * 128) + l4))), some (vi x1), some (vi x3)]) rfl rfl ?_
            refine z_goto (tgt := 10) dX12_cutsBoth_151 rfl ?_
            exact z_sub (L' := [some (vr 12 466), some (vi l1), some (vi l2), some (vi (l3 + 1)), some (vi (l4 + 1)), none, none, none, none]) (And.intro rfl (And.intro rfl (And.intro rfl (And.intro rfl (And.intro rfl trivial))))) k
      · have k := kb q
        refine z_iload dX12_cutsBoth_75 rfl rfl ?_
        refine z_goto (tgt := 82) dX12_cutsBoth_77 rfl ?_
        obtain ⟨i9, k⟩ := k
        refine z_iast dX12_cutsBoth_82 (by rw [zl_516]; exact i9) rfl ?_
        refine z_aload_n 0 dX12_cutsBoth_83 rfl rfl (Nat.le_of_ble_eq_true rfl) rfl ?_
        refine z_getF 12 13 (x := 517) fX12_166 rfl dX12_cutsBoth_84 rfl rfl ?_
        refine z_aload_n 0 dX12_cutsBoth_87 rfl rfl (Nat.le_of_ble_eq_true rfl) rfl ?_
        refine z_getI 12 (x := (h 466 87)) fX12_647 rfl dX12_cutsBoth_88 (by simp [zup]) rfl ?_
        refine z_iload_n 3 dX12_cutsBoth_91 rfl rfl rfl ?_
        obtain ⟨i9, k⟩ := k
        refine z_iast dX12_cutsBoth_92 (by rw [zl_517]; exact i9) rfl ?_
        refine z_aload_n 0 dX12_cutsBoth_93 rfl rfl (Nat.le_of_ble_eq_true rfl) rfl ?_
        refine z_getF 12 13 (x := 518) fX12_169 rfl dX12_cutsBoth_94 rfl rfl ?_
        refine z_aload_n 0 dX12_cutsBoth_97 rfl rfl (Nat.le_of_ble_eq_true rfl) rfl ?_
        refine z_getI 12 (x := (h 466 87)) fX12_647 rfl dX12_cutsBoth_98 (by simp [zup]) rfl ?_
        refine z_iload dX12_cutsBoth_101 rfl rfl ?_
        obtain ⟨i9, k⟩ := k
        refine z_iast dX12_cutsBoth_103 (by rw [zl_518]; exact i9) rfl ?_
        refine z_aload_n 0 dX12_cutsBoth_104 rfl rfl (Nat.le_of_ble_eq_true rfl) rfl ?_
        refine z_dup dX12_cutsBoth_105 (fun q => by cases q) rfl ?_
        refine z_getI 12 (x := (h 466 87)) fX12_647 rfl dX12_cutsBoth_106 (by simp [zup]) rfl ?_
        refine z_iconst dX12_cutsBoth_109 rfl ?_
        refine z_iadd dX12_cutsBoth_110 rfl ?_
        refine z_putI 12 gX12_647 dX12_cutsBoth_111 rfl ?_
        refine z_aload_n 0 dX12_cutsBoth_114 rfl rfl (Nat.le_of_ble_eq_true rfl) rfl ?_
        refine z_iload_n 1 dX12_cutsBoth_115 rfl rfl rfl ?_
        refine z_iload_n 3 dX12_cutsBoth_116 rfl rfl rfl ?_
        refine z_callVi vX12_blockEnd kX12_571 dX12_cutsBoth_117 rfl (zRo_d d) (as := [vi l1, vi l3]) (rest := []) (Nat.le_of_ble_eq_true rfl) rfl rfl (zCi_mono (fun x5 h6 k => ?_) k)
        refine z_istore dX12_cutsBoth_120 (Nat.le_of_ble_eq_true rfl) (L' := [some (vr 12 466), some (vi l1), some (vi l2), some (vi l3), some (vi l4), some (vi (h 497 ((l1 * 128) + l3))), some (vi (h 497 ((l2 * 128) + l4))), some (vi x5), none]) rfl rfl ?_
        refine z_aload_n 0 dX12_cutsBoth_122 rfl rfl (Nat.le_of_ble_eq_true rfl) rfl ?_
        refine z_iload_n 2 dX12_cutsBoth_123 rfl rfl rfl ?_
        refine z_iload dX12_cutsBoth_124 rfl rfl ?_
        refine z_callVi vX12_blockEnd kX12_571 dX12_cutsBoth_126 rfl (zRo_d d) (as := [vi l2, vi l4]) (rest := []) (Nat.le_of_ble_eq_true rfl) rfl rfl (zCi_mono (fun x7 h8 k => ?_) k)
        refine z_istore dX12_cutsBoth_129 (Nat.le_of_ble_eq_true rfl) (L' := [some (vr 12 466), some (vi l1), some (vi l2), some (vi l3), some (vi l4), some (vi (h 497 ((l1 * 128) + l3))), some (vi (h 497 ((l2 * 128) + l4))), some (vi x5), some (vi x7)]) rfl rfl ?_
        refine z_iload dX12_cutsBoth_131 rfl rfl ?_
        refine z_iload dX12_cutsBoth_133 rfl rfl ?_
        obtain ⟨r1, r2, ka, kb⟩ := k
        refine z_icmp_gt (tgt := 141) dX12_cutsBoth_135 rfl r1 r2 rfl ⟨fun q => ?_, fun q => ?_⟩
        · have k := ka q
          refine z_iload dX12_cutsBoth_141 rfl rfl ?_
          refine z_iload dX12_cutsBoth_143 rfl rfl ?_
          obtain ⟨r1, r2, ka, kb⟩ := k
          refine z_icmp_gt (tgt := 151) dX12_cutsBoth_145 rfl r1 r2 rfl ⟨fun q => ?_, fun q => ?_⟩
          · have k := ka q
            refine z_goto (tgt := 10) dX12_cutsBoth_151 rfl ?_
            exact z_sub (L' := [some (vr 12 466), some (vi l1), some (vi l2), some (vi l3), some (vi l4), none, none, none, none]) (And.intro rfl (And.intro rfl (And.intro rfl (And.intro rfl (And.intro rfl trivial))))) k
          · have k := kb q
            refine z_iinc dX12_cutsBoth_148 rfl (Nat.le_of_ble_eq_true rfl) (L' := [some (vr 12 466), some (vi l1), some (vi l2), some (vi l3), some (vi (l4 + 1)), some (vi (h 497 ((l1 * 128) + l3))), some (vi (h 497 ((l2 * 128) + l4))), some (vi x5), some (vi x7)]) rfl rfl ?_
            refine z_goto (tgt := 10) dX12_cutsBoth_151 rfl ?_
            exact z_sub (L' := [some (vr 12 466), some (vi l1), some (vi l2), some (vi l3), some (vi (l4 + 1)), none, none, none, none]) (And.intro rfl (And.intro rfl (And.intro rfl (And.intro rfl (And.intro rfl trivial))))) k
        · have k := kb q
          refine z_iinc dX12_cutsBoth_138 rfl (Nat.le_of_ble_eq_true rfl) (L' := [some (vr 12 466), some (vi l1), some (vi l2), some (vi (l3 + 1)), some (vi l4), some (vi (h 497 ((l1 * 128) + l3))), some (vi (h 497 ((l2 * 128) + l4))), some (vi x5), some (vi x7)]) rfl rfl ?_
          refine z_iload dX12_cutsBoth_141 rfl rfl ?_
          refine z_iload dX12_cutsBoth_143 rfl rfl ?_
          obtain ⟨r1, r2, ka, kb⟩ := k
          refine z_icmp_gt (tgt := 151) dX12_cutsBoth_145 rfl r1 r2 rfl ⟨fun q => ?_, fun q => ?_⟩
          · have k := ka q
            refine z_goto (tgt := 10) dX12_cutsBoth_151 rfl ?_
            exact z_sub (L' := [some (vr 12 466), some (vi l1), some (vi l2), some (vi (l3 + 1)), some (vi l4), none, none, none, none]) (And.intro rfl (And.intro rfl (And.intro rfl (And.intro rfl (And.intro rfl trivial))))) k
          · have k := kb q
            refine z_iinc dX12_cutsBoth_148 rfl (Nat.le_of_ble_eq_true rfl) (L' := [some (vr 12 466), some (vi l1), some (vi l2), some (vi (l3 + 1)), some (vi (l4 + 1)), some (vi (h 497 ((l1 * 128) + l3))), some (vi (h 497 ((l2 * 128) + l4))), some (vi x5), some (vi x7)]) rfl rfl ?_
            refine z_goto (tgt := 10) dX12_cutsBoth_151 rfl ?_
            exact z_sub (L' := [some (vr 12 466), some (vi l1), some (vi l2), some (vi (l3 + 1)), some (vi (l4 + 1)), none, none, none, none]) (And.intro rfl (And.intro rfl (And.intro rfl (And.intro rfl (And.intro rfl trivial))))) k
theorem eX12_cutsBoth {G : zG} {d : Nat} {K : zH → Prop} {l1 : Int} {l2 : Int} {h : zH} (k : tX12_cutsBoth_0 G d K l1 l2 h) : zCv G (d + 1) mX12_cutsBoth [vr 12 466, vi l1, vi l2] h K := z_entry (by decide +kernel) (Nat.le_of_ble_eq_true rfl) rfl k
def tX12_pairsBegin_0 (G : zG) (d : Nat) (K : zH → Prop) (h : zH) : Prop := zTv G d mX12_pairsBegin K 0 [some (vr 12 466), none] [] h
def tX12_pairsBegin_2 (G : zG) (d : Nat) (K : zH → Prop) (l1 : Int) (h : zH) : Prop := zTv G d mX12_pairsBegin K 2 [some (vr 12 466), some (vi l1)] [] h
theorem bX12_pairsBegin_0 {G : zG} {d : Nat} {K : zH → Prop} {h : zH} (k : tX12_pairsBegin_2 G d K 0 h) : tX12_pairsBegin_0 G d K h := by
  unfold tX12_pairsBegin_0
  refine z_iconst dX12_pairsBegin_0 rfl ?_
  refine z_istore_n 1 dX12_pairsBegin_1 rfl (Nat.le_of_ble_eq_true rfl) (L' := [some (vr 12 466), some (vi 0)]) rfl rfl ?_
  exact z_sub (L' := [some (vr 12 466), some (vi 0)]) (And.intro rfl (And.intro rfl trivial)) k
theorem bX12_pairsBegin_2 {G : zG} {d : Nat} {K : zH → Prop} {l1 : Int} {h : zH} (k : zR l1 ∧ (1600 ≤ l1 → K (zup h 466 88 0)) ∧ (¬ 1600 ≤ l1 → ((0 : Int) ≤ l1 ∧ l1 < 1600) ∧ tX12_pairsBegin_2 G d K (l1 + 1) (zup h 520 l1 (-1)))) : tX12_pairsBegin_2 G d K l1 h := by
  unfold tX12_pairsBegin_2
  refine z_iload_n 1 dX12_pairsBegin_2 rfl rfl rfl ?_
  refine z_sipush dX12_pairsBegin_3 rfl rfl ?_
  obtain ⟨r1, ka, kb⟩ := k
  refine z_icmp_ge (tgt := 22) dX12_pairsBegin_6 rfl r1 ⟨by decide, by decide⟩ rfl ⟨fun q => ?_, fun q => ?_⟩
  · have k := ka q
    refine z_aload_n 0 dX12_pairsBegin_22 rfl rfl (Nat.le_of_ble_eq_true rfl) rfl ?_
    refine z_iconst dX12_pairsBegin_23 rfl ?_
    refine z_putI 12 gX12_650 dX12_pairsBegin_24 rfl ?_
    exact z_return rfl dX12_pairsBegin_27 ⟨rfl, k⟩
  · have k := kb q
    refine z_aload_n 0 dX12_pairsBegin_9 rfl rfl (Nat.le_of_ble_eq_true rfl) rfl ?_
    refine z_getF 12 13 (x := 520) fX12_175 rfl dX12_pairsBegin_10 rfl rfl ?_
    refine z_iload_n 1 dX12_pairsBegin_13 rfl rfl rfl ?_
    refine z_iconst dX12_pairsBegin_14 rfl ?_
    obtain ⟨i9, k⟩ := k
    refine z_iast dX12_pairsBegin_15 (by rw [zl_520]; exact i9) rfl ?_
    refine z_iinc dX12_pairsBegin_16 rfl (Nat.le_of_ble_eq_true rfl) (L' := [some (vr 12 466), some (vi (l1 + 1))]) rfl rfl ?_
    refine z_goto (tgt := 2) dX12_pairsBegin_19 rfl ?_
    exact z_sub (L' := [some (vr 12 466), some (vi (l1 + 1))]) (And.intro rfl (And.intro rfl trivial)) k
theorem eX12_pairsBegin {G : zG} {d : Nat} {K : zH → Prop} {h : zH} (k : tX12_pairsBegin_0 G d K h) : zCv G d mX12_pairsBegin [vr 12 466] h K := z_entry (by decide +kernel) (Nat.le_of_ble_eq_true rfl) rfl k
def tX12_pairOf_0 (G : zG) (d : Nat) (K : Int → zH → Prop) (l1 : Int) (l2 : Int) (l3 : Int) (l4 : Int) (h : zH) : Prop := zTi G d mX12_pairOf K 0 [some (vr 12 466), some (vi l1), some (vi l2), some (vi l3), some (vi l4), none] [] h
theorem bX12_pairOf_0 {G : zG} {d : Nat} {K : Int → zH → Prop} {l1 : Int} {l2 : Int} {l3 : Int} {l4 : Int} {h : zH} (k : ((0 : Int) ≤ ((l1 * 40) + l2) ∧ ((l1 * 40) + l2) < 1600) ∧ zR (h 520 ((l1 * 40) + l2)) ∧ ((h 520 ((l1 * 40) + l2)) = (-1) → ((0 : Int) ≤ ((l1 * 40) + l2) ∧ ((l1 * 40) + l2) < 1600) ∧ ((0 : Int) ≤ (h 466 88) ∧ (h 466 88) < 1600) ∧ ((0 : Int) ≤ (h 466 88) ∧ (h 466 88) < 1600) ∧ ((0 : Int) ≤ (h 466 88) ∧ (h 466 88) < 1600) ∧ K (((h 466 88) + 1) - 1) (zup (zup (zup (zup (zup h 520 ((l1 * 40) + l2) (h 466 88)) 519 (h 466 88) ((l1 * 40) + l2)) 521 (h 466 88) l3) 522 (h 466 88) l4) 466 88 ((h 466 88) + 1))) ∧ (¬ (h 520 ((l1 * 40) + l2)) = (-1) → ((0 : Int) ≤ ((l1 * 40) + l2) ∧ ((l1 * 40) + l2) < 1600) ∧ K (h 520 ((l1 * 40) + l2)) h)) : tX12_pairOf_0 G d K l1 l2 l3 l4 h := by
  unfold tX12_pairOf_0
  refine z_iload_n 1 dX12_pairOf_0 rfl rfl rfl ?_
  refine z_bipush dX12_pairOf_1 rfl rfl ?_
  refine z_imul dX12_pairOf_3 rfl ?_
  refine z_iload_n 2 dX12_pairOf_4 rfl rfl rfl ?_
  refine z_iadd dX12_pairOf_5 rfl ?_
  refine z_istore dX12_pairOf_6 (Nat.le_of_ble_eq_true rfl) (L' := [some (vr 12 466), some (vi l1), some (vi l2), some (vi l3), some (vi l4), some (vi ((l1 * 40) + l2))]) rfl rfl ?_
  refine z_aload_n 0 dX12_pairOf_8 rfl rfl (Nat.le_of_ble_eq_true rfl) rfl ?_
  refine z_getF 12 13 (x := 520) fX12_175 rfl dX12_pairOf_9 rfl rfl ?_
  refine z_iload dX12_pairOf_12 rfl rfl ?_
  obtain ⟨i9, k⟩ := k
  refine z_iald (x := (h 520 ((l1 * 40) + l2))) dX12_pairOf_14 (by rw [zl_520]; exact i9) rfl rfl ?_
  refine z_iconst dX12_pairOf_15 rfl ?_
  obtain ⟨r1, ka, kb⟩ := k
  refine z_icmp_eq (tgt := 27) dX12_pairOf_16 rfl r1 ⟨by decide, by decide⟩ rfl ⟨fun q => ?_, fun q => ?_⟩
  · have k := ka q
    refine z_aload_n 0 dX12_pairOf_27 rfl rfl (Nat.le_of_ble_eq_true rfl) rfl ?_
    refine z_getF 12 13 (x := 520) fX12_175 rfl dX12_pairOf_28 rfl rfl ?_
    refine z_iload dX12_pairOf_31 rfl rfl ?_
    refine z_aload_n 0 dX12_pairOf_33 rfl rfl (Nat.le_of_ble_eq_true rfl) rfl ?_
    refine z_getI 12 (x := (h 466 88)) fX12_650 rfl dX12_pairOf_34 rfl rfl ?_
    obtain ⟨i9, k⟩ := k
    refine z_iast dX12_pairOf_37 (by rw [zl_520]; exact i9) rfl ?_
    refine z_aload_n 0 dX12_pairOf_38 rfl rfl (Nat.le_of_ble_eq_true rfl) rfl ?_
    refine z_getF 12 13 (x := 519) fX12_172 rfl dX12_pairOf_39 rfl rfl ?_
    refine z_aload_n 0 dX12_pairOf_42 rfl rfl (Nat.le_of_ble_eq_true rfl) rfl ?_
    refine z_getI 12 (x := (h 466 88)) fX12_650 rfl dX12_pairOf_43 (by simp [zup]) rfl ?_
    refine z_iload dX12_pairOf_46 rfl rfl ?_
    obtain ⟨i9, k⟩ := k
    refine z_iast dX12_pairOf_48 (by rw [zl_519]; exact i9) rfl ?_
    refine z_aload_n 0 dX12_pairOf_49 rfl rfl (Nat.le_of_ble_eq_true rfl) rfl ?_
    refine z_getF 12 13 (x := 521) fX12_178 rfl dX12_pairOf_50 rfl rfl ?_
    refine z_aload_n 0 dX12_pairOf_53 rfl rfl (Nat.le_of_ble_eq_true rfl) rfl ?_
    refine z_getI 12 (x := (h 466 88)) fX12_650 rfl dX12_pairOf_54 (by simp [zup]) rfl ?_
    refine z_iload_n 3 dX12_pairOf_57 rfl rfl rfl ?_
    obtain ⟨i9, k⟩ := k
    refine z_iast dX12_pairOf_58 (by rw [zl_521]; exact i9) rfl ?_
    refine z_aload_n 0 dX12_pairOf_59 rfl rfl (Nat.le_of_ble_eq_true rfl) rfl ?_
    refine z_getF 12 13 (x := 522) fX12_181 rfl dX12_pairOf_60 rfl rfl ?_
    refine z_aload_n 0 dX12_pairOf_63 rfl rfl (Nat.le_of_ble_eq_true rfl) rfl ?_
    refine z_getI 12 (x := (h 466 88)) fX12_650 rfl dX12_pairOf_64 (by simp [zup]) rfl ?_
    refine z_iload dX12_pairOf_67 rfl rfl ?_
    obtain ⟨i9, k⟩ := k
    refine z_iast dX12_pairOf_69 (by rw [zl_522]; exact i9) rfl ?_
    refine z_aload_n 0 dX12_pairOf_70 rfl rfl (Nat.le_of_ble_eq_true rfl) rfl ?_
    refine z_dup dX12_pairOf_71 (fun q => by cases q) rfl ?_
    refine z_getI 12 (x := (h 466 88)) fX12_650 rfl dX12_pairOf_72 (by simp [zup]) rfl ?_
    refine z_iconst dX12_pairOf_75 rfl ?_
    refine z_iadd dX12_pairOf_76 rfl ?_
    refine z_putI 12 gX12_650 dX12_pairOf_77 rfl ?_
    refine z_aload_n 0 dX12_pairOf_80 rfl rfl (Nat.le_of_ble_eq_true rfl) rfl ?_
    refine z_getI 12 (x := ((h 466 88) + 1)) fX12_650 rfl dX12_pairOf_81 (by simp [zup]) rfl ?_
    refine z_iconst dX12_pairOf_84 rfl ?_
    refine z_isub dX12_pairOf_85 rfl ?_
    exact z_ireturn rfl dX12_pairOf_86 ⟨_, rfl, k⟩
  · have k := kb q
    refine z_aload_n 0 dX12_pairOf_19 rfl rfl (Nat.le_of_ble_eq_true rfl) rfl ?_
    refine z_getF 12 13 (x := 520) fX12_175 rfl dX12_pairOf_20 rfl rfl ?_
    refine z_iload dX12_pairOf_23 rfl rfl ?_
    obtain ⟨i9, k⟩ := k
    refine z_iald (x := (h 520 ((l1 * 40) + l2))) dX12_pairOf_25 (by rw [zl_520]; exact i9) rfl rfl ?_
    exact z_ireturn rfl dX12_pairOf_26 ⟨_, rfl, k⟩
theorem eX12_pairOf {G : zG} {d : Nat} {K : Int → zH → Prop} {l1 : Int} {l2 : Int} {l3 : Int} {l4 : Int} {h : zH} (k : tX12_pairOf_0 G d K l1 l2 l3 l4 h) : zCi G d mX12_pairOf [vr 12 466, vi l1, vi l2, vi l3, vi l4] h K := z_entry (by decide +kernel) (Nat.le_of_ble_eq_true rfl) rfl k
def tX12_finds_0 (G : zG) (d : Nat) (K : Int → zH → Prop) (l1 : Int) (l2 : Int) (l3 : Int) (h : zH) : Prop := zTi G (d + 1) mX12_finds K 0 [some (vr 12 466), some (vi l1), some (vi l2), some (vi l3), none, none, none, none] [] h
def tX12_finds_36 (G : zG) (d : Nat) (K : Int → zH → Prop) (l1 : Int) (l2 : Int) (l3 : Int) (l4 : Int) (h : zH) : Prop := zTi G (d + 1) mX12_finds K 36 [some (vr 12 466), some (vi l1), some (vi l2), some (vi l3), some (vi l4), none, none, none] [] h
def tX12_finds_98 (G : zG) (d : Nat) (K : Int → zH → Prop) (l1 : Int) (l2 : Int) (l3 : Int) (l4 : Int) (l5 : Int) (l6 : Int) (l7 : Int) (h : zH) : Prop := zTi G (d + 1) mX12_finds K 98 [some (vr 12 466), some (vi l1), some (vi l2), some (vi l3), some (vi l4), some (vi l5), some (vi l6), some (vi l7)] [] h
theorem bX12_finds_0 {G : zG} {d : Nat} {K : Int → zH → Prop} {l1 : Int} {l2 : Int} {l3 : Int} {h : zH} (k : zCb G d mX12_gathers [vr 12 466, vi l1, vi 0] h (fun x1 h2 => zCb G d mX12_gathers [vr 12 466, vi l2, vi 1] h2 (fun x3 h4 => zCv G d mX12_cutsBoth [vr 12 466, vi l1, vi l2] h4 (fun h6 => zCv G d mX12_pairsBegin [vr 12 466] h6 (fun h8 => zCi G d mX12_pairOf [vr 12 466, vi 0, vi 0, vi (-1), vi 0] h8 (fun x9 h10 => tX12_finds_36 G d K l1 l2 l3 0 h10)))))) : tX12_finds_0 G d K l1 l2 l3 h := by
  unfold tX12_finds_0
  refine z_aload_n 0 dX12_finds_0 rfl rfl (Nat.le_of_ble_eq_true rfl) rfl ?_
  refine z_iload_n 1 dX12_finds_1 rfl rfl rfl ?_
  refine z_iconst dX12_finds_2 rfl ?_
  refine z_callVb vX12_gathers kX12_521 dX12_finds_3 rfl (zRo_d d) (as := [vi l1, vi 0]) (rest := []) (Nat.le_of_ble_eq_true rfl) rfl rfl (zCb_mono (fun x1 h2 k => ?_) k)
  refine z_pop dX12_finds_6 (fun q => by cases q) rfl ?_
  refine z_aload_n 0 dX12_finds_7 rfl rfl (Nat.le_of_ble_eq_true rfl) rfl ?_
  refine z_iload_n 2 dX12_finds_8 rfl rfl rfl ?_
  refine z_iconst dX12_finds_9 rfl ?_
  refine z_callVb vX12_gathers kX12_521 dX12_finds_10 rfl (zRo_d d) (as := [vi l2, vi 1]) (rest := []) (Nat.le_of_ble_eq_true rfl) rfl rfl (zCb_mono (fun x3 h4 k => ?_) k)
  refine z_pop dX12_finds_13 (fun q => by cases q) rfl ?_
  refine z_aload_n 0 dX12_finds_14 rfl rfl (Nat.le_of_ble_eq_true rfl) rfl ?_
  refine z_iload_n 1 dX12_finds_15 rfl rfl rfl ?_
  refine z_iload_n 2 dX12_finds_16 rfl rfl rfl ?_
  refine z_callVv vX12_cutsBoth kX12_653 dX12_finds_17 rfl (zRo_d d) (as := [vi l1, vi l2]) (rest := []) (Nat.le_of_ble_eq_true rfl) rfl rfl (zCv_mono (fun h6 k => ?_) k)
  refine z_aload_n 0 dX12_finds_20 rfl rfl (Nat.le_of_ble_eq_true rfl) rfl ?_
  refine z_callVv vX12_pairsBegin kX12_656 dX12_finds_21 rfl (zRo_d d) (as := []) (rest := []) (Nat.le_of_ble_eq_true rfl) rfl rfl (zCv_mono (fun h8 k => ?_) k)
  refine z_aload_n 0 dX12_finds_24 rfl rfl (Nat.le_of_ble_eq_true rfl) rfl ?_
  refine z_iconst dX12_finds_25 rfl ?_
  refine z_iconst dX12_finds_26 rfl ?_
  refine z_iconst dX12_finds_27 rfl ?_
  refine z_iconst dX12_finds_28 rfl ?_
  refine z_callVi vX12_pairOf kX12_659 dX12_finds_29 rfl (zRo_d d) (as := [vi 0, vi 0, vi (-1), vi 0]) (rest := []) (Nat.le_of_ble_eq_true rfl) rfl rfl (zCi_mono (fun x9 h10 k => ?_) k)
  refine z_pop dX12_finds_32 (fun q => by cases q) rfl ?_
  refine z_iconst dX12_finds_33 rfl ?_
  refine z_istore dX12_finds_34 (Nat.le_of_ble_eq_true rfl) (L' := [some (vr 12 466), some (vi l1), some (vi l2), some (vi l3), some (vi 0), none, none, none]) rfl rfl ?_
  exact z_sub (L' := [some (vr 12 466), some (vi l1), some (vi l2), some (vi l3), some (vi 0), none, none, none]) (And.intro rfl (And.intro rfl (And.intro rfl (And.intro rfl (And.intro rfl trivial))))) k
theorem bX12_finds_36 {G : zG} {d : Nat} {K : Int → zH → Prop} {l1 : Int} {l2 : Int} {l3 : Int} {l4 : Int} {h : zH} (k : zR l4 ∧ zR (h 466 88) ∧ ((h 466 88) ≤ l4 → K (-1) h) ∧ (¬ (h 466 88) ≤ l4 → ((0 : Int) ≤ l4 ∧ l4 < 1600) ∧ (0 ≤ (h 519 l4) ∧ (h 519 l4) < 2147483648) ∧ ((0 : Int) ≤ l4 ∧ l4 < 1600) ∧ (0 ≤ (h 519 l4) ∧ (h 519 l4) < 2147483648) ∧ zCb G d mX12_sheafEnds [vr 12 466, vi l1, vi 0, vi ((h 519 l4) / 40)] h (fun x1 h2 => zCb G d mX12_sheafEnds [vr 12 466, vi l2, vi 1, vi ((h 519 l4) % 40)] h2 (fun x3 h4 => zCb G d mX12_holds [vi l3, vi (bi x1), vi (bi x3)] h4 (fun x5 h6 => (x5 = false → tX12_finds_98 G d K l1 l2 l3 l4 ((h 519 l4) / 40) ((h 519 l4) % 40) 0 h6) ∧ (x5 = true → K l4 h6)))))) : tX12_finds_36 G d K l1 l2 l3 l4 h := by
  unfold tX12_finds_36
  refine z_iload dX12_finds_36 rfl rfl ?_
  refine z_aload_n 0 dX12_finds_38 rfl rfl (Nat.le_of_ble_eq_true rfl) rfl ?_
  refine z_getI 12 (x := (h 466 88)) fX12_650 rfl dX12_finds_39 rfl rfl ?_
  obtain ⟨r1, r2, ka, kb⟩ := k
  refine z_icmp_ge (tgt := 161) dX12_finds_42 rfl r1 r2 rfl ⟨fun q => ?_, fun q => ?_⟩
  · have k := ka q
    refine z_iconst dX12_finds_161 rfl ?_
    exact z_ireturn rfl dX12_finds_162 ⟨_, rfl, k⟩
  · have k := kb q
    refine z_aload_n 0 dX12_finds_45 rfl rfl (Nat.le_of_ble_eq_true rfl) rfl ?_
    refine z_getF 12 13 (x := 519) fX12_172 rfl dX12_finds_46 rfl rfl ?_
    refine z_iload dX12_finds_49 rfl rfl ?_
    obtain ⟨i9, k⟩ := k
    refine z_iald (x := (h 519 l4)) dX12_finds_51 (by rw [zl_519]; exact i9) rfl rfl ?_
    refine z_bipush dX12_finds_52 rfl rfl ?_
    obtain ⟨i9, k⟩ := k
    refine z_idiv dX12_finds_54 ⟨i9.1, i9.2, by decide, by decide⟩ rfl ?_
    refine z_istore dX12_finds_55 (Nat.le_of_ble_eq_true rfl) (L' := [some (vr 12 466), some (vi l1), some (vi l2), some (vi l3), some (vi l4), some (vi ((h 519 l4) / 40)), none, none]) rfl rfl ?_
    refine z_aload_n 0 dX12_finds_57 rfl rfl (Nat.le_of_ble_eq_true rfl) rfl ?_
    refine z_getF 12 13 (x := 519) fX12_172 rfl dX12_finds_58 rfl rfl ?_
    refine z_iload dX12_finds_61 rfl rfl ?_
    obtain ⟨i9, k⟩ := k
    refine z_iald (x := (h 519 l4)) dX12_finds_63 (by rw [zl_519]; exact i9) rfl rfl ?_
    refine z_bipush dX12_finds_64 rfl rfl ?_
    obtain ⟨i9, k⟩ := k
    refine z_irem dX12_finds_66 ⟨i9.1, i9.2, by decide, by decide⟩ rfl ?_
    refine z_istore dX12_finds_67 (Nat.le_of_ble_eq_true rfl) (L' := [some (vr 12 466), some (vi l1), some (vi l2), some (vi l3), some (vi l4), some (vi ((h 519 l4) / 40)), some (vi ((h 519 l4) % 40)), none]) rfl rfl ?_
    refine z_iload_n 3 dX12_finds_69 rfl rfl rfl ?_
    refine z_aload_n 0 dX12_finds_70 rfl rfl (Nat.le_of_ble_eq_true rfl) rfl ?_
    refine z_iload_n 1 dX12_finds_71 rfl rfl rfl ?_
    refine z_iconst dX12_finds_72 rfl ?_
    refine z_iload dX12_finds_73 rfl rfl ?_
    refine z_callVb vX12_sheafEnds kX12_542 dX12_finds_75 rfl (zRo_d d) (as := [vi l1, vi 0, vi ((h 519 l4) / 40)]) (rest := [vi l3]) (Nat.le_of_ble_eq_true rfl) rfl rfl (zCb_mono (fun x1 h2 k => ?_) k)
    refine z_aload_n 0 dX12_finds_78 rfl rfl (Nat.le_of_ble_eq_true rfl) rfl ?_
    refine z_iload_n 2 dX12_finds_79 rfl rfl rfl ?_
    refine z_iconst dX12_finds_80 rfl ?_
    refine z_iload dX12_finds_81 rfl rfl ?_
    refine z_callVb vX12_sheafEnds kX12_542 dX12_finds_83 rfl (zRo_d d) (as := [vi l2, vi 1, vi ((h 519 l4) % 40)]) (rest := [vi (bi x1), vi l3]) (Nat.le_of_ble_eq_true rfl) rfl rfl (zCb_mono (fun x3 h4 k => ?_) k)
    refine z_callSb sX12_holds kX12_466 dX12_finds_86 rfl (zRo_d d) (as := [vi l3, vi (bi x1), vi (bi x3)]) (rest := []) (Nat.le_of_ble_eq_true rfl) rfl rfl (zCb_mono (fun x5 h6 k => ?_) k)
    obtain ⟨ka, kb⟩ := k
    refine z_ifb_eq (tgt := 95) dX12_finds_89 rfl rfl ⟨fun q => ?_, fun q => ?_⟩
    · have k := ka q
      refine z_iconst dX12_finds_95 rfl ?_
      refine z_istore dX12_finds_96 (Nat.le_of_ble_eq_true rfl) (L' := [some (vr 12 466), some (vi l1), some (vi l2), some (vi l3), some (vi l4), some (vi ((h 519 l4) / 40)), some (vi ((h 519 l4) % 40)), some (vi 0)]) rfl rfl ?_
      exact z_sub (L' := [some (vr 12 466), some (vi l1), some (vi l2), some (vi l3), some (vi l4), some (vi ((h 519 l4) / 40)), some (vi ((h 519 l4) % 40)), some (vi 0)]) (And.intro rfl (And.intro rfl (And.intro rfl (And.intro rfl (And.intro rfl (And.intro rfl (And.intro rfl (And.intro rfl trivial)))))))) k
    · have k := kb q
      refine z_iload dX12_finds_92 rfl rfl ?_
      exact z_ireturn rfl dX12_finds_94 ⟨_, rfl, k⟩
theorem bX12_finds_98 {G : zG} {d : Nat} {K : Int → zH → Prop} {l1 : Int} {l2 : Int} {l3 : Int} {l4 : Int} {l5 : Int} {l6 : Int} {l7 : Int} {h : zH} (k : zR l7 ∧ zR (h 466 87) ∧ ((h 466 87) ≤ l7 → tX12_finds_36 G d K l1 l2 l3 (l4 + 1) h) ∧ (¬ (h 466 87) ≤ l7 → ((0 : Int) ≤ l7 ∧ l7 < 256) ∧ zCi G d mX12_goesTo [vr 12 466, vi 0, vi l5, vi (h 517 l7)] h (fun x1 h2 => ((0 : Int) ≤ l7 ∧ l7 < 256) ∧ zCi G d mX12_goesTo [vr 12 466, vi 1, vi l6, vi (h2 518 l7)] h2 (fun x3 h4 => ((0 : Int) ≤ l7 ∧ l7 < 256) ∧ zCi G d mX12_pairOf [vr 12 466, vi x1, vi x3, vi l4, vi (h4 516 l7)] h4 (fun x5 h6 => tX12_finds_98 G d K l1 l2 l3 l4 l5 l6 (l7 + 1) h6))))) : tX12_finds_98 G d K l1 l2 l3 l4 l5 l6 l7 h := by
  unfold tX12_finds_98
  refine z_iload dX12_finds_98 rfl rfl ?_
  refine z_aload_n 0 dX12_finds_100 rfl rfl (Nat.le_of_ble_eq_true rfl) rfl ?_
  refine z_getI 12 (x := (h 466 87)) fX12_647 rfl dX12_finds_101 rfl rfl ?_
  obtain ⟨r1, r2, ka, kb⟩ := k
  refine z_icmp_ge (tgt := 155) dX12_finds_104 rfl r1 r2 rfl ⟨fun q => ?_, fun q => ?_⟩
  · have k := ka q
    refine z_iinc dX12_finds_155 rfl (Nat.le_of_ble_eq_true rfl) (L' := [some (vr 12 466), some (vi l1), some (vi l2), some (vi l3), some (vi (l4 + 1)), some (vi l5), some (vi l6), some (vi l7)]) rfl rfl ?_
    refine z_goto (tgt := 36) dX12_finds_158 rfl ?_
    exact z_sub (L' := [some (vr 12 466), some (vi l1), some (vi l2), some (vi l3), some (vi (l4 + 1)), none, none, none]) (And.intro rfl (And.intro rfl (And.intro rfl (And.intro rfl (And.intro rfl trivial))))) k
  · have k := kb q
    refine z_aload_n 0 dX12_finds_107 rfl rfl (Nat.le_of_ble_eq_true rfl) rfl ?_
    refine z_aload_n 0 dX12_finds_108 rfl rfl (Nat.le_of_ble_eq_true rfl) rfl ?_
    refine z_iconst dX12_finds_109 rfl ?_
    refine z_iload dX12_finds_110 rfl rfl ?_
    refine z_aload_n 0 dX12_finds_112 rfl rfl (Nat.le_of_ble_eq_true rfl) rfl ?_
    refine z_getF 12 13 (x := 517) fX12_166 rfl dX12_finds_113 rfl rfl ?_
    refine z_iload dX12_finds_116 rfl rfl ?_
    obtain ⟨i9, k⟩ := k
    refine z_iald (x := (h 517 l7)) dX12_finds_118 (by rw [zl_517]; exact i9) rfl rfl ?_
    refine z_callVi vX12_goesTo kX12_555 dX12_finds_119 rfl (zRo_d d) (as := [vi 0, vi l5, vi (h 517 l7)]) (rest := [vr 12 466]) (Nat.le_of_ble_eq_true rfl) rfl rfl (zCi_mono (fun x1 h2 k => ?_) k)
    refine z_aload_n 0 dX12_finds_122 rfl rfl (Nat.le_of_ble_eq_true rfl) rfl ?_
    refine z_iconst dX12_finds_123 rfl ?_
    refine z_iload dX12_finds_124 rfl rfl ?_
    refine z_aload_n 0 dX12_finds_126 rfl rfl (Nat.le_of_ble_eq_true rfl) rfl ?_
    refine z_getF 12 13 (x := 518) fX12_169 rfl dX12_finds_127 rfl rfl ?_
    refine z_iload dX12_finds_130 rfl rfl ?_
    obtain ⟨i9, k⟩ := k
    refine z_iald (x := (h2 518 l7)) dX12_finds_132 (by rw [zl_518]; exact i9) rfl rfl ?_
    refine z_callVi vX12_goesTo kX12_555 dX12_finds_133 rfl (zRo_d d) (as := [vi 1, vi l6, vi (h2 518 l7)]) (rest := [vi x1, vr 12 466]) (Nat.le_of_ble_eq_true rfl) rfl rfl (zCi_mono (fun x3 h4 k => ?_) k)
    refine z_iload dX12_finds_136 rfl rfl ?_
    refine z_aload_n 0 dX12_finds_138 rfl rfl (Nat.le_of_ble_eq_true rfl) rfl ?_
    refine z_getF 12 13 (x := 516) fX12_163 rfl dX12_finds_139 rfl rfl ?_
    refine z_iload dX12_finds_142 rfl rfl ?_
    obtain ⟨i9, k⟩ := k
    refine z_iald (x := (h4 516 l7)) dX12_finds_144 (by rw [zl_516]; exact i9) rfl rfl ?_
    refine z_callVi vX12_pairOf kX12_659 dX12_finds_145 rfl (zRo_d d) (as := [vi x1, vi x3, vi l4, vi (h4 516 l7)]) (rest := []) (Nat.le_of_ble_eq_true rfl) rfl rfl (zCi_mono (fun x5 h6 k => ?_) k)
    refine z_pop dX12_finds_148 (fun q => by cases q) rfl ?_
    refine z_iinc dX12_finds_149 rfl (Nat.le_of_ble_eq_true rfl) (L' := [some (vr 12 466), some (vi l1), some (vi l2), some (vi l3), some (vi l4), some (vi l5), some (vi l6), some (vi (l7 + 1))]) rfl rfl ?_
    refine z_goto (tgt := 98) dX12_finds_152 rfl ?_
    exact z_sub (L' := [some (vr 12 466), some (vi l1), some (vi l2), some (vi l3), some (vi l4), some (vi l5), some (vi l6), some (vi (l7 + 1))]) (And.intro rfl (And.intro rfl (And.intro rfl (And.intro rfl (And.intro rfl (And.intro rfl (And.intro rfl (And.intro rfl trivial)))))))) k
theorem eX12_finds {G : zG} {d : Nat} {K : Int → zH → Prop} {l1 : Int} {l2 : Int} {l3 : Int} {h : zH} (k : tX12_finds_0 G d K l1 l2 l3 h) : zCi G (d + 1) mX12_finds [vr 12 466, vi l1, vi l2, vi l3] h K := z_entry (by decide +kernel) (Nat.le_of_ble_eq_true rfl) rfl k
def tX12_pairLength_0 (G : zG) (d : Nat) (K : Int → zH → Prop) (l1 : Int) (h : zH) : Prop := zTi G d mX12_pairLength K 0 [some (vr 12 466), some (vi l1), none, none] [] h
def tX12_pairLength_4 (G : zG) (d : Nat) (K : Int → zH → Prop) (l2 : Int) (l3 : Int) (h : zH) : Prop := zTi G d mX12_pairLength K 4 [some (vr 12 466), none, some (vi l2), some (vi l3)] [] h
theorem bX12_pairLength_0 {G : zG} {d : Nat} {K : Int → zH → Prop} {l1 : Int} {h : zH} (k : tX12_pairLength_4 G d K 0 l1 h) : tX12_pairLength_0 G d K l1 h := by
  unfold tX12_pairLength_0
  refine z_iconst dX12_pairLength_0 rfl ?_
  refine z_istore_n 2 dX12_pairLength_1 rfl (Nat.le_of_ble_eq_true rfl) (L' := [some (vr 12 466), some (vi l1), some (vi 0), none]) rfl rfl ?_
  refine z_iload_n 1 dX12_pairLength_2 rfl rfl rfl ?_
  refine z_istore_n 3 dX12_pairLength_3 rfl (Nat.le_of_ble_eq_true rfl) (L' := [some (vr 12 466), some (vi l1), some (vi 0), some (vi l1)]) rfl rfl ?_
  exact z_sub (L' := [some (vr 12 466), none, some (vi 0), some (vi l1)]) (And.intro rfl (And.intro rfl (And.intro rfl trivial))) k
theorem bX12_pairLength_4 {G : zG} {d : Nat} {K : Int → zH → Prop} {l2 : Int} {l3 : Int} {h : zH} (k : ((0 : Int) ≤ l3 ∧ l3 < 1600) ∧ zR (h 521 l3) ∧ ((h 521 l3) = (-1) → K l2 h) ∧ (¬ (h 521 l3) = (-1) → ((0 : Int) ≤ l3 ∧ l3 < 1600) ∧ tX12_pairLength_4 G d K (l2 + 1) (h 521 l3) h)) : tX12_pairLength_4 G d K l2 l3 h := by
  unfold tX12_pairLength_4
  refine z_aload_n 0 dX12_pairLength_4 rfl rfl (Nat.le_of_ble_eq_true rfl) rfl ?_
  refine z_getF 12 13 (x := 521) fX12_178 rfl dX12_pairLength_5 rfl rfl ?_
  refine z_iload_n 3 dX12_pairLength_8 rfl rfl rfl ?_
  obtain ⟨i9, k⟩ := k
  refine z_iald (x := (h 521 l3)) dX12_pairLength_9 (by rw [zl_521]; exact i9) rfl rfl ?_
  refine z_iconst dX12_pairLength_10 rfl ?_
  obtain ⟨r1, ka, kb⟩ := k
  refine z_icmp_eq (tgt := 27) dX12_pairLength_11 rfl r1 ⟨by decide, by decide⟩ rfl ⟨fun q => ?_, fun q => ?_⟩
  · have k := ka q
    refine z_iload_n 2 dX12_pairLength_27 rfl rfl rfl ?_
    exact z_ireturn rfl dX12_pairLength_28 ⟨_, rfl, k⟩
  · have k := kb q
    refine z_iinc dX12_pairLength_14 rfl (Nat.le_of_ble_eq_true rfl) (L' := [some (vr 12 466), none, some (vi (l2 + 1)), some (vi l3)]) rfl rfl ?_
    refine z_aload_n 0 dX12_pairLength_17 rfl rfl (Nat.le_of_ble_eq_true rfl) rfl ?_
    refine z_getF 12 13 (x := 521) fX12_178 rfl dX12_pairLength_18 rfl rfl ?_
    refine z_iload_n 3 dX12_pairLength_21 rfl rfl rfl ?_
    obtain ⟨i9, k⟩ := k
    refine z_iald (x := (h 521 l3)) dX12_pairLength_22 (by rw [zl_521]; exact i9) rfl rfl ?_
    refine z_istore_n 3 dX12_pairLength_23 rfl (Nat.le_of_ble_eq_true rfl) (L' := [some (vr 12 466), none, some (vi (l2 + 1)), some (vi (h 521 l3))]) rfl rfl ?_
    refine z_goto (tgt := 4) dX12_pairLength_24 rfl ?_
    exact z_sub (L' := [some (vr 12 466), none, some (vi (l2 + 1)), some (vi (h 521 l3))]) (And.intro rfl (And.intro rfl (And.intro rfl trivial))) k
theorem eX12_pairLength {G : zG} {d : Nat} {K : Int → zH → Prop} {l1 : Int} {h : zH} (k : tX12_pairLength_0 G d K l1 h) : zCi G d mX12_pairLength [vr 12 466, vi l1] h K := z_entry (by decide +kernel) (Nat.le_of_ble_eq_true rfl) rfl k
def tX12_refusesTwo_0 (G : zG) (d : Nat) (K : Int → zH → Prop) (l1 : Int) (l2 : Int) (l3 : Int) (h : zH) : Prop := zTi G (d + 1) mX12_refusesTwo K 0 [some (vr 12 466), some (vi l1), some (vi l2), some (vi l3)] [] h
theorem bX12_refusesTwo_0 {G : zG} {d : Nat} {K : Int → zH → Prop} {l1 : Int} {l2 : Int} {l3 : Int} {h : zH} (k : zCb G d mX12_isMachine [vr 12 466, vi l1] h (fun x1 h2 => (x1 = false → K 1 h2) ∧ (x1 = true → zCb G d mX12_isMachine [vr 12 466, vi l2] h2 (fun x3 h4 => (x3 = true → zCb G d mX12_in [vi l3, vi 0, vi 15] h4 (fun x5 h6 => (x5 = false → K 2 h6) ∧ (x5 = true → K 0 h6))) ∧ (x3 = false → K 1 h4))))) : tX12_refusesTwo_0 G d K l1 l2 l3 h := by
  unfold tX12_refusesTwo_0
  refine z_aload_n 0 dX12_refusesTwo_0 rfl rfl (Nat.le_of_ble_eq_true rfl) rfl ?_
  refine z_iload_n 1 dX12_refusesTwo_1 rfl rfl rfl ?_
  refine z_callVb vX12_isMachine kX12_561 dX12_refusesTwo_2 rfl (zRo_d d) (as := [vi l1]) (rest := []) (Nat.le_of_ble_eq_true rfl) rfl rfl (zCb_mono (fun x1 h2 k => ?_) k)
  obtain ⟨ka, kb⟩ := k
  refine z_ifb_eq (tgt := 16) dX12_refusesTwo_5 rfl rfl ⟨fun q => ?_, fun q => ?_⟩
  · have k := ka q
    refine z_iconst dX12_refusesTwo_16 rfl ?_
    exact z_ireturn rfl dX12_refusesTwo_17 ⟨_, rfl, k⟩
  · have k := kb q
    refine z_aload_n 0 dX12_refusesTwo_8 rfl rfl (Nat.le_of_ble_eq_true rfl) rfl ?_
    refine z_iload_n 2 dX12_refusesTwo_9 rfl rfl rfl ?_
    refine z_callVb vX12_isMachine kX12_561 dX12_refusesTwo_10 rfl (zRo_d d) (as := [vi l2]) (rest := []) (Nat.le_of_ble_eq_true rfl) rfl rfl (zCb_mono (fun x3 h4 k => ?_) k)
    obtain ⟨ka, kb⟩ := k
    refine z_ifb_ne (tgt := 18) dX12_refusesTwo_13 rfl rfl ⟨fun q => ?_, fun q => ?_⟩
    · have k := ka q
      refine z_iload_n 3 dX12_refusesTwo_18 rfl rfl rfl ?_
      refine z_iconst dX12_refusesTwo_19 rfl ?_
      refine z_bipush dX12_refusesTwo_20 rfl rfl ?_
      refine z_callSb sX12_in kX12_201 dX12_refusesTwo_22 rfl (zRo_d d) (as := [vi l3, vi 0, vi 15]) (rest := []) (Nat.le_of_ble_eq_true rfl) rfl rfl (zCb_mono (fun x5 h6 k => ?_) k)
      obtain ⟨ka, kb⟩ := k
      refine z_ifb_eq (tgt := 32) dX12_refusesTwo_25 rfl rfl ⟨fun q => ?_, fun q => ?_⟩
      · have k := ka q
        refine z_iconst dX12_refusesTwo_32 rfl ?_
        exact z_ireturn rfl dX12_refusesTwo_33 ⟨_, rfl, k⟩
      · have k := kb q
        refine z_iconst dX12_refusesTwo_28 rfl ?_
        refine z_goto (tgt := 33) dX12_refusesTwo_29 rfl ?_
        exact z_ireturn rfl dX12_refusesTwo_33 ⟨_, rfl, k⟩
    · have k := kb q
      refine z_iconst dX12_refusesTwo_16 rfl ?_
      exact z_ireturn rfl dX12_refusesTwo_17 ⟨_, rfl, k⟩
theorem eX12_refusesTwo {G : zG} {d : Nat} {K : Int → zH → Prop} {l1 : Int} {l2 : Int} {l3 : Int} {h : zH} (k : tX12_refusesTwo_0 G d K l1 l2 l3 h) : zCi G (d + 1) mX12_refusesTwo [vr 12 466, vi l1, vi l2, vi l3] h K := z_entry (by decide +kernel) (Nat.le_of_ble_eq_true rfl) rfl k
def tX12_found_0 (G : zG) (d : Nat) (K : Int → zH → Prop) (l1 : Int) (l2 : Int) (l3 : Int) (h : zH) : Prop := zTi G (d + 1) mX12_found K 0 [some (vr 12 466), some (vi l1), some (vi l2), some (vi l3), none, none] [] h
theorem bX12_found_0 {G : zG} {d : Nat} {K : Int → zH → Prop} {l1 : Int} {l2 : Int} {l3 : Int} {h : zH} (k : zCi G d mX12_refusesTwo [vr 12 466, vi l1, vi l2, vi l3] (zup h 466 0 0) (fun x1 h2 => zR x1 ∧ (x1 ≤ 0 → zCi G d mX12_finds [vr 12 466, vi l1, vi l2, vi l3] h2 (fun x3 h4 => zR x3 ∧ (¬ x3 = (-1) → zCi G d mX12_pairLength [vr 12 466, vi x3] h4 (fun x5 h6 => zCi G d mX12_good [vr 12 466, vi x5] h6 (fun x7 h8 => K x7 h8))) ∧ (x3 = (-1) → zCi G d mX12_good [vr 12 466, vi (-2)] h4 (fun x9 h10 => K x9 h10)))) ∧ (¬ x1 ≤ 0 → zCi G d mX12_refused [vr 12 466, vi x1] h2 (fun x11 h12 => K x11 h12)))) : tX12_found_0 G d K l1 l2 l3 h := by
  unfold tX12_found_0
  refine z_aload_n 0 dX12_found_0 rfl rfl (Nat.le_of_ble_eq_true rfl) rfl ?_
  refine z_iconst dX12_found_1 rfl ?_
  refine z_putI 12 gX12_190 dX12_found_2 rfl ?_
  refine z_aload_n 0 dX12_found_5 rfl rfl (Nat.le_of_ble_eq_true rfl) rfl ?_
  refine z_iload_n 1 dX12_found_6 rfl rfl rfl ?_
  refine z_iload_n 2 dX12_found_7 rfl rfl rfl ?_
  refine z_iload_n 3 dX12_found_8 rfl rfl rfl ?_
  refine z_callVi vX12_refusesTwo kX12_663 dX12_found_9 rfl (zRo_d d) (as := [vi l1, vi l2, vi l3]) (rest := []) (Nat.le_of_ble_eq_true rfl) rfl rfl (zCi_mono (fun x1 h2 k => ?_) k)
  refine z_istore dX12_found_12 (Nat.le_of_ble_eq_true rfl) (L' := [some (vr 12 466), some (vi l1), some (vi l2), some (vi l3), some (vi x1), none]) rfl rfl ?_
  refine z_iload dX12_found_14 rfl rfl ?_
  obtain ⟨r1, ka, kb⟩ := k
  refine z_if_le (tgt := 26) dX12_found_16 rfl r1 rfl ⟨fun q => ?_, fun q => ?_⟩
  · have k := ka q
    refine z_aload_n 0 dX12_found_26 rfl rfl (Nat.le_of_ble_eq_true rfl) rfl ?_
    refine z_iload_n 1 dX12_found_27 rfl rfl rfl ?_
    refine z_iload_n 2 dX12_found_28 rfl rfl rfl ?_
    refine z_iload_n 3 dX12_found_29 rfl rfl rfl ?_
    refine z_callVi vX12_finds kX12_666 dX12_found_30 rfl (zRo_d d) (as := [vi l1, vi l2, vi l3]) (rest := []) (Nat.le_of_ble_eq_true rfl) rfl rfl (zCi_mono (fun x3 h4 k => ?_) k)
    refine z_istore dX12_found_33 (Nat.le_of_ble_eq_true rfl) (L' := [some (vr 12 466), some (vi l1), some (vi l2), some (vi l3), some (vi x1), some (vi x3)]) rfl rfl ?_
    refine z_aload_n 0 dX12_found_35 rfl rfl (Nat.le_of_ble_eq_true rfl) rfl ?_
    refine z_iload dX12_found_36 rfl rfl ?_
    refine z_iconst dX12_found_38 rfl ?_
    obtain ⟨r1, ka, kb⟩ := k
    refine z_icmp_ne (tgt := 47) dX12_found_39 rfl r1 ⟨by decide, by decide⟩ rfl ⟨fun q => ?_, fun q => ?_⟩
    · have k := ka q
      refine z_aload_n 0 dX12_found_47 rfl rfl (Nat.le_of_ble_eq_true rfl) rfl ?_
      refine z_iload dX12_found_48 rfl rfl ?_
      refine z_callVi vX12_pairLength kX12_669 dX12_found_50 rfl (zRo_d d) (as := [vi x3]) (rest := [vr 12 466]) (Nat.le_of_ble_eq_true rfl) rfl rfl (zCi_mono (fun x5 h6 k => ?_) k)
      refine z_callVi vX12_good kX12_196 dX12_found_53 rfl (zRo_d d) (as := [vi x5]) (rest := []) (Nat.le_of_ble_eq_true rfl) rfl rfl (zCi_mono (fun x7 h8 k => ?_) k)
      exact z_ireturn rfl dX12_found_56 ⟨_, rfl, k⟩
    · have k := kb q
      refine z_bipush dX12_found_42 rfl rfl ?_
      refine z_goto (tgt := 53) dX12_found_44 rfl ?_
      refine z_callVi vX12_good kX12_196 dX12_found_53 rfl (zRo_d d) (as := [vi (-2)]) (rest := []) (Nat.le_of_ble_eq_true rfl) rfl rfl (zCi_mono (fun x9 h10 k => ?_) k)
      exact z_ireturn rfl dX12_found_56 ⟨_, rfl, k⟩
  · have k := kb q
    refine z_aload_n 0 dX12_found_19 rfl rfl (Nat.le_of_ble_eq_true rfl) rfl ?_
    refine z_iload dX12_found_20 rfl rfl ?_
    refine z_callVi vX12_refused kX12_426 dX12_found_22 rfl (zRo_d d) (as := [vi x1]) (rest := []) (Nat.le_of_ble_eq_true rfl) rfl rfl (zCi_mono (fun x11 h12 k => ?_) k)
    exact z_ireturn rfl dX12_found_25 ⟨_, rfl, k⟩
theorem eX12_found {G : zG} {d : Nat} {K : Int → zH → Prop} {l1 : Int} {l2 : Int} {l3 : Int} {h : zH} (k : tX12_found_0 G d K l1 l2 l3 h) : zCi G (d + 1) mX12_found [vr 12 466, vi l1, vi l2, vi l3] h K := z_entry (by decide +kernel) (Nat.le_of_ble_eq_true rfl) rfl k
def tX12_foundLetter_0 (G : zG) (d : Nat) (K : Int → zH → Prop) (l1 : Int) (l2 : Int) (l3 : Int) (l4 : Int) (h : zH) : Prop := zTi G (d + 1) mX12_foundLetter K 0 [some (vr 12 466), some (vi l1), some (vi l2), some (vi l3), some (vi l4), none, none, none, none] [] h
def tX12_foundLetter_79 (G : zG) (d : Nat) (K : Int → zH → Prop) (l4 : Int) (l6 : Int) (l8 : Int) (h : zH) : Prop := zTi G (d + 1) mX12_foundLetter K 79 [some (vr 12 466), none, none, none, some (vi l4), none, some (vi l6), none, some (vi l8)] [] h
theorem bX12_foundLetter_0 {G : zG} {d : Nat} {K : Int → zH → Prop} {l1 : Int} {l2 : Int} {l3 : Int} {l4 : Int} {h : zH} (k : zCi G d mX12_refusesTwo [vr 12 466, vi l1, vi l2, vi l3] (zup h 466 0 0) (fun x1 h2 => zR x1 ∧ (x1 ≤ 0 → zCi G d mX12_finds [vr 12 466, vi l1, vi l2, vi l3] h2 (fun x3 h4 => zR x3 ∧ (x3 = (-1) → zCi G d mX12_refused [vr 12 466, vi 1] h4 (fun x5 h6 => K x5 h6)) ∧ (¬ x3 = (-1) → zR l4 ∧ (0 ≤ l4 → zCi G d mX12_pairLength [vr 12 466, vi x3] h4 (fun x7 h8 => zR l4 ∧ zR x7 ∧ (l4 < x7 → tX12_foundLetter_79 G d K l4 x3 (x7 - 1) h8) ∧ (¬ l4 < x7 → zCi G d mX12_refused [vr 12 466, vi 1] h8 (fun x9 h10 => K x9 h10)))) ∧ (¬ 0 ≤ l4 → zCi G d mX12_refused [vr 12 466, vi 1] h4 (fun x11 h12 => K x11 h12))))) ∧ (¬ x1 ≤ 0 → zCi G d mX12_refused [vr 12 466, vi x1] h2 (fun x13 h14 => K x13 h14)))) : tX12_foundLetter_0 G d K l1 l2 l3 l4 h := by
  unfold tX12_foundLetter_0
  refine z_aload_n 0 dX12_foundLetter_0 rfl rfl (Nat.le_of_ble_eq_true rfl) rfl ?_
  refine z_iconst dX12_foundLetter_1 rfl ?_
  refine z_putI 12 gX12_190 dX12_foundLetter_2 rfl ?_
  refine z_aload_n 0 dX12_foundLetter_5 rfl rfl (Nat.le_of_ble_eq_true rfl) rfl ?_
  refine z_iload_n 1 dX12_foundLetter_6 rfl rfl rfl ?_
  refine z_iload_n 2 dX12_foundLetter_7 rfl rfl rfl ?_
  refine z_iload_n 3 dX12_foundLetter_8 rfl rfl rfl ?_
  refine z_callVi vX12_refusesTwo kX12_663 dX12_foundLetter_9 rfl (zRo_d d) (as := [vi l1, vi l2, vi l3]) (rest := []) (Nat.le_of_ble_eq_true rfl) rfl rfl (zCi_mono (fun x1 h2 k => ?_) k)
  refine z_istore dX12_foundLetter_12 (Nat.le_of_ble_eq_true rfl) (L' := [some (vr 12 466), some (vi l1), some (vi l2), some (vi l3), some (vi l4), some (vi x1), none, none, none]) rfl rfl ?_
  refine z_iload dX12_foundLetter_14 rfl rfl ?_
  obtain ⟨r1, ka, kb⟩ := k
  refine z_if_le (tgt := 26) dX12_foundLetter_16 rfl r1 rfl ⟨fun q => ?_, fun q => ?_⟩
  · have k := ka q
    refine z_aload_n 0 dX12_foundLetter_26 rfl rfl (Nat.le_of_ble_eq_true rfl) rfl ?_
    refine z_iload_n 1 dX12_foundLetter_27 rfl rfl rfl ?_
    refine z_iload_n 2 dX12_foundLetter_28 rfl rfl rfl ?_
    refine z_iload_n 3 dX12_foundLetter_29 rfl rfl rfl ?_
    refine z_callVi vX12_finds kX12_666 dX12_foundLetter_30 rfl (zRo_d d) (as := [vi l1, vi l2, vi l3]) (rest := []) (Nat.le_of_ble_eq_true rfl) rfl rfl (zCi_mono (fun x3 h4 k => ?_) k)
    refine z_istore dX12_foundLetter_33 (Nat.le_of_ble_eq_true rfl) (L' := [some (vr 12 466), some (vi l1), some (vi l2), some (vi l3), some (vi l4), some (vi x1), some (vi x3), none, none]) rfl rfl ?_
    refine z_iload dX12_foundLetter_35 rfl rfl ?_
    refine z_iconst dX12_foundLetter_37 rfl ?_
    obtain ⟨r1, ka, kb⟩ := k
    refine z_icmp_eq (tgt := 46) dX12_foundLetter_38 rfl r1 ⟨by decide, by decide⟩ rfl ⟨fun q => ?_, fun q => ?_⟩
    · have k := ka q
      refine z_aload_n 0 dX12_foundLetter_46 rfl rfl (Nat.le_of_ble_eq_true rfl) rfl ?_
      refine z_iconst dX12_foundLetter_47 rfl ?_
      refine z_callVi vX12_refused kX12_426 dX12_foundLetter_48 rfl (zRo_d d) (as := [vi 1]) (rest := []) (Nat.le_of_ble_eq_true rfl) rfl rfl (zCi_mono (fun x5 h6 k => ?_) k)
      exact z_ireturn rfl dX12_foundLetter_51 ⟨_, rfl, k⟩
    · have k := kb q
      refine z_iload dX12_foundLetter_41 rfl rfl ?_
      obtain ⟨r1, ka, kb⟩ := k
      refine z_if_ge (tgt := 52) dX12_foundLetter_43 rfl r1 rfl ⟨fun q => ?_, fun q => ?_⟩
      · have k := ka q
        refine z_aload_n 0 dX12_foundLetter_52 rfl rfl (Nat.le_of_ble_eq_true rfl) rfl ?_
        refine z_iload dX12_foundLetter_53 rfl rfl ?_
        refine z_callVi vX12_pairLength kX12_669 dX12_foundLetter_55 rfl (zRo_d d) (as := [vi x3]) (rest := []) (Nat.le_of_ble_eq_true rfl) rfl rfl (zCi_mono (fun x7 h8 k => ?_) k)
        refine z_istore dX12_foundLetter_58 (Nat.le_of_ble_eq_true rfl) (L' := [some (vr 12 466), some (vi l1), some (vi l2), some (vi l3), some (vi l4), some (vi x1), some (vi x3), some (vi x7), none]) rfl rfl ?_
        refine z_iload dX12_foundLetter_60 rfl rfl ?_
        refine z_iload dX12_foundLetter_62 rfl rfl ?_
        obtain ⟨r1, r2, ka, kb⟩ := k
        refine z_icmp_lt (tgt := 73) dX12_foundLetter_64 rfl r1 r2 rfl ⟨fun q => ?_, fun q => ?_⟩
        · have k := ka q
          refine z_iload dX12_foundLetter_73 rfl rfl ?_
          refine z_iconst dX12_foundLetter_75 rfl ?_
          refine z_isub dX12_foundLetter_76 rfl ?_
          refine z_istore dX12_foundLetter_77 (Nat.le_of_ble_eq_true rfl) (L' := [some (vr 12 466), some (vi l1), some (vi l2), some (vi l3), some (vi l4), some (vi x1), some (vi x3), some (vi x7), some (vi (x7 - 1))]) rfl rfl ?_
          exact z_sub (L' := [some (vr 12 466), none, none, none, some (vi l4), none, some (vi x3), none, some (vi (x7 - 1))]) (And.intro rfl (And.intro rfl (And.intro rfl (And.intro rfl trivial)))) k
        · have k := kb q
          refine z_aload_n 0 dX12_foundLetter_67 rfl rfl (Nat.le_of_ble_eq_true rfl) rfl ?_
          refine z_iconst dX12_foundLetter_68 rfl ?_
          refine z_callVi vX12_refused kX12_426 dX12_foundLetter_69 rfl (zRo_d d) (as := [vi 1]) (rest := []) (Nat.le_of_ble_eq_true rfl) rfl rfl (zCi_mono (fun x9 h10 k => ?_) k)
          exact z_ireturn rfl dX12_foundLetter_72 ⟨_, rfl, k⟩
      · have k := kb q
        refine z_aload_n 0 dX12_foundLetter_46 rfl rfl (Nat.le_of_ble_eq_true rfl) rfl ?_
        refine z_iconst dX12_foundLetter_47 rfl ?_
        refine z_callVi vX12_refused kX12_426 dX12_foundLetter_48 rfl (zRo_d d) (as := [vi 1]) (rest := []) (Nat.le_of_ble_eq_true rfl) rfl rfl (zCi_mono (fun x11 h12 k => ?_) k)
        exact z_ireturn rfl dX12_foundLetter_51 ⟨_, rfl, k⟩
  · have k := kb q
    refine z_aload_n 0 dX12_foundLetter_19 rfl rfl (Nat.le_of_ble_eq_true rfl) rfl ?_
    refine z_iload dX12_foundLetter_20 rfl rfl ?_
    refine z_callVi vX12_refused kX12_426 dX12_foundLetter_22 rfl (zRo_d d) (as := [vi x1]) (rest := []) (Nat.le_of_ble_eq_true rfl) rfl rfl (zCi_mono (fun x13 h14 k => ?_) k)
    exact z_ireturn rfl dX12_foundLetter_25 ⟨_, rfl, k⟩
theorem bX12_foundLetter_79 {G : zG} {d : Nat} {K : Int → zH → Prop} {l4 : Int} {l6 : Int} {l8 : Int} {h : zH} (k : zR l8 ∧ zR l4 ∧ (l8 ≤ l4 → ((0 : Int) ≤ l6 ∧ l6 < 1600) ∧ zCi G d mX12_good [vr 12 466, vi (h 522 l6)] h (fun x1 h2 => K x1 h2)) ∧ (¬ l8 ≤ l4 → ((0 : Int) ≤ l6 ∧ l6 < 1600) ∧ tX12_foundLetter_79 G d K l4 (h 521 l6) (l8 + (-1)) h)) : tX12_foundLetter_79 G d K l4 l6 l8 h := by
  unfold tX12_foundLetter_79
  refine z_iload dX12_foundLetter_79 rfl rfl ?_
  refine z_iload dX12_foundLetter_81 rfl rfl ?_
  obtain ⟨r1, r2, ka, kb⟩ := k
  refine z_icmp_le (tgt := 101) dX12_foundLetter_83 rfl r1 r2 rfl ⟨fun q => ?_, fun q => ?_⟩
  · have k := ka q
    refine z_aload_n 0 dX12_foundLetter_101 rfl rfl (Nat.le_of_ble_eq_true rfl) rfl ?_
    refine z_aload_n 0 dX12_foundLetter_102 rfl rfl (Nat.le_of_ble_eq_true rfl) rfl ?_
    refine z_getF 12 13 (x := 522) fX12_181 rfl dX12_foundLetter_103 rfl rfl ?_
    refine z_iload dX12_foundLetter_106 rfl rfl ?_
    obtain ⟨i9, k⟩ := k
    refine z_iald (x := (h 522 l6)) dX12_foundLetter_108 (by rw [zl_522]; exact i9) rfl rfl ?_
    refine z_callVi vX12_good kX12_196 dX12_foundLetter_109 rfl (zRo_d d) (as := [vi (h 522 l6)]) (rest := []) (Nat.le_of_ble_eq_true rfl) rfl rfl (zCi_mono (fun x1 h2 k => ?_) k)
    exact z_ireturn rfl dX12_foundLetter_112 ⟨_, rfl, k⟩
  · have k := kb q
    refine z_aload_n 0 dX12_foundLetter_86 rfl rfl (Nat.le_of_ble_eq_true rfl) rfl ?_
    refine z_getF 12 13 (x := 521) fX12_178 rfl dX12_foundLetter_87 rfl rfl ?_
    refine z_iload dX12_foundLetter_90 rfl rfl ?_
    obtain ⟨i9, k⟩ := k
    refine z_iald (x := (h 521 l6)) dX12_foundLetter_92 (by rw [zl_521]; exact i9) rfl rfl ?_
    refine z_istore dX12_foundLetter_93 (Nat.le_of_ble_eq_true rfl) (L' := [some (vr 12 466), none, none, none, some (vi l4), none, some (vi (h 521 l6)), none, some (vi l8)]) rfl rfl ?_
    refine z_iinc dX12_foundLetter_95 rfl (Nat.le_of_ble_eq_true rfl) (L' := [some (vr 12 466), none, none, none, some (vi l4), none, some (vi (h 521 l6)), none, some (vi (l8 + (-1)))]) rfl rfl ?_
    refine z_goto (tgt := 79) dX12_foundLetter_98 rfl ?_
    exact z_sub (L' := [some (vr 12 466), none, none, none, some (vi l4), none, some (vi (h 521 l6)), none, some (vi (l8 + (-1)))]) (And.intro rfl (And.intro rfl (And.intro rfl (And.intro rfl trivial)))) k
theorem eX12_foundLetter {G : zG} {d : Nat} {K : Int → zH → Prop} {l1 : Int} {l2 : Int} {l3 : Int} {l4 : Int} {h : zH} (k : tX12_foundLetter_0 G d K l1 l2 l3 l4 h) : zCi G (d + 1) mX12_foundLetter [vr 12 466, vi l1, vi l2, vi l3, vi l4] h K := z_entry (by decide +kernel) (Nat.le_of_ble_eq_true rfl) rfl k
def tX12_same_0 (G : zG) (d : Nat) (K : Int → zH → Prop) (l1 : Int) (l2 : Int) (h : zH) : Prop := zTi G (d + 1) mX12_same K 0 [some (vr 12 466), some (vi l1), some (vi l2)] [] h
theorem bX12_same_0 {G : zG} {d : Nat} {K : Int → zH → Prop} {l1 : Int} {l2 : Int} {h : zH} (k : zCb G d mX12_isMachine [vr 12 466, vi l1] (zup h 466 0 0) (fun x1 h2 => (x1 = false → zCi G d mX12_refused [vr 12 466, vi 1] h2 (fun x3 h4 => K x3 h4)) ∧ (x1 = true → zCb G d mX12_isMachine [vr 12 466, vi l2] h2 (fun x5 h6 => (x5 = true → zCi G d mX12_finds [vr 12 466, vi l1, vi l2, vi 6] h6 (fun x7 h8 => zR x7 ∧ (¬ x7 = (-1) → zCi G d mX12_good [vr 12 466, vi 0] h8 (fun x9 h10 => K x9 h10)) ∧ (x7 = (-1) → zCi G d mX12_good [vr 12 466, vi 1] h8 (fun x11 h12 => K x11 h12)))) ∧ (x5 = false → zCi G d mX12_refused [vr 12 466, vi 1] h6 (fun x13 h14 => K x13 h14)))))) : tX12_same_0 G d K l1 l2 h := by
  unfold tX12_same_0
  refine z_aload_n 0 dX12_same_0 rfl rfl (Nat.le_of_ble_eq_true rfl) rfl ?_
  refine z_iconst dX12_same_1 rfl ?_
  refine z_putI 12 gX12_190 dX12_same_2 rfl ?_
  refine z_aload_n 0 dX12_same_5 rfl rfl (Nat.le_of_ble_eq_true rfl) rfl ?_
  refine z_iload_n 1 dX12_same_6 rfl rfl rfl ?_
  refine z_callVb vX12_isMachine kX12_561 dX12_same_7 rfl (zRo_d d) (as := [vi l1]) (rest := []) (Nat.le_of_ble_eq_true rfl) rfl rfl (zCb_mono (fun x1 h2 k => ?_) k)
  obtain ⟨ka, kb⟩ := k
  refine z_ifb_eq (tgt := 21) dX12_same_10 rfl rfl ⟨fun q => ?_, fun q => ?_⟩
  · have k := ka q
    refine z_aload_n 0 dX12_same_21 rfl rfl (Nat.le_of_ble_eq_true rfl) rfl ?_
    refine z_iconst dX12_same_22 rfl ?_
    refine z_callVi vX12_refused kX12_426 dX12_same_23 rfl (zRo_d d) (as := [vi 1]) (rest := []) (Nat.le_of_ble_eq_true rfl) rfl rfl (zCi_mono (fun x3 h4 k => ?_) k)
    exact z_ireturn rfl dX12_same_26 ⟨_, rfl, k⟩
  · have k := kb q
    refine z_aload_n 0 dX12_same_13 rfl rfl (Nat.le_of_ble_eq_true rfl) rfl ?_
    refine z_iload_n 2 dX12_same_14 rfl rfl rfl ?_
    refine z_callVb vX12_isMachine kX12_561 dX12_same_15 rfl (zRo_d d) (as := [vi l2]) (rest := []) (Nat.le_of_ble_eq_true rfl) rfl rfl (zCb_mono (fun x5 h6 k => ?_) k)
    obtain ⟨ka, kb⟩ := k
    refine z_ifb_ne (tgt := 27) dX12_same_18 rfl rfl ⟨fun q => ?_, fun q => ?_⟩
    · have k := ka q
      refine z_aload_n 0 dX12_same_27 rfl rfl (Nat.le_of_ble_eq_true rfl) rfl ?_
      refine z_aload_n 0 dX12_same_28 rfl rfl (Nat.le_of_ble_eq_true rfl) rfl ?_
      refine z_iload_n 1 dX12_same_29 rfl rfl rfl ?_
      refine z_iload_n 2 dX12_same_30 rfl rfl rfl ?_
      refine z_bipush dX12_same_31 rfl rfl ?_
      refine z_callVi vX12_finds kX12_666 dX12_same_33 rfl (zRo_d d) (as := [vi l1, vi l2, vi 6]) (rest := [vr 12 466]) (Nat.le_of_ble_eq_true rfl) rfl rfl (zCi_mono (fun x7 h8 k => ?_) k)
      refine z_iconst dX12_same_36 rfl ?_
      obtain ⟨r1, ka, kb⟩ := k
      refine z_icmp_ne (tgt := 44) dX12_same_37 rfl r1 ⟨by decide, by decide⟩ rfl ⟨fun q => ?_, fun q => ?_⟩
      · have k := ka q
        refine z_iconst dX12_same_44 rfl ?_
        refine z_callVi vX12_good kX12_196 dX12_same_45 rfl (zRo_d d) (as := [vi 0]) (rest := []) (Nat.le_of_ble_eq_true rfl) rfl rfl (zCi_mono (fun x9 h10 k => ?_) k)
        exact z_ireturn rfl dX12_same_48 ⟨_, rfl, k⟩
      · have k := kb q
        refine z_iconst dX12_same_40 rfl ?_
        refine z_goto (tgt := 45) dX12_same_41 rfl ?_
        refine z_callVi vX12_good kX12_196 dX12_same_45 rfl (zRo_d d) (as := [vi 1]) (rest := []) (Nat.le_of_ble_eq_true rfl) rfl rfl (zCi_mono (fun x11 h12 k => ?_) k)
        exact z_ireturn rfl dX12_same_48 ⟨_, rfl, k⟩
    · have k := kb q
      refine z_aload_n 0 dX12_same_21 rfl rfl (Nat.le_of_ble_eq_true rfl) rfl ?_
      refine z_iconst dX12_same_22 rfl ?_
      refine z_callVi vX12_refused kX12_426 dX12_same_23 rfl (zRo_d d) (as := [vi 1]) (rest := []) (Nat.le_of_ble_eq_true rfl) rfl rfl (zCi_mono (fun x13 h14 k => ?_) k)
      exact z_ireturn rfl dX12_same_26 ⟨_, rfl, k⟩
theorem eX12_same {G : zG} {d : Nat} {K : Int → zH → Prop} {l1 : Int} {l2 : Int} {h : zH} (k : tX12_same_0 G d K l1 l2 h) : zCi G (d + 1) mX12_same [vr 12 466, vi l1, vi l2] h K := z_entry (by decide +kernel) (Nat.le_of_ble_eq_true rfl) rfl k
def tX12_within_0 (G : zG) (d : Nat) (K : Int → zH → Prop) (l1 : Int) (l2 : Int) (h : zH) : Prop := zTi G (d + 1) mX12_within K 0 [some (vr 12 466), some (vi l1), some (vi l2)] [] h
theorem bX12_within_0 {G : zG} {d : Nat} {K : Int → zH → Prop} {l1 : Int} {l2 : Int} {h : zH} (k : zCb G d mX12_isMachine [vr 12 466, vi l1] (zup h 466 0 0) (fun x1 h2 => (x1 = false → zCi G d mX12_refused [vr 12 466, vi 1] h2 (fun x3 h4 => K x3 h4)) ∧ (x1 = true → zCb G d mX12_isMachine [vr 12 466, vi l2] h2 (fun x5 h6 => (x5 = true → zCi G d mX12_finds [vr 12 466, vi l1, vi l2, vi 2] h6 (fun x7 h8 => zR x7 ∧ (¬ x7 = (-1) → zCi G d mX12_good [vr 12 466, vi 0] h8 (fun x9 h10 => K x9 h10)) ∧ (x7 = (-1) → zCi G d mX12_good [vr 12 466, vi 1] h8 (fun x11 h12 => K x11 h12)))) ∧ (x5 = false → zCi G d mX12_refused [vr 12 466, vi 1] h6 (fun x13 h14 => K x13 h14)))))) : tX12_within_0 G d K l1 l2 h := by
  unfold tX12_within_0
  refine z_aload_n 0 dX12_within_0 rfl rfl (Nat.le_of_ble_eq_true rfl) rfl ?_
  refine z_iconst dX12_within_1 rfl ?_
  refine z_putI 12 gX12_190 dX12_within_2 rfl ?_
  refine z_aload_n 0 dX12_within_5 rfl rfl (Nat.le_of_ble_eq_true rfl) rfl ?_
  refine z_iload_n 1 dX12_within_6 rfl rfl rfl ?_
  refine z_callVb vX12_isMachine kX12_561 dX12_within_7 rfl (zRo_d d) (as := [vi l1]) (rest := []) (Nat.le_of_ble_eq_true rfl) rfl rfl (zCb_mono (fun x1 h2 k => ?_) k)
  obtain ⟨ka, kb⟩ := k
  refine z_ifb_eq (tgt := 21) dX12_within_10 rfl rfl ⟨fun q => ?_, fun q => ?_⟩
  · have k := ka q
    refine z_aload_n 0 dX12_within_21 rfl rfl (Nat.le_of_ble_eq_true rfl) rfl ?_
    refine z_iconst dX12_within_22 rfl ?_
    refine z_callVi vX12_refused kX12_426 dX12_within_23 rfl (zRo_d d) (as := [vi 1]) (rest := []) (Nat.le_of_ble_eq_true rfl) rfl rfl (zCi_mono (fun x3 h4 k => ?_) k)
    exact z_ireturn rfl dX12_within_26 ⟨_, rfl, k⟩
  · have k := kb q
    refine z_aload_n 0 dX12_within_13 rfl rfl (Nat.le_of_ble_eq_true rfl) rfl ?_
    refine z_iload_n 2 dX12_within_14 rfl rfl rfl ?_
    refine z_callVb vX12_isMachine kX12_561 dX12_within_15 rfl (zRo_d d) (as := [vi l2]) (rest := []) (Nat.le_of_ble_eq_true rfl) rfl rfl (zCb_mono (fun x5 h6 k => ?_) k)
    obtain ⟨ka, kb⟩ := k
    refine z_ifb_ne (tgt := 27) dX12_within_18 rfl rfl ⟨fun q => ?_, fun q => ?_⟩
    · have k := ka q
      refine z_aload_n 0 dX12_within_27 rfl rfl (Nat.le_of_ble_eq_true rfl) rfl ?_
      refine z_aload_n 0 dX12_within_28 rfl rfl (Nat.le_of_ble_eq_true rfl) rfl ?_
      refine z_iload_n 1 dX12_within_29 rfl rfl rfl ?_
      refine z_iload_n 2 dX12_within_30 rfl rfl rfl ?_
      refine z_iconst dX12_within_31 rfl ?_
      refine z_callVi vX12_finds kX12_666 dX12_within_32 rfl (zRo_d d) (as := [vi l1, vi l2, vi 2]) (rest := [vr 12 466]) (Nat.le_of_ble_eq_true rfl) rfl rfl (zCi_mono (fun x7 h8 k => ?_) k)
      refine z_iconst dX12_within_35 rfl ?_
      obtain ⟨r1, ka, kb⟩ := k
      refine z_icmp_ne (tgt := 43) dX12_within_36 rfl r1 ⟨by decide, by decide⟩ rfl ⟨fun q => ?_, fun q => ?_⟩
      · have k := ka q
        refine z_iconst dX12_within_43 rfl ?_
        refine z_callVi vX12_good kX12_196 dX12_within_44 rfl (zRo_d d) (as := [vi 0]) (rest := []) (Nat.le_of_ble_eq_true rfl) rfl rfl (zCi_mono (fun x9 h10 k => ?_) k)
        exact z_ireturn rfl dX12_within_47 ⟨_, rfl, k⟩
      · have k := kb q
        refine z_iconst dX12_within_39 rfl ?_
        refine z_goto (tgt := 44) dX12_within_40 rfl ?_
        refine z_callVi vX12_good kX12_196 dX12_within_44 rfl (zRo_d d) (as := [vi 1]) (rest := []) (Nat.le_of_ble_eq_true rfl) rfl rfl (zCi_mono (fun x11 h12 k => ?_) k)
        exact z_ireturn rfl dX12_within_47 ⟨_, rfl, k⟩
    · have k := kb q
      refine z_aload_n 0 dX12_within_21 rfl rfl (Nat.le_of_ble_eq_true rfl) rfl ?_
      refine z_iconst dX12_within_22 rfl ?_
      refine z_callVi vX12_refused kX12_426 dX12_within_23 rfl (zRo_d d) (as := [vi 1]) (rest := []) (Nat.le_of_ble_eq_true rfl) rfl rfl (zCi_mono (fun x13 h14 k => ?_) k)
      exact z_ireturn rfl dX12_within_26 ⟨_, rfl, k⟩
theorem eX12_within {G : zG} {d : Nat} {K : Int → zH → Prop} {l1 : Int} {l2 : Int} {h : zH} (k : tX12_within_0 G d K l1 l2 h) : zCi G (d + 1) mX12_within [vr 12 466, vi l1, vi l2] h K := z_entry (by decide +kernel) (Nat.le_of_ble_eq_true rfl) rfl k
def tX12_makes_0 (G : zG) (d : Nat) (K : Int → zH → Prop) (h : zH) : Prop := zTi G (d + 1) mX12_makes K 0 [some (vr 12 466)] [] h
theorem bX12_makes_0 {G : zG} {d : Nat} {K : Int → zH → Prop} {h : zH} (k : zR (h 466 64) ∧ ((h 466 64) = 10 → zCi G d mX12_refused [vr 12 466, vi 3] h (fun x1 h2 => K x1 h2)) ∧ (¬ (h 466 64) = 10 → zCb G d mX12_settles [vr 12 466, vi (h 466 64)] h (fun x3 h4 => (x3 = true → zCi G d mX12_good [vr 12 466, vi (((h4 466 64) + 1) - 1)] (zup h4 466 64 ((h4 466 64) + 1)) (fun x5 h6 => K x5 h6)) ∧ (x3 = false → zCi G d mX12_refused [vr 12 466, vi 3] h4 (fun x7 h8 => K x7 h8))))) : tX12_makes_0 G d K h := by
  unfold tX12_makes_0
  refine z_aload_n 0 dX12_makes_0 rfl rfl (Nat.le_of_ble_eq_true rfl) rfl ?_
  refine z_getI 12 (x := (h 466 64)) fX12_441 rfl dX12_makes_1 rfl rfl ?_
  refine z_bipush dX12_makes_4 rfl rfl ?_
  obtain ⟨r1, ka, kb⟩ := k
  refine z_icmp_eq (tgt := 20) dX12_makes_6 rfl r1 ⟨by decide, by decide⟩ rfl ⟨fun q => ?_, fun q => ?_⟩
  · have k := ka q
    refine z_aload_n 0 dX12_makes_20 rfl rfl (Nat.le_of_ble_eq_true rfl) rfl ?_
    refine z_iconst dX12_makes_21 rfl ?_
    refine z_callVi vX12_refused kX12_426 dX12_makes_22 rfl (zRo_d d) (as := [vi 3]) (rest := []) (Nat.le_of_ble_eq_true rfl) rfl rfl (zCi_mono (fun x1 h2 k => ?_) k)
    exact z_ireturn rfl dX12_makes_25 ⟨_, rfl, k⟩
  · have k := kb q
    refine z_aload_n 0 dX12_makes_9 rfl rfl (Nat.le_of_ble_eq_true rfl) rfl ?_
    refine z_aload_n 0 dX12_makes_10 rfl rfl (Nat.le_of_ble_eq_true rfl) rfl ?_
    refine z_getI 12 (x := (h 466 64)) fX12_441 rfl dX12_makes_11 rfl rfl ?_
    refine z_callVb vX12_settles kX12_389 dX12_makes_14 rfl (zRo_d d) (as := [vi (h 466 64)]) (rest := []) (Nat.le_of_ble_eq_true rfl) rfl rfl (zCb_mono (fun x3 h4 k => ?_) k)
    obtain ⟨ka, kb⟩ := k
    refine z_ifb_ne (tgt := 26) dX12_makes_17 rfl rfl ⟨fun q => ?_, fun q => ?_⟩
    · have k := ka q
      refine z_aload_n 0 dX12_makes_26 rfl rfl (Nat.le_of_ble_eq_true rfl) rfl ?_
      refine z_dup dX12_makes_27 (fun q => by cases q) rfl ?_
      refine z_getI 12 (x := (h4 466 64)) fX12_441 rfl dX12_makes_28 rfl rfl ?_
      refine z_iconst dX12_makes_31 rfl ?_
      refine z_iadd dX12_makes_32 rfl ?_
      refine z_putI 12 gX12_441 dX12_makes_33 rfl ?_
      refine z_aload_n 0 dX12_makes_36 rfl rfl (Nat.le_of_ble_eq_true rfl) rfl ?_
      refine z_aload_n 0 dX12_makes_37 rfl rfl (Nat.le_of_ble_eq_true rfl) rfl ?_
      refine z_getI 12 (x := ((h4 466 64) + 1)) fX12_441 rfl dX12_makes_38 (by simp [zup]) rfl ?_
      refine z_iconst dX12_makes_41 rfl ?_
      refine z_isub dX12_makes_42 rfl ?_
      refine z_callVi vX12_good kX12_196 dX12_makes_43 rfl (zRo_d d) (as := [vi (((h4 466 64) + 1) - 1)]) (rest := []) (Nat.le_of_ble_eq_true rfl) rfl rfl (zCi_mono (fun x5 h6 k => ?_) k)
      exact z_ireturn rfl dX12_makes_46 ⟨_, rfl, k⟩
    · have k := kb q
      refine z_aload_n 0 dX12_makes_20 rfl rfl (Nat.le_of_ble_eq_true rfl) rfl ?_
      refine z_iconst dX12_makes_21 rfl ?_
      refine z_callVi vX12_refused kX12_426 dX12_makes_22 rfl (zRo_d d) (as := [vi 3]) (rest := []) (Nat.le_of_ble_eq_true rfl) rfl rfl (zCi_mono (fun x7 h8 k => ?_) k)
      exact z_ireturn rfl dX12_makes_25 ⟨_, rfl, k⟩
theorem eX12_makes {G : zG} {d : Nat} {K : Int → zH → Prop} {h : zH} (k : tX12_makes_0 G d K h) : zCi G (d + 1) mX12_makes [vr 12 466] h K := z_entry (by decide +kernel) (Nat.le_of_ble_eq_true rfl) rfl k
def tX12_mostMachines_0 (G : zG) (d : Nat) (K : Int → zH → Prop) (h : zH) : Prop := zTi G d mX12_mostMachines K 0 [some (vr 12 466)] [] h
theorem bX12_mostMachines_0 {G : zG} {d : Nat} {K : Int → zH → Prop} {h : zH} (k : zR (h 466 64) ∧ (¬ (h 466 64) = 10 → K 0 h) ∧ ((h 466 64) = 10 → K 3 h)) : tX12_mostMachines_0 G d K h := by
  unfold tX12_mostMachines_0
  refine z_aload_n 0 dX12_mostMachines_0 rfl rfl (Nat.le_of_ble_eq_true rfl) rfl ?_
  refine z_getI 12 (x := (h 466 64)) fX12_441 rfl dX12_mostMachines_1 rfl rfl ?_
  refine z_bipush dX12_mostMachines_4 rfl rfl ?_
  obtain ⟨r1, ka, kb⟩ := k
  refine z_icmp_ne (tgt := 13) dX12_mostMachines_6 rfl r1 ⟨by decide, by decide⟩ rfl ⟨fun q => ?_, fun q => ?_⟩
  · have k := ka q
    refine z_iconst dX12_mostMachines_13 rfl ?_
    exact z_ireturn rfl dX12_mostMachines_14 ⟨_, rfl, k⟩
  · have k := kb q
    refine z_iconst dX12_mostMachines_9 rfl ?_
    refine z_goto (tgt := 14) dX12_mostMachines_10 rfl ?_
    exact z_ireturn rfl dX12_mostMachines_14 ⟨_, rfl, k⟩
theorem eX12_mostMachines {G : zG} {d : Nat} {K : Int → zH → Prop} {h : zH} (k : tX12_mostMachines_0 G d K h) : zCi G d mX12_mostMachines [vr 12 466] h K := z_entry (by decide +kernel) (Nat.le_of_ble_eq_true rfl) rfl k
def tX12_refusesOne_0 (G : zG) (d : Nat) (K : Int → zH → Prop) (l1 : Int) (h : zH) : Prop := zTi G (d + 1) mX12_refusesOne K 0 [some (vr 12 466), some (vi l1)] [] h
theorem bX12_refusesOne_0 {G : zG} {d : Nat} {K : Int → zH → Prop} {l1 : Int} {h : zH} (k : zCb G d mX12_isMachine [vr 12 466, vi l1] h (fun x1 h2 => (x1 = false → K 1 h2) ∧ (x1 = true → zCi G d mX12_mostMachines [vr 12 466] h2 (fun x3 h4 => K x3 h4)))) : tX12_refusesOne_0 G d K l1 h := by
  unfold tX12_refusesOne_0
  refine z_aload_n 0 dX12_refusesOne_0 rfl rfl (Nat.le_of_ble_eq_true rfl) rfl ?_
  refine z_iload_n 1 dX12_refusesOne_1 rfl rfl rfl ?_
  refine z_callVb vX12_isMachine kX12_561 dX12_refusesOne_2 rfl (zRo_d d) (as := [vi l1]) (rest := []) (Nat.le_of_ble_eq_true rfl) rfl rfl (zCb_mono (fun x1 h2 k => ?_) k)
  obtain ⟨ka, kb⟩ := k
  refine z_ifb_eq (tgt := 15) dX12_refusesOne_5 rfl rfl ⟨fun q => ?_, fun q => ?_⟩
  · have k := ka q
    refine z_iconst dX12_refusesOne_15 rfl ?_
    exact z_ireturn rfl dX12_refusesOne_16 ⟨_, rfl, k⟩
  · have k := kb q
    refine z_aload_n 0 dX12_refusesOne_8 rfl rfl (Nat.le_of_ble_eq_true rfl) rfl ?_
    refine z_callVi vX12_mostMachines kX12_672 dX12_refusesOne_9 rfl (zRo_d d) (as := []) (rest := []) (Nat.le_of_ble_eq_true rfl) rfl rfl (zCi_mono (fun x3 h4 k => ?_) k)
    refine z_goto (tgt := 16) dX12_refusesOne_12 rfl ?_
    exact z_ireturn rfl dX12_refusesOne_16 ⟨_, rfl, k⟩
theorem eX12_refusesOne {G : zG} {d : Nat} {K : Int → zH → Prop} {l1 : Int} {h : zH} (k : tX12_refusesOne_0 G d K l1 h) : zCi G (d + 1) mX12_refusesOne [vr 12 466, vi l1] h K := z_entry (by decide +kernel) (Nat.le_of_ble_eq_true rfl) rfl k
def tX12_buildsTable_0 (G : zG) (d : Nat) (K : zH → Prop) (l1 : Int) (l2 : Int) (l3 : Int) (l4 : Int) (l5 : Int) (l6 : Int) (h : zH) : Prop := zTv G (d + 1) mX12_buildsTable K 0 [some (vr 12 466), some (vi l1), some (vr 13 l2), some (vi l3), some (vr 13 l4), some (vi l5), some (vi l6), none, none, none, none, none] [] h
def tX12_buildsTable_8 (G : zG) (d : Nat) (K : zH → Prop) (l1 : Int) (l2 : Int) (l3 : Int) (l4 : Int) (l5 : Int) (l6 : Int) (l7 : Int) (h : zH) : Prop := zTv G (d + 1) mX12_buildsTable K 8 [some (vr 12 466), some (vi l1), some (vr 13 l2), some (vi l3), some (vr 13 l4), some (vi l5), some (vi l6), some (vi l7), none, none, none, none] [] h
def tX12_buildsTable_24 (G : zG) (d : Nat) (K : zH → Prop) (l1 : Int) (l2 : Int) (l3 : Int) (l4 : Int) (l5 : Int) (l6 : Int) (l7 : Int) (l8 : Int) (h : zH) : Prop := zTv G (d + 1) mX12_buildsTable K 24 [some (vr 12 466), some (vi l1), some (vr 13 l2), some (vi l3), some (vr 13 l4), some (vi l5), some (vi l6), some (vi l7), some (vi l8), none, none, none] [] h
def tX12_buildsTable_55 (G : zG) (d : Nat) (K : zH → Prop) (l1 : Int) (l2 : Int) (l3 : Int) (l4 : Int) (l5 : Int) (l6 : Int) (l7 : Int) (l8 : Int) (l9 : Int) (l10 : Int) (l11 : Int) (h : zH) : Prop := zTv G (d + 1) mX12_buildsTable K 55 [some (vr 12 466), some (vi l1), some (vr 13 l2), some (vi l3), some (vr 13 l4), some (vi l5), some (vi l6), some (vi l7), some (vi l8), some (vi l9), some (vi l10), some (vi l11)] [] h
def tX12_buildsTable_115 (G : zG) (d : Nat) (K : zH → Prop) (l1 : Int) (l2 : Int) (l3 : Int) (l4 : Int) (l5 : Int) (l6 : Int) (l7 : Int) (l8 : Int) (l9 : Int) (l11 : Int) (h : zH) : Prop := zTv G (d + 1) mX12_buildsTable K 115 [some (vr 12 466), some (vi l1), some (vr 13 l2), some (vi l3), some (vr 13 l4), some (vi l5), some (vi l6), some (vi l7), some (vi l8), some (vi l9), none, some (vi l11)] [] h
theorem bX12_buildsTable_0 {G : zG} {d : Nat} {K : zH → Prop} {l1 : Int} {l2 : Int} {l3 : Int} {l4 : Int} {l5 : Int} {l6 : Int} {h : zH} (k : zCv G d mX12_builds [vr 12 466, vi l1] h (fun h2 => tX12_buildsTable_8 G d K l1 l2 l3 l4 l5 l6 0 h2)) : tX12_buildsTable_0 G d K l1 l2 l3 l4 l5 l6 h := by
  unfold tX12_buildsTable_0
  refine z_aload_n 0 dX12_buildsTable_0 rfl rfl (Nat.le_of_ble_eq_true rfl) rfl ?_
  refine z_iload_n 1 dX12_buildsTable_1 rfl rfl rfl ?_
  refine z_callVv vX12_builds kX12_500 dX12_buildsTable_2 rfl (zRo_d d) (as := [vi l1]) (rest := []) (Nat.le_of_ble_eq_true rfl) rfl rfl (zCv_mono (fun h2 k => ?_) k)
  refine z_iconst dX12_buildsTable_5 rfl ?_
  refine z_istore dX12_buildsTable_6 (Nat.le_of_ble_eq_true rfl) (L' := [some (vr 12 466), some (vi l1), some (vr 13 l2), some (vi l3), some (vr 13 l4), some (vi l5), some (vi l6), some (vi 0), none, none, none, none]) rfl rfl ?_
  exact z_sub (L' := [some (vr 12 466), some (vi l1), some (vr 13 l2), some (vi l3), some (vr 13 l4), some (vi l5), some (vi l6), some (vi 0), none, none, none, none]) (And.intro rfl (And.intro rfl (And.intro rfl (And.intro rfl (And.intro rfl (And.intro rfl (And.intro rfl (And.intro rfl trivial)))))))) k
theorem bX12_buildsTable_8 {G : zG} {d : Nat} {K : zH → Prop} {l1 : Int} {l2 : Int} {l3 : Int} {l4 : Int} {l5 : Int} {l6 : Int} {l7 : Int} {h : zH} (k : zR l7 ∧ zR l1 ∧ (l1 ≤ l7 → K h) ∧ (¬ l1 ≤ l7 → zR (h 466 51) ∧ (¬ (h 466 51) = 0 → K h) ∧ ((h 466 51) = 0 → tX12_buildsTable_24 G d K l1 l2 l3 l4 l5 l6 l7 0 h))) : tX12_buildsTable_8 G d K l1 l2 l3 l4 l5 l6 l7 h := by
  unfold tX12_buildsTable_8
  refine z_iload dX12_buildsTable_8 rfl rfl ?_
  refine z_iload_n 1 dX12_buildsTable_10 rfl rfl rfl ?_
  obtain ⟨r1, r2, ka, kb⟩ := k
  refine z_icmp_ge (tgt := 192) dX12_buildsTable_11 rfl r1 r2 rfl ⟨fun q => ?_, fun q => ?_⟩
  · have k := ka q
    exact z_return rfl dX12_buildsTable_192 ⟨rfl, k⟩
  · have k := kb q
    refine z_aload_n 0 dX12_buildsTable_14 rfl rfl (Nat.le_of_ble_eq_true rfl) rfl ?_
    refine z_getZ 12 (x := (h 466 51)) fX12_496 rfl dX12_buildsTable_15 rfl rfl ?_
    obtain ⟨r1, ka, kb⟩ := k
    refine z_if_ne (tgt := 192) dX12_buildsTable_18 rfl r1 rfl ⟨fun q => ?_, fun q => ?_⟩
    · have k := ka q
      exact z_return rfl dX12_buildsTable_192 ⟨rfl, k⟩
    · have k := kb q
      refine z_iconst dX12_buildsTable_21 rfl ?_
      refine z_istore dX12_buildsTable_22 (Nat.le_of_ble_eq_true rfl) (L' := [some (vr 12 466), some (vi l1), some (vr 13 l2), some (vi l3), some (vr 13 l4), some (vi l5), some (vi l6), some (vi l7), some (vi 0), none, none, none]) rfl rfl ?_
      exact z_sub (L' := [some (vr 12 466), some (vi l1), some (vr 13 l2), some (vi l3), some (vr 13 l4), some (vi l5), some (vi l6), some (vi l7), some (vi 0), none, none, none]) (And.intro rfl (And.intro rfl (And.intro rfl (And.intro rfl (And.intro rfl (And.intro rfl (And.intro rfl (And.intro rfl (And.intro rfl trivial))))))))) k
theorem bX12_buildsTable_24 {G : zG} {d : Nat} {K : zH → Prop} {l1 : Int} {l2 : Int} {l3 : Int} {l4 : Int} {l5 : Int} {l6 : Int} {l7 : Int} {l8 : Int} {h : zH} (k : zR l8 ∧ zR l6 ∧ (l6 ≤ l8 → tX12_buildsTable_8 G d K l1 l2 l3 l4 l5 l6 (l7 + 1) h) ∧ (¬ l6 ≤ l8 → zR (h 466 51) ∧ (¬ (h 466 51) = 0 → tX12_buildsTable_8 G d K l1 l2 l3 l4 l5 l6 (l7 + 1) h) ∧ ((h 466 51) = 0 → ((0 : Int) ≤ ((l7 * l3) + l8) ∧ ((l7 * l3) + l8) < zln l2) ∧ tX12_buildsTable_55 G d K l1 l2 l3 l4 l5 l6 l7 l8 (h l2 ((l7 * l3) + l8)) 0 0 h))) : tX12_buildsTable_24 G d K l1 l2 l3 l4 l5 l6 l7 l8 h := by
  unfold tX12_buildsTable_24
  refine z_iload dX12_buildsTable_24 rfl rfl ?_
  refine z_iload dX12_buildsTable_26 rfl rfl ?_
  obtain ⟨r1, r2, ka, kb⟩ := k
  refine z_icmp_ge (tgt := 186) dX12_buildsTable_28 rfl r1 r2 rfl ⟨fun q => ?_, fun q => ?_⟩
  · have k := ka q
    refine z_iinc dX12_buildsTable_186 rfl (Nat.le_of_ble_eq_true rfl) (L' := [some (vr 12 466), some (vi l1), some (vr 13 l2), some (vi l3), some (vr 13 l4), some (vi l5), some (vi l6), some (vi (l7 + 1)), some (vi l8), none, none, none]) rfl rfl ?_
    refine z_goto (tgt := 8) dX12_buildsTable_189 rfl ?_
    exact z_sub (L' := [some (vr 12 466), some (vi l1), some (vr 13 l2), some (vi l3), some (vr 13 l4), some (vi l5), some (vi l6), some (vi (l7 + 1)), none, none, none, none]) (And.intro rfl (And.intro rfl (And.intro rfl (And.intro rfl (And.intro rfl (And.intro rfl (And.intro rfl (And.intro rfl trivial)))))))) k
  · have k := kb q
    refine z_aload_n 0 dX12_buildsTable_31 rfl rfl (Nat.le_of_ble_eq_true rfl) rfl ?_
    refine z_getZ 12 (x := (h 466 51)) fX12_496 rfl dX12_buildsTable_32 rfl rfl ?_
    obtain ⟨r1, ka, kb⟩ := k
    refine z_if_ne (tgt := 186) dX12_buildsTable_35 rfl r1 rfl ⟨fun q => ?_, fun q => ?_⟩
    · have k := ka q
      refine z_iinc dX12_buildsTable_186 rfl (Nat.le_of_ble_eq_true rfl) (L' := [some (vr 12 466), some (vi l1), some (vr 13 l2), some (vi l3), some (vr 13 l4), some (vi l5), some (vi l6), some (vi (l7 + 1)), some (vi l8), none, none, none]) rfl rfl ?_
      refine z_goto (tgt := 8) dX12_buildsTable_189 rfl ?_
      exact z_sub (L' := [some (vr 12 466), some (vi l1), some (vr 13 l2), some (vi l3), some (vr 13 l4), some (vi l5), some (vi l6), some (vi (l7 + 1)), none, none, none, none]) (And.intro rfl (And.intro rfl (And.intro rfl (And.intro rfl (And.intro rfl (And.intro rfl (And.intro rfl (And.intro rfl trivial)))))))) k
    · have k := kb q
      refine z_aload_n 2 dX12_buildsTable_38 rfl rfl (Nat.le_of_ble_eq_true rfl) rfl ?_
      refine z_iload dX12_buildsTable_39 rfl rfl ?_
      refine z_iload_n 3 dX12_buildsTable_41 rfl rfl rfl ?_
      refine z_imul dX12_buildsTable_42 rfl ?_
      refine z_iload dX12_buildsTable_43 rfl rfl ?_
      refine z_iadd dX12_buildsTable_45 rfl ?_
      obtain ⟨i9, k⟩ := k
      refine z_iald (x := (h l2 ((l7 * l3) + l8))) dX12_buildsTable_46 i9 rfl rfl ?_
      refine z_istore dX12_buildsTable_47 (Nat.le_of_ble_eq_true rfl) (L' := [some (vr 12 466), some (vi l1), some (vr 13 l2), some (vi l3), some (vr 13 l4), some (vi l5), some (vi l6), some (vi l7), some (vi l8), some (vi (h l2 ((l7 * l3) + l8))), none, none]) rfl rfl ?_
      refine z_iconst dX12_buildsTable_49 rfl ?_
      refine z_istore dX12_buildsTable_50 (Nat.le_of_ble_eq_true rfl) (L' := [some (vr 12 466), some (vi l1), some (vr 13 l2), some (vi l3), some (vr 13 l4), some (vi l5), some (vi l6), some (vi l7), some (vi l8), some (vi (h l2 ((l7 * l3) + l8))), some (vi 0), none]) rfl rfl ?_
      refine z_iconst dX12_buildsTable_52 rfl ?_
      refine z_istore dX12_buildsTable_53 (Nat.le_of_ble_eq_true rfl) (L' := [some (vr 12 466), some (vi l1), some (vr 13 l2), some (vi l3), some (vr 13 l4), some (vi l5), some (vi l6), some (vi l7), some (vi l8), some (vi (h l2 ((l7 * l3) + l8))), some (vi 0), some (vi 0)]) rfl rfl ?_
      exact z_sub (L' := [some (vr 12 466), some (vi l1), some (vr 13 l2), some (vi l3), some (vr 13 l4), some (vi l5), some (vi l6), some (vi l7), some (vi l8), some (vi (h l2 ((l7 * l3) + l8))), some (vi 0), some (vi 0)]) (And.intro rfl (And.intro rfl (And.intro rfl (And.intro rfl (And.intro rfl (And.intro rfl (And.intro rfl (And.intro rfl (And.intro rfl (And.intro rfl (And.intro rfl (And.intro rfl trivial)))))))))))) k
theorem bX12_buildsTable_55 {G : zG} {d : Nat} {K : zH → Prop} {l1 : Int} {l2 : Int} {l3 : Int} {l4 : Int} {l5 : Int} {l6 : Int} {l7 : Int} {l8 : Int} {l9 : Int} {l10 : Int} {l11 : Int} {h : zH} (k : zR l11 ∧ zR l8 ∧ (l8 ≤ l11 → zR l10 ∧ (¬ l10 = 0 → tX12_buildsTable_24 G d K l1 l2 l3 l4 l5 l6 l7 (l8 + 1) h) ∧ (l10 = 0 → zCb G d mX12_buildsEdge [vr 12 466, vi l7, vi l9] h (fun x1 h2 => (x1 = true → tX12_buildsTable_115 G d K l1 l2 l3 l4 l5 l6 l7 l8 l9 l8 h2) ∧ (x1 = false → tX12_buildsTable_24 G d K l1 l2 l3 l4 l5 l6 l7 (l8 + 1) h2)))) ∧ (¬ l8 ≤ l11 → ((0 : Int) ≤ ((l7 * l3) + l11) ∧ ((l7 * l3) + l11) < zln l2) ∧ zR (h l2 ((l7 * l3) + l11)) ∧ zR l9 ∧ (¬ (h l2 ((l7 * l3) + l11)) = l9 → tX12_buildsTable_55 G d K l1 l2 l3 l4 l5 l6 l7 l8 l9 (zior l10 0) (l11 + 1) h) ∧ ((h l2 ((l7 * l3) + l11)) = l9 → tX12_buildsTable_55 G d K l1 l2 l3 l4 l5 l6 l7 l8 l9 (zior l10 1) (l11 + 1) h))) : tX12_buildsTable_55 G d K l1 l2 l3 l4 l5 l6 l7 l8 l9 l10 l11 h := by
  unfold tX12_buildsTable_55
  refine z_iload dX12_buildsTable_55 rfl rfl ?_
  refine z_iload dX12_buildsTable_57 rfl rfl ?_
  obtain ⟨r1, r2, ka, kb⟩ := k
  refine z_icmp_ge (tgt := 92) dX12_buildsTable_59 rfl r1 r2 rfl ⟨fun q => ?_, fun q => ?_⟩
  · have k := ka q
    refine z_iload dX12_buildsTable_92 rfl rfl ?_
    obtain ⟨r1, ka, kb⟩ := k
    refine z_if_ne (tgt := 180) dX12_buildsTable_94 rfl r1 rfl ⟨fun q => ?_, fun q => ?_⟩
    · have k := ka q
      refine z_iinc dX12_buildsTable_180 rfl (Nat.le_of_ble_eq_true rfl) (L' := [some (vr 12 466), some (vi l1), some (vr 13 l2), some (vi l3), some (vr 13 l4), some (vi l5), some (vi l6), some (vi l7), some (vi (l8 + 1)), some (vi l9), some (vi l10), some (vi l11)]) rfl rfl ?_
      refine z_goto (tgt := 24) dX12_buildsTable_183 rfl ?_
      exact z_sub (L' := [some (vr 12 466), some (vi l1), some (vr 13 l2), some (vi l3), some (vr 13 l4), some (vi l5), some (vi l6), some (vi l7), some (vi (l8 + 1)), none, none, none]) (And.intro rfl (And.intro rfl (And.intro rfl (And.intro rfl (And.intro rfl (And.intro rfl (And.intro rfl (And.intro rfl (And.intro rfl trivial))))))))) k
    · have k := kb q
      refine z_aload_n 0 dX12_buildsTable_97 rfl rfl (Nat.le_of_ble_eq_true rfl) rfl ?_
      refine z_iload dX12_buildsTable_98 rfl rfl ?_
      refine z_iload dX12_buildsTable_100 rfl rfl ?_
      refine z_callVb vX12_buildsEdge kX12_503 dX12_buildsTable_102 rfl (zRo_d d) (as := [vi l7, vi l9]) (rest := []) (Nat.le_of_ble_eq_true rfl) rfl rfl (zCb_mono (fun x1 h2 k => ?_) k)
      obtain ⟨ka, kb⟩ := k
      refine z_ifb_ne (tgt := 111) dX12_buildsTable_105 rfl rfl ⟨fun q => ?_, fun q => ?_⟩
      · have k := ka q
        refine z_iload dX12_buildsTable_111 rfl rfl ?_
        refine z_istore dX12_buildsTable_113 (Nat.le_of_ble_eq_true rfl) (L' := [some (vr 12 466), some (vi l1), some (vr 13 l2), some (vi l3), some (vr 13 l4), some (vi l5), some (vi l6), some (vi l7), some (vi l8), some (vi l9), some (vi l10), some (vi l8)]) rfl rfl ?_
        exact z_sub (L' := [some (vr 12 466), some (vi l1), some (vr 13 l2), some (vi l3), some (vr 13 l4), some (vi l5), some (vi l6), some (vi l7), some (vi l8), some (vi l9), none, some (vi l8)]) (And.intro rfl (And.intro rfl (And.intro rfl (And.intro rfl (And.intro rfl (And.intro rfl (And.intro rfl (And.intro rfl (And.intro rfl (And.intro rfl (And.intro rfl trivial))))))))))) k
      · have k := kb q
        refine z_goto (tgt := 180) dX12_buildsTable_108 rfl ?_
        refine z_iinc dX12_buildsTable_180 rfl (Nat.le_of_ble_eq_true rfl) (L' := [some (vr 12 466), some (vi l1), some (vr 13 l2), some (vi l3), some (vr 13 l4), some (vi l5), some (vi l6), some (vi l7), some (vi (l8 + 1)), some (vi l9), some (vi l10), some (vi l11)]) rfl rfl ?_
        refine z_goto (tgt := 24) dX12_buildsTable_183 rfl ?_
        exact z_sub (L' := [some (vr 12 466), some (vi l1), some (vr 13 l2), some (vi l3), some (vr 13 l4), some (vi l5), some (vi l6), some (vi l7), some (vi (l8 + 1)), none, none, none]) (And.intro rfl (And.intro rfl (And.intro rfl (And.intro rfl (And.intro rfl (And.intro rfl (And.intro rfl (And.intro rfl (And.intro rfl trivial))))))))) k
  · have k := kb q
    refine z_iload dX12_buildsTable_62 rfl rfl ?_
    refine z_aload_n 2 dX12_buildsTable_64 rfl rfl (Nat.le_of_ble_eq_true rfl) rfl ?_
    refine z_iload dX12_buildsTable_65 rfl rfl ?_
    refine z_iload_n 3 dX12_buildsTable_67 rfl rfl rfl ?_
    refine z_imul dX12_buildsTable_68 rfl ?_
    refine z_iload dX12_buildsTable_69 rfl rfl ?_
    refine z_iadd dX12_buildsTable_71 rfl ?_
    obtain ⟨i9, k⟩ := k
    refine z_iald (x := (h l2 ((l7 * l3) + l11))) dX12_buildsTable_72 i9 rfl rfl ?_
    refine z_iload dX12_buildsTable_73 rfl rfl ?_
    obtain ⟨r1, r2, ka, kb⟩ := k
    refine z_icmp_ne (tgt := 82) dX12_buildsTable_75 rfl r1 r2 rfl ⟨fun q => ?_, fun q => ?_⟩
    · have k := ka q
      refine z_iconst dX12_buildsTable_82 rfl ?_
      refine z_ior dX12_buildsTable_83 rfl ?_
      refine z_istore dX12_buildsTable_84 (Nat.le_of_ble_eq_true rfl) (L' := [some (vr 12 466), some (vi l1), some (vr 13 l2), some (vi l3), some (vr 13 l4), some (vi l5), some (vi l6), some (vi l7), some (vi l8), some (vi l9), some (vi (zior l10 0)), some (vi l11)]) rfl rfl ?_
      refine z_iinc dX12_buildsTable_86 rfl (Nat.le_of_ble_eq_true rfl) (L' := [some (vr 12 466), some (vi l1), some (vr 13 l2), some (vi l3), some (vr 13 l4), some (vi l5), some (vi l6), some (vi l7), some (vi l8), some (vi l9), some (vi (zior l10 0)), some (vi (l11 + 1))]) rfl rfl ?_
      refine z_goto (tgt := 55) dX12_buildsTable_89 rfl ?_
      exact z_sub (L' := [some (vr 12 466), some (vi l1), some (vr 13 l2), some (vi l3), some (vr 13 l4), some (vi l5), some (vi l6), some (vi l7), some (vi l8), some (vi l9), some (vi (zior l10 0)), some (vi (l11 + 1))]) (And.intro rfl (And.intro rfl (And.intro rfl (And.intro rfl (And.intro rfl (And.intro rfl (And.intro rfl (And.intro rfl (And.intro rfl (And.intro rfl (And.intro rfl (And.intro rfl trivial)))))))))))) k
    · have k := kb q
      refine z_iconst dX12_buildsTable_78 rfl ?_
      refine z_goto (tgt := 83) dX12_buildsTable_79 rfl ?_
      refine z_ior dX12_buildsTable_83 rfl ?_
      refine z_istore dX12_buildsTable_84 (Nat.le_of_ble_eq_true rfl) (L' := [some (vr 12 466), some (vi l1), some (vr 13 l2), some (vi l3), some (vr 13 l4), some (vi l5), some (vi l6), some (vi l7), some (vi l8), some (vi l9), some (vi (zior l10 1)), some (vi l11)]) rfl rfl ?_
      refine z_iinc dX12_buildsTable_86 rfl (Nat.le_of_ble_eq_true rfl) (L' := [some (vr 12 466), some (vi l1), some (vr 13 l2), some (vi l3), some (vr 13 l4), some (vi l5), some (vi l6), some (vi l7), some (vi l8), some (vi l9), some (vi (zior l10 1)), some (vi (l11 + 1))]) rfl rfl ?_
      refine z_goto (tgt := 55) dX12_buildsTable_89 rfl ?_
      exact z_sub (L' := [some (vr 12 466), some (vi l1), some (vr 13 l2), some (vi l3), some (vr 13 l4), some (vi l5), some (vi l6), some (vi l7), some (vi l8), some (vi l9), some (vi (zior l10 1)), some (vi (l11 + 1))]) (And.intro rfl (And.intro rfl (And.intro rfl (And.intro rfl (And.intro rfl (And.intro rfl (And.intro rfl (And.intro rfl (And.intro rfl (And.intro rfl (And.intro rfl (And.intro rfl trivial)))))))))))) k
theorem bX12_buildsTable_115 {G : zG} {d : Nat} {K : zH → Prop} {l1 : Int} {l2 : Int} {l3 : Int} {l4 : Int} {l5 : Int} {l6 : Int} {l7 : Int} {l8 : Int} {l9 : Int} {l11 : Int} {h : zH} (k : zR l11 ∧ zR l6 ∧ (l6 ≤ l11 → tX12_buildsTable_24 G d K l1 l2 l3 l4 l5 l6 l7 (l8 + 1) h) ∧ (¬ l6 ≤ l11 → ((0 : Int) ≤ ((l7 * l3) + l11) ∧ ((l7 * l3) + l11) < zln l2) ∧ zR (h l2 ((l7 * l3) + l11)) ∧ zR l9 ∧ (¬ (h l2 ((l7 * l3) + l11)) = l9 → tX12_buildsTable_115 G d K l1 l2 l3 l4 l5 l6 l7 l8 l9 (l11 + 1) h) ∧ ((h l2 ((l7 * l3) + l11)) = l9 → ((0 : Int) ≤ (l5 + l11) ∧ (l5 + l11) < zln l4) ∧ zR (l11 + 1) ∧ zR l6 ∧ (l6 ≤ (l11 + 1) → zCv G d mX12_buildsRange [vr 12 466, vi (h l4 (l5 + l11)), vi 65535] h (fun h2 => tX12_buildsTable_115 G d K l1 l2 l3 l4 l5 l6 l7 l8 l9 (l11 + 1) h2)) ∧ (¬ l6 ≤ (l11 + 1) → ((0 : Int) ≤ ((l5 + l11) + 1) ∧ ((l5 + l11) + 1) < zln l4) ∧ zCv G d mX12_buildsRange [vr 12 466, vi (h l4 (l5 + l11)), vi ((h l4 ((l5 + l11) + 1)) - 1)] h (fun h4 => tX12_buildsTable_115 G d K l1 l2 l3 l4 l5 l6 l7 l8 l9 (l11 + 1) h4))))) : tX12_buildsTable_115 G d K l1 l2 l3 l4 l5 l6 l7 l8 l9 l11 h := by
  unfold tX12_buildsTable_115
  refine z_iload dX12_buildsTable_115 rfl rfl ?_
  refine z_iload dX12_buildsTable_117 rfl rfl ?_
  obtain ⟨r1, r2, ka, kb⟩ := k
  refine z_icmp_ge (tgt := 180) dX12_buildsTable_119 rfl r1 r2 rfl ⟨fun q => ?_, fun q => ?_⟩
  · have k := ka q
    refine z_iinc dX12_buildsTable_180 rfl (Nat.le_of_ble_eq_true rfl) (L' := [some (vr 12 466), some (vi l1), some (vr 13 l2), some (vi l3), some (vr 13 l4), some (vi l5), some (vi l6), some (vi l7), some (vi (l8 + 1)), some (vi l9), none, some (vi l11)]) rfl rfl ?_
    refine z_goto (tgt := 24) dX12_buildsTable_183 rfl ?_
    exact z_sub (L' := [some (vr 12 466), some (vi l1), some (vr 13 l2), some (vi l3), some (vr 13 l4), some (vi l5), some (vi l6), some (vi l7), some (vi (l8 + 1)), none, none, none]) (And.intro rfl (And.intro rfl (And.intro rfl (And.intro rfl (And.intro rfl (And.intro rfl (And.intro rfl (And.intro rfl (And.intro rfl trivial))))))))) k
  · have k := kb q
    refine z_aload_n 2 dX12_buildsTable_122 rfl rfl (Nat.le_of_ble_eq_true rfl) rfl ?_
    refine z_iload dX12_buildsTable_123 rfl rfl ?_
    refine z_iload_n 3 dX12_buildsTable_125 rfl rfl rfl ?_
    refine z_imul dX12_buildsTable_126 rfl ?_
    refine z_iload dX12_buildsTable_127 rfl rfl ?_
    refine z_iadd dX12_buildsTable_129 rfl ?_
    obtain ⟨i9, k⟩ := k
    refine z_iald (x := (h l2 ((l7 * l3) + l11))) dX12_buildsTable_130 i9 rfl rfl ?_
    refine z_iload dX12_buildsTable_131 rfl rfl ?_
    obtain ⟨r1, r2, ka, kb⟩ := k
    refine z_icmp_ne (tgt := 174) dX12_buildsTable_133 rfl r1 r2 rfl ⟨fun q => ?_, fun q => ?_⟩
    · have k := ka q
      refine z_iinc dX12_buildsTable_174 rfl (Nat.le_of_ble_eq_true rfl) (L' := [some (vr 12 466), some (vi l1), some (vr 13 l2), some (vi l3), some (vr 13 l4), some (vi l5), some (vi l6), some (vi l7), some (vi l8), some (vi l9), none, some (vi (l11 + 1))]) rfl rfl ?_
      refine z_goto (tgt := 115) dX12_buildsTable_177 rfl ?_
      exact z_sub (L' := [some (vr 12 466), some (vi l1), some (vr 13 l2), some (vi l3), some (vr 13 l4), some (vi l5), some (vi l6), some (vi l7), some (vi l8), some (vi l9), none, some (vi (l11 + 1))]) (And.intro rfl (And.intro rfl (And.intro rfl (And.intro rfl (And.intro rfl (And.intro rfl (And.intro rfl (And.intro rfl (And.intro rfl (And.intro rfl (And.intro rfl trivial))))))))))) k
    · have k := kb q
      refine z_aload_n 0 dX12_buildsTable_136 rfl rfl (Nat.le_of_ble_eq_true rfl) rfl ?_
      refine z_aload dX12_buildsTable_137 rfl (Nat.le_of_ble_eq_true rfl) rfl ?_
      refine z_iload dX12_buildsTable_139 rfl rfl ?_
      refine z_iload dX12_buildsTable_141 rfl rfl ?_
      refine z_iadd dX12_buildsTable_143 rfl ?_
      obtain ⟨i9, k⟩ := k
      refine z_iald (x := (h l4 (l5 + l11))) dX12_buildsTable_144 i9 rfl rfl ?_
      refine z_iload dX12_buildsTable_145 rfl rfl ?_
      refine z_iconst dX12_buildsTable_147 rfl ?_
      refine z_iadd dX12_buildsTable_148 rfl ?_
      refine z_iload dX12_buildsTable_149 rfl rfl ?_
      obtain ⟨r1, r2, ka, kb⟩ := k
      refine z_icmp_ge (tgt := 169) dX12_buildsTable_151 rfl r1 r2 rfl ⟨fun q => ?_, fun q => ?_⟩
      · have k := ka q
        refine z_ldc (x := 65535) cX12_200 rfl dX12_buildsTable_169 rfl ?_
        refine z_callVv vX12_buildsRange kX12_506 dX12_buildsTable_171 rfl (zRo_d d) (as := [vi (h l4 (l5 + l11)), vi 65535]) (rest := []) (Nat.le_of_ble_eq_true rfl) rfl rfl (zCv_mono (fun h2 k => ?_) k)
        refine z_iinc dX12_buildsTable_174 rfl (Nat.le_of_ble_eq_true rfl) (L' := [some (vr 12 466), some (vi l1), some (vr 13 l2), some (vi l3), some (vr 13 l4), some (vi l5), some (vi l6), some (vi l7), some (vi l8), some (vi l9), none, some (vi (l11 + 1))]) rfl rfl ?_
        refine z_goto (tgt := 115) dX12_buildsTable_177 rfl ?_
        exact z_sub (L' := [some (vr 12 466), some (vi l1), some (vr 13 l2), some (vi l3), some (vr 13 l4), some (vi l5), some (vi l6), some (vi l7), some (vi l8), some (vi l9), none, some (vi (l11 + 1))]) (And.intro rfl (And.intro rfl (And.intro rfl (And.intro rfl (And.intro rfl (And.intro rfl (And.intro rfl (And.intro rfl (And.intro rfl (And.intro rfl (And.intro rfl trivial))))))))))) k
      · have k := kb q
        refine z_aload dX12_buildsTable_154 rfl (Nat.le_of_ble_eq_true rfl) rfl ?_
        refine z_iload dX12_buildsTable_156 rfl rfl ?_
        refine z_iload dX12_buildsTable_158 rfl rfl ?_
        refine z_iadd dX12_buildsTable_160 rfl ?_
        refine z_iconst dX12_buildsTable_161 rfl ?_
        refine z_iadd dX12_buildsTable_162 rfl ?_
        obtain ⟨i9, k⟩ := k
        refine z_iald (x := (h l4 ((l5 + l11) + 1))) dX12_buildsTable_163 i9 rfl rfl ?_
        refine z_iconst dX12_buildsTable_164 rfl ?_
        refine z_isub dX12_buildsTable_165 rfl ?_
        refine z_goto (tgt := 171) dX12_buildsTable_166 rfl ?_
        refine z_callVv vX12_buildsRange kX12_506 dX12_buildsTable_171 rfl (zRo_d d) (as := [vi (h l4 (l5 + l11)), vi ((h l4 ((l5 + l11) + 1)) - 1)]) (rest := []) (Nat.le_of_ble_eq_true rfl) rfl rfl (zCv_mono (fun h4 k => ?_) k)
        refine z_iinc dX12_buildsTable_174 rfl (Nat.le_of_ble_eq_true rfl) (L' := [some (vr 12 466), some (vi l1), some (vr 13 l2), some (vi l3), some (vr 13 l4), some (vi l5), some (vi l6), some (vi l7), some (vi l8), some (vi l9), none, some (vi (l11 + 1))]) rfl rfl ?_
        refine z_goto (tgt := 115) dX12_buildsTable_177 rfl ?_
        exact z_sub (L' := [some (vr 12 466), some (vi l1), some (vr 13 l2), some (vi l3), some (vr 13 l4), some (vi l5), some (vi l6), some (vi l7), some (vi l8), some (vi l9), none, some (vi (l11 + 1))]) (And.intro rfl (And.intro rfl (And.intro rfl (And.intro rfl (And.intro rfl (And.intro rfl (And.intro rfl (And.intro rfl (And.intro rfl (And.intro rfl (And.intro rfl trivial))))))))))) k
theorem eX12_buildsTable {G : zG} {d : Nat} {K : zH → Prop} {l1 : Int} {l2 : Int} {l3 : Int} {l4 : Int} {l5 : Int} {l6 : Int} {h : zH} (k : tX12_buildsTable_0 G d K l1 l2 l3 l4 l5 l6 h) : zCv G (d + 1) mX12_buildsTable [vr 12 466, vi l1, vr 13 l2, vi l3, vr 13 l4, vi l5, vi l6] h K := z_entry (by decide +kernel) (Nat.le_of_ble_eq_true rfl) rfl k
def tX12_sure_0 (G : zG) (d : Nat) (K : Int → zH → Prop) (l1 : Int) (h : zH) : Prop := zTi G (d + 1) mX12_sure K 0 [some (vr 12 466), some (vi l1), none, none, none, none, none] [] h
def tX12_sure_41 (G : zG) (d : Nat) (K : Int → zH → Prop) (l1 : Int) (l3 : Int) (l4 : Int) (l6 : Int) (h : zH) : Prop := zTi G (d + 1) mX12_sure K 41 [some (vr 12 466), some (vi l1), none, some (vi l3), some (vl l4), none, some (vi l6)] [] h
theorem bX12_sure_0 {G : zG} {d : Nat} {K : Int → zH → Prop} {l1 : Int} {h : zH} (k : zCi G d mX12_refusesOne [vr 12 466, vi l1] (zup h 466 0 0) (fun x1 h2 => zR x1 ∧ (x1 ≤ 0 → zCb G d mX12_gathers [vr 12 466, vi l1, vi 0] h2 (fun x3 h4 => tX12_sure_41 G d K l1 (h4 506 0) 0 0 h4)) ∧ (¬ x1 ≤ 0 → zCi G d mX12_refused [vr 12 466, vi x1] h2 (fun x5 h6 => K x5 h6)))) : tX12_sure_0 G d K l1 h := by
  unfold tX12_sure_0
  refine z_aload_n 0 dX12_sure_0 rfl rfl (Nat.le_of_ble_eq_true rfl) rfl ?_
  refine z_iconst dX12_sure_1 rfl ?_
  refine z_putI 12 gX12_190 dX12_sure_2 rfl ?_
  refine z_aload_n 0 dX12_sure_5 rfl rfl (Nat.le_of_ble_eq_true rfl) rfl ?_
  refine z_iload_n 1 dX12_sure_6 rfl rfl rfl ?_
  refine z_callVi vX12_refusesOne kX12_675 dX12_sure_7 rfl (zRo_d d) (as := [vi l1]) (rest := []) (Nat.le_of_ble_eq_true rfl) rfl rfl (zCi_mono (fun x1 h2 k => ?_) k)
  refine z_istore_n 2 dX12_sure_10 rfl (Nat.le_of_ble_eq_true rfl) (L' := [some (vr 12 466), some (vi l1), some (vi x1), none, none, none, none]) rfl rfl ?_
  refine z_iload_n 2 dX12_sure_11 rfl rfl rfl ?_
  obtain ⟨r1, ka, kb⟩ := k
  refine z_if_le (tgt := 21) dX12_sure_12 rfl r1 rfl ⟨fun q => ?_, fun q => ?_⟩
  · have k := ka q
    refine z_aload_n 0 dX12_sure_21 rfl rfl (Nat.le_of_ble_eq_true rfl) rfl ?_
    refine z_iload_n 1 dX12_sure_22 rfl rfl rfl ?_
    refine z_iconst dX12_sure_23 rfl ?_
    refine z_callVb vX12_gathers kX12_521 dX12_sure_24 rfl (zRo_d d) (as := [vi l1, vi 0]) (rest := []) (Nat.le_of_ble_eq_true rfl) rfl rfl (zCb_mono (fun x3 h4 k => ?_) k)
    refine z_pop dX12_sure_27 (fun q => by cases q) rfl ?_
    refine z_aload_n 0 dX12_sure_28 rfl rfl (Nat.le_of_ble_eq_true rfl) rfl ?_
    refine z_getF 12 13 (x := 506) fX12_133 rfl dX12_sure_29 rfl rfl ?_
    refine z_iconst dX12_sure_32 rfl ?_
    refine z_iald (x := (h4 506 0)) dX12_sure_33 (by rw [zl_506]; decide) rfl rfl ?_
    refine z_istore_n 3 dX12_sure_34 rfl (Nat.le_of_ble_eq_true rfl) (L' := [some (vr 12 466), some (vi l1), some (vi x1), some (vi (h4 506 0)), none, none, none]) rfl rfl ?_
    refine z_lconst (x := 0) dX12_sure_35 rfl rfl ?_
    refine z_lstore dX12_sure_36 (Nat.le_of_ble_eq_true rfl) (L' := [some (vr 12 466), some (vi l1), some (vi x1), some (vi (h4 506 0)), some (vl 0), none, none]) rfl rfl ?_
    refine z_iconst dX12_sure_38 rfl ?_
    refine z_istore dX12_sure_39 (Nat.le_of_ble_eq_true rfl) (L' := [some (vr 12 466), some (vi l1), some (vi x1), some (vi (h4 506 0)), some (vl 0), none, some (vi 0)]) rfl rfl ?_
    exact z_sub (L' := [some (vr 12 466), some (vi l1), none, some (vi (h4 506 0)), some (vl 0), none, some (vi 0)]) (And.intro rfl (And.intro rfl (And.intro rfl (And.intro rfl (And.intro rfl trivial))))) k
  · have k := kb q
    refine z_aload_n 0 dX12_sure_15 rfl rfl (Nat.le_of_ble_eq_true rfl) rfl ?_
    refine z_iload_n 2 dX12_sure_16 rfl rfl rfl ?_
    refine z_callVi vX12_refused kX12_426 dX12_sure_17 rfl (zRo_d d) (as := [vi x1]) (rest := []) (Nat.le_of_ble_eq_true rfl) rfl rfl (zCi_mono (fun x5 h6 k => ?_) k)
    exact z_ireturn rfl dX12_sure_20 ⟨_, rfl, k⟩
theorem bX12_sure_41 {G : zG} {d : Nat} {K : Int → zH → Prop} {l1 : Int} {l3 : Int} {l4 : Int} {l6 : Int} {h : zH} (k : zR l6 ∧ zR l3 ∧ (l3 ≤ l6 → ((0 : Int) ≤ l1 ∧ l1 < 14) ∧ zCv G d mX12_buildsTable [vr 12 466, vi l3, vr 13 507, vi 128, vr 13 497, vi (l1 * 128), vi (h 496 l1)] h (fun h2 => zCi G d mX12_makes [vr 12 466] (zup h2 466 50 l4) (fun x3 h4 => K x3 h4))) ∧ (¬ l3 ≤ l6 → zCb G d mX12_sheafEnds [vr 12 466, vi l1, vi 0, vi l6] h (fun x5 h6 => (x5 = false → tX12_sure_41 G d K l1 l3 (zlor l4 0) (l6 + 1) h6) ∧ (x5 = true → tX12_sure_41 G d K l1 l3 (zlor l4 (zlshl 1 l6)) (l6 + 1) h6)))) : tX12_sure_41 G d K l1 l3 l4 l6 h := by
  unfold tX12_sure_41
  refine z_iload dX12_sure_41 rfl rfl ?_
  refine z_iload_n 3 dX12_sure_43 rfl rfl rfl ?_
  obtain ⟨r1, r2, ka, kb⟩ := k
  refine z_icmp_ge (tgt := 77) dX12_sure_44 rfl r1 r2 rfl ⟨fun q => ?_, fun q => ?_⟩
  · have k := ka q
    refine z_aload_n 0 dX12_sure_77 rfl rfl (Nat.le_of_ble_eq_true rfl) rfl ?_
    refine z_iload_n 3 dX12_sure_78 rfl rfl rfl ?_
    refine z_aload_n 0 dX12_sure_79 rfl rfl (Nat.le_of_ble_eq_true rfl) rfl ?_
    refine z_getF 12 13 (x := 507) fX12_136 rfl dX12_sure_80 rfl rfl ?_
    refine z_sipush dX12_sure_83 rfl rfl ?_
    refine z_aload_n 0 dX12_sure_86 rfl rfl (Nat.le_of_ble_eq_true rfl) rfl ?_
    refine z_getF 12 13 (x := 497) fX12_106 rfl dX12_sure_87 rfl rfl ?_
    refine z_iload_n 1 dX12_sure_90 rfl rfl rfl ?_
    refine z_sipush dX12_sure_91 rfl rfl ?_
    refine z_imul dX12_sure_94 rfl ?_
    refine z_aload_n 0 dX12_sure_95 rfl rfl (Nat.le_of_ble_eq_true rfl) rfl ?_
    refine z_getF 12 13 (x := 496) fX12_103 rfl dX12_sure_96 rfl rfl ?_
    refine z_iload_n 1 dX12_sure_99 rfl rfl rfl ?_
    obtain ⟨i9, k⟩ := k
    refine z_iald (x := (h 496 l1)) dX12_sure_100 (by rw [zl_496]; exact i9) rfl rfl ?_
    refine z_callVv vX12_buildsTable kX12_678 dX12_sure_101 rfl (zRo_d d) (as := [vi l3, vr 13 507, vi 128, vr 13 497, vi (l1 * 128), vi (h 496 l1)]) (rest := []) (Nat.le_of_ble_eq_true rfl) rfl rfl (zCv_mono (fun h2 k => ?_) k)
    refine z_aload_n 0 dX12_sure_104 rfl rfl (Nat.le_of_ble_eq_true rfl) rfl ?_
    refine z_lload dX12_sure_105 rfl rfl ?_
    refine z_putL 12 gX12_493 dX12_sure_107 rfl ?_
    refine z_aload_n 0 dX12_sure_110 rfl rfl (Nat.le_of_ble_eq_true rfl) rfl ?_
    refine z_callVi vX12_makes kX12_682 dX12_sure_111 rfl (zRo_d d) (as := []) (rest := []) (Nat.le_of_ble_eq_true rfl) rfl rfl (zCi_mono (fun x3 h4 k => ?_) k)
    exact z_ireturn rfl dX12_sure_114 ⟨_, rfl, k⟩
  · have k := kb q
    refine z_lload dX12_sure_47 rfl rfl ?_
    refine z_aload_n 0 dX12_sure_49 rfl rfl (Nat.le_of_ble_eq_true rfl) rfl ?_
    refine z_iload_n 1 dX12_sure_50 rfl rfl rfl ?_
    refine z_iconst dX12_sure_51 rfl ?_
    refine z_iload dX12_sure_52 rfl rfl ?_
    refine z_callVb vX12_sheafEnds kX12_542 dX12_sure_54 rfl (zRo_d d) (as := [vi l1, vi 0, vi l6]) (rest := [vl l4]) (Nat.le_of_ble_eq_true rfl) rfl rfl (zCb_mono (fun x5 h6 k => ?_) k)
    obtain ⟨ka, kb⟩ := k
    refine z_ifb_eq (tgt := 67) dX12_sure_57 rfl rfl ⟨fun q => ?_, fun q => ?_⟩
    · have k := ka q
      refine z_lconst (x := 0) dX12_sure_67 rfl rfl ?_
      refine z_lor dX12_sure_68 rfl ?_
      refine z_lstore dX12_sure_69 (Nat.le_of_ble_eq_true rfl) (L' := [some (vr 12 466), some (vi l1), none, some (vi l3), some (vl (zlor l4 0)), none, some (vi l6)]) rfl rfl ?_
      refine z_iinc dX12_sure_71 rfl (Nat.le_of_ble_eq_true rfl) (L' := [some (vr 12 466), some (vi l1), none, some (vi l3), some (vl (zlor l4 0)), none, some (vi (l6 + 1))]) rfl rfl ?_
      refine z_goto (tgt := 41) dX12_sure_74 rfl ?_
      exact z_sub (L' := [some (vr 12 466), some (vi l1), none, some (vi l3), some (vl (zlor l4 0)), none, some (vi (l6 + 1))]) (And.intro rfl (And.intro rfl (And.intro rfl (And.intro rfl (And.intro rfl trivial))))) k
    · have k := kb q
      refine z_lconst (x := 1) dX12_sure_60 rfl rfl ?_
      refine z_iload dX12_sure_61 rfl rfl ?_
      refine z_lshl dX12_sure_63 rfl ?_
      refine z_goto (tgt := 68) dX12_sure_64 rfl ?_
      refine z_lor dX12_sure_68 rfl ?_
      refine z_lstore dX12_sure_69 (Nat.le_of_ble_eq_true rfl) (L' := [some (vr 12 466), some (vi l1), none, some (vi l3), some (vl (zlor l4 (zlshl 1 l6))), none, some (vi l6)]) rfl rfl ?_
      refine z_iinc dX12_sure_71 rfl (Nat.le_of_ble_eq_true rfl) (L' := [some (vr 12 466), some (vi l1), none, some (vi l3), some (vl (zlor l4 (zlshl 1 l6))), none, some (vi (l6 + 1))]) rfl rfl ?_
      refine z_goto (tgt := 41) dX12_sure_74 rfl ?_
      exact z_sub (L' := [some (vr 12 466), some (vi l1), none, some (vi l3), some (vl (zlor l4 (zlshl 1 l6))), none, some (vi (l6 + 1))]) (And.intro rfl (And.intro rfl (And.intro rfl (And.intro rfl (And.intro rfl trivial))))) k
theorem eX12_sure {G : zG} {d : Nat} {K : Int → zH → Prop} {l1 : Int} {h : zH} (k : tX12_sure_0 G d K l1 h) : zCi G (d + 1) mX12_sure [vr 12 466, vi l1] h K := z_entry (by decide +kernel) (Nat.le_of_ble_eq_true rfl) rfl k
def tX12_makesClasses_0 (G : zG) (d : Nat) (K : Int → zH → Prop) (l1 : Int) (l2 : Bool) (h : zH) : Prop := zTi G (d + 1) mX12_makesClasses K 0 [some (vr 12 466), some (vi l1), some (vi (bi l2)), none, none, none, none, none] [] h
def tX12_makesClasses_19 (G : zG) (d : Nat) (K : Int → zH → Prop) (l1 : Int) (l2 : Bool) (l3 : Int) (l4 : Int) (l6 : Int) (h : zH) : Prop := zTi G (d + 1) mX12_makesClasses K 19 [some (vr 12 466), some (vi l1), some (vi (bi l2)), some (vi l3), some (vl l4), none, some (vi l6), none] [] h
def tX12_makesClasses_53 (G : zG) (d : Nat) (K : Int → zH → Prop) (l1 : Int) (l2 : Bool) (l3 : Int) (l4 : Int) (l6 : Int) (l7 : Int) (h : zH) : Prop := zTi G (d + 1) mX12_makesClasses K 53 [some (vr 12 466), some (vi l1), some (vi (bi l2)), some (vi l3), some (vl l4), none, some (vi l6), some (vi l7)] [] h
theorem bX12_makesClasses_0 {G : zG} {d : Nat} {K : Int → zH → Prop} {l1 : Int} {l2 : Bool} {h : zH} (k : zCv G d mX12_sorts [vr 12 466, vi l1, vi 0] h (fun h2 => tX12_makesClasses_19 G d K l1 l2 (h2 512 0) 0 0 h2)) : tX12_makesClasses_0 G d K l1 l2 h := by
  unfold tX12_makesClasses_0
  refine z_aload_n 0 dX12_makesClasses_0 rfl rfl (Nat.le_of_ble_eq_true rfl) rfl ?_
  refine z_iload_n 1 dX12_makesClasses_1 rfl rfl rfl ?_
  refine z_iconst dX12_makesClasses_2 rfl ?_
  refine z_callVv vX12_sorts kX12_568 dX12_makesClasses_3 rfl (zRo_d d) (as := [vi l1, vi 0]) (rest := []) (Nat.le_of_ble_eq_true rfl) rfl rfl (zCv_mono (fun h2 k => ?_) k)
  refine z_aload_n 0 dX12_makesClasses_6 rfl rfl (Nat.le_of_ble_eq_true rfl) rfl ?_
  refine z_getF 12 13 (x := 512) fX12_151 rfl dX12_makesClasses_7 rfl rfl ?_
  refine z_iconst dX12_makesClasses_10 rfl ?_
  refine z_iald (x := (h2 512 0)) dX12_makesClasses_11 (by rw [zl_512]; decide) rfl rfl ?_
  refine z_istore_n 3 dX12_makesClasses_12 rfl (Nat.le_of_ble_eq_true rfl) (L' := [some (vr 12 466), some (vi l1), some (vi (bi l2)), some (vi (h2 512 0)), none, none, none, none]) rfl rfl ?_
  refine z_lconst (x := 0) dX12_makesClasses_13 rfl rfl ?_
  refine z_lstore dX12_makesClasses_14 (Nat.le_of_ble_eq_true rfl) (L' := [some (vr 12 466), some (vi l1), some (vi (bi l2)), some (vi (h2 512 0)), some (vl 0), none, none, none]) rfl rfl ?_
  refine z_iconst dX12_makesClasses_16 rfl ?_
  refine z_istore dX12_makesClasses_17 (Nat.le_of_ble_eq_true rfl) (L' := [some (vr 12 466), some (vi l1), some (vi (bi l2)), some (vi (h2 512 0)), some (vl 0), none, some (vi 0), none]) rfl rfl ?_
  exact z_sub (L' := [some (vr 12 466), some (vi l1), some (vi (bi l2)), some (vi (h2 512 0)), some (vl 0), none, some (vi 0), none]) (And.intro rfl (And.intro rfl (And.intro rfl (And.intro rfl (And.intro rfl (And.intro rfl trivial)))))) k
theorem bX12_makesClasses_19 {G : zG} {d : Nat} {K : Int → zH → Prop} {l1 : Int} {l2 : Bool} {l3 : Int} {l4 : Int} {l6 : Int} {h : zH} (k : zR l6 ∧ zR l3 ∧ (l3 ≤ l6 → ((0 : Int) ≤ l1 ∧ l1 < 14) ∧ zCv G d mX12_buildsTable [vr 12 466, vi l3, vr 13 524, vi 128, vr 13 497, vi (l1 * 128), vi (h 496 l1)] h (fun h2 => zCi G d mX12_makes [vr 12 466] (zup h2 466 50 l4) (fun x3 h4 => K x3 h4))) ∧ (¬ l3 ≤ l6 → zCb G d mX12_classEnds [vr 12 466, vi l1, vi 0, vi l6] h (fun x5 h6 => (bi x5 = bi l2 → tX12_makesClasses_53 G d K l1 l2 l3 (zlor l4 0) l6 0 h6) ∧ (¬ bi x5 = bi l2 → tX12_makesClasses_53 G d K l1 l2 l3 (zlor l4 (zlshl 1 l6)) l6 0 h6)))) : tX12_makesClasses_19 G d K l1 l2 l3 l4 l6 h := by
  unfold tX12_makesClasses_19
  refine z_iload dX12_makesClasses_19 rfl rfl ?_
  refine z_iload_n 3 dX12_makesClasses_21 rfl rfl rfl ?_
  obtain ⟨r1, r2, ka, kb⟩ := k
  refine z_icmp_ge (tgt := 99) dX12_makesClasses_22 rfl r1 r2 rfl ⟨fun q => ?_, fun q => ?_⟩
  · have k := ka q
    refine z_aload_n 0 dX12_makesClasses_99 rfl rfl (Nat.le_of_ble_eq_true rfl) rfl ?_
    refine z_iload_n 3 dX12_makesClasses_100 rfl rfl rfl ?_
    refine z_aload_n 0 dX12_makesClasses_101 rfl rfl (Nat.le_of_ble_eq_true rfl) rfl ?_
    refine z_getF 12 13 (x := 524) fX12_187 rfl dX12_makesClasses_102 rfl rfl ?_
    refine z_sipush dX12_makesClasses_105 rfl rfl ?_
    refine z_aload_n 0 dX12_makesClasses_108 rfl rfl (Nat.le_of_ble_eq_true rfl) rfl ?_
    refine z_getF 12 13 (x := 497) fX12_106 rfl dX12_makesClasses_109 rfl rfl ?_
    refine z_iload_n 1 dX12_makesClasses_112 rfl rfl rfl ?_
    refine z_sipush dX12_makesClasses_113 rfl rfl ?_
    refine z_imul dX12_makesClasses_116 rfl ?_
    refine z_aload_n 0 dX12_makesClasses_117 rfl rfl (Nat.le_of_ble_eq_true rfl) rfl ?_
    refine z_getF 12 13 (x := 496) fX12_103 rfl dX12_makesClasses_118 rfl rfl ?_
    refine z_iload_n 1 dX12_makesClasses_121 rfl rfl rfl ?_
    obtain ⟨i9, k⟩ := k
    refine z_iald (x := (h 496 l1)) dX12_makesClasses_122 (by rw [zl_496]; exact i9) rfl rfl ?_
    refine z_callVv vX12_buildsTable kX12_678 dX12_makesClasses_123 rfl (zRo_d d) (as := [vi l3, vr 13 524, vi 128, vr 13 497, vi (l1 * 128), vi (h 496 l1)]) (rest := []) (Nat.le_of_ble_eq_true rfl) rfl rfl (zCv_mono (fun h2 k => ?_) k)
    refine z_aload_n 0 dX12_makesClasses_126 rfl rfl (Nat.le_of_ble_eq_true rfl) rfl ?_
    refine z_lload dX12_makesClasses_127 rfl rfl ?_
    refine z_putL 12 gX12_493 dX12_makesClasses_129 rfl ?_
    refine z_aload_n 0 dX12_makesClasses_132 rfl rfl (Nat.le_of_ble_eq_true rfl) rfl ?_
    refine z_callVi vX12_makes kX12_682 dX12_makesClasses_133 rfl (zRo_d d) (as := []) (rest := []) (Nat.le_of_ble_eq_true rfl) rfl rfl (zCi_mono (fun x3 h4 k => ?_) k)
    exact z_ireturn rfl dX12_makesClasses_136 ⟨_, rfl, k⟩
  · have k := kb q
    refine z_lload dX12_makesClasses_25 rfl rfl ?_
    refine z_aload_n 0 dX12_makesClasses_27 rfl rfl (Nat.le_of_ble_eq_true rfl) rfl ?_
    refine z_iload_n 1 dX12_makesClasses_28 rfl rfl rfl ?_
    refine z_iconst dX12_makesClasses_29 rfl ?_
    refine z_iload dX12_makesClasses_30 rfl rfl ?_
    refine z_callVb vX12_classEnds kX12_614 dX12_makesClasses_32 rfl (zRo_d d) (as := [vi l1, vi 0, vi l6]) (rest := [vl l4]) (Nat.le_of_ble_eq_true rfl) rfl rfl (zCb_mono (fun x5 h6 k => ?_) k)
    refine z_iload_n 2 dX12_makesClasses_35 rfl rfl rfl ?_
    obtain ⟨ka, kb⟩ := k
    refine z_icmp_eq (tgt := 46) dX12_makesClasses_36 rfl (bi_R _) (bi_R _) rfl ⟨fun q => ?_, fun q => ?_⟩
    · have k := ka q
      refine z_lconst (x := 0) dX12_makesClasses_46 rfl rfl ?_
      refine z_lor dX12_makesClasses_47 rfl ?_
      refine z_lstore dX12_makesClasses_48 (Nat.le_of_ble_eq_true rfl) (L' := [some (vr 12 466), some (vi l1), some (vi (bi l2)), some (vi l3), some (vl (zlor l4 0)), none, some (vi l6), none]) rfl rfl ?_
      refine z_iconst dX12_makesClasses_50 rfl ?_
      refine z_istore dX12_makesClasses_51 (Nat.le_of_ble_eq_true rfl) (L' := [some (vr 12 466), some (vi l1), some (vi (bi l2)), some (vi l3), some (vl (zlor l4 0)), none, some (vi l6), some (vi 0)]) rfl rfl ?_
      exact z_sub (L' := [some (vr 12 466), some (vi l1), some (vi (bi l2)), some (vi l3), some (vl (zlor l4 0)), none, some (vi l6), some (vi 0)]) (And.intro rfl (And.intro rfl (And.intro rfl (And.intro rfl (And.intro rfl (And.intro rfl (And.intro rfl trivial))))))) k
    · have k := kb q
      refine z_lconst (x := 1) dX12_makesClasses_39 rfl rfl ?_
      refine z_iload dX12_makesClasses_40 rfl rfl ?_
      refine z_lshl dX12_makesClasses_42 rfl ?_
      refine z_goto (tgt := 47) dX12_makesClasses_43 rfl ?_
      refine z_lor dX12_makesClasses_47 rfl ?_
      refine z_lstore dX12_makesClasses_48 (Nat.le_of_ble_eq_true rfl) (L' := [some (vr 12 466), some (vi l1), some (vi (bi l2)), some (vi l3), some (vl (zlor l4 (zlshl 1 l6))), none, some (vi l6), none]) rfl rfl ?_
      refine z_iconst dX12_makesClasses_50 rfl ?_
      refine z_istore dX12_makesClasses_51 (Nat.le_of_ble_eq_true rfl) (L' := [some (vr 12 466), some (vi l1), some (vi (bi l2)), some (vi l3), some (vl (zlor l4 (zlshl 1 l6))), none, some (vi l6), some (vi 0)]) rfl rfl ?_
      exact z_sub (L' := [some (vr 12 466), some (vi l1), some (vi (bi l2)), some (vi l3), some (vl (zlor l4 (zlshl 1 l6))), none, some (vi l6), some (vi 0)]) (And.intro rfl (And.intro rfl (And.intro rfl (And.intro rfl (And.intro rfl (And.intro rfl (And.intro rfl trivial))))))) k
theorem bX12_makesClasses_53 {G : zG} {d : Nat} {K : Int → zH → Prop} {l1 : Int} {l2 : Bool} {l3 : Int} {l4 : Int} {l6 : Int} {l7 : Int} {h : zH} (k : ((0 : Int) ≤ l1 ∧ l1 < 14) ∧ zR l7 ∧ zR (h 496 l1) ∧ ((h 496 l1) ≤ l7 → tX12_makesClasses_19 G d K l1 l2 l3 l4 (l6 + 1) h) ∧ (¬ (h 496 l1) ≤ l7 → zCi G d mX12_classGoes [vr 12 466, vi 0, vi l6, vi l7] h (fun x1 h2 => ((0 : Int) ≤ ((l6 * 128) + l7) ∧ ((l6 * 128) + l7) < 5120) ∧ tX12_makesClasses_53 G d K l1 l2 l3 l4 l6 (l7 + 1) (zup h2 524 ((l6 * 128) + l7) x1)))) : tX12_makesClasses_53 G d K l1 l2 l3 l4 l6 l7 h := by
  unfold tX12_makesClasses_53
  refine z_iload dX12_makesClasses_53 rfl rfl ?_
  refine z_aload_n 0 dX12_makesClasses_55 rfl rfl (Nat.le_of_ble_eq_true rfl) rfl ?_
  refine z_getF 12 13 (x := 496) fX12_103 rfl dX12_makesClasses_56 rfl rfl ?_
  refine z_iload_n 1 dX12_makesClasses_59 rfl rfl rfl ?_
  obtain ⟨i9, k⟩ := k
  refine z_iald (x := (h 496 l1)) dX12_makesClasses_60 (by rw [zl_496]; exact i9) rfl rfl ?_
  obtain ⟨r1, r2, ka, kb⟩ := k
  refine z_icmp_ge (tgt := 93) dX12_makesClasses_61 rfl r1 r2 rfl ⟨fun q => ?_, fun q => ?_⟩
  · have k := ka q
    refine z_iinc dX12_makesClasses_93 rfl (Nat.le_of_ble_eq_true rfl) (L' := [some (vr 12 466), some (vi l1), some (vi (bi l2)), some (vi l3), some (vl l4), none, some (vi (l6 + 1)), some (vi l7)]) rfl rfl ?_
    refine z_goto (tgt := 19) dX12_makesClasses_96 rfl ?_
    exact z_sub (L' := [some (vr 12 466), some (vi l1), some (vi (bi l2)), some (vi l3), some (vl l4), none, some (vi (l6 + 1)), none]) (And.intro rfl (And.intro rfl (And.intro rfl (And.intro rfl (And.intro rfl (And.intro rfl trivial)))))) k
  · have k := kb q
    refine z_aload_n 0 dX12_makesClasses_64 rfl rfl (Nat.le_of_ble_eq_true rfl) rfl ?_
    refine z_getF 12 13 (x := 524) fX12_187 rfl dX12_makesClasses_65 rfl rfl ?_
    refine z_iload dX12_makesClasses_68 rfl rfl ?_
    refine z_sipush dX12_makesClasses_70 rfl rfl ?_
    refine z_imul dX12_makesClasses_73 rfl ?_
    refine z_iload dX12_makesClasses_74 rfl rfl ?_
    refine z_iadd dX12_makesClasses_76 rfl ?_
    refine z_aload_n 0 dX12_makesClasses_77 rfl rfl (Nat.le_of_ble_eq_true rfl) rfl ?_
    refine z_iconst dX12_makesClasses_78 rfl ?_
    refine z_iload dX12_makesClasses_79 rfl rfl ?_
    refine z_iload dX12_makesClasses_81 rfl rfl ?_
    refine z_callVi vX12_classGoes kX12_611 dX12_makesClasses_83 rfl (zRo_d d) (as := [vi 0, vi l6, vi l7]) (rest := [vi ((l6 * 128) + l7), vr 13 524]) (Nat.le_of_ble_eq_true rfl) rfl rfl (zCi_mono (fun x1 h2 k => ?_) k)
    obtain ⟨i9, k⟩ := k
    refine z_iast dX12_makesClasses_86 (by rw [zl_524]; exact i9) rfl ?_
    refine z_iinc dX12_makesClasses_87 rfl (Nat.le_of_ble_eq_true rfl) (L' := [some (vr 12 466), some (vi l1), some (vi (bi l2)), some (vi l3), some (vl l4), none, some (vi l6), some (vi (l7 + 1))]) rfl rfl ?_
    refine z_goto (tgt := 53) dX12_makesClasses_90 rfl ?_
    exact z_sub (L' := [some (vr 12 466), some (vi l1), some (vi (bi l2)), some (vi l3), some (vl l4), none, some (vi l6), some (vi (l7 + 1))]) (And.intro rfl (And.intro rfl (And.intro rfl (And.intro rfl (And.intro rfl (And.intro rfl (And.intro rfl trivial))))))) k
theorem eX12_makesClasses {G : zG} {d : Nat} {K : Int → zH → Prop} {l1 : Int} {l2 : Bool} {h : zH} (k : tX12_makesClasses_0 G d K l1 l2 h) : zCi G (d + 1) mX12_makesClasses [vr 12 466, vi l1, vi (bi l2)] h K := z_entry (by decide +kernel) (Nat.le_of_ble_eq_true rfl) rfl k
def tX12_least_0 (G : zG) (d : Nat) (K : Int → zH → Prop) (l1 : Int) (h : zH) : Prop := zTi G (d + 1) mX12_least K 0 [some (vr 12 466), some (vi l1), none] [] h
theorem bX12_least_0 {G : zG} {d : Nat} {K : Int → zH → Prop} {l1 : Int} {h : zH} (k : zCi G d mX12_refusesOne [vr 12 466, vi l1] (zup h 466 0 0) (fun x1 h2 => zR x1 ∧ (x1 ≤ 0 → zCi G d mX12_makesClasses [vr 12 466, vi l1, vi (bi false)] h2 (fun x3 h4 => K x3 h4)) ∧ (¬ x1 ≤ 0 → zCi G d mX12_refused [vr 12 466, vi x1] h2 (fun x5 h6 => K x5 h6)))) : tX12_least_0 G d K l1 h := by
  unfold tX12_least_0
  refine z_aload_n 0 dX12_least_0 rfl rfl (Nat.le_of_ble_eq_true rfl) rfl ?_
  refine z_iconst dX12_least_1 rfl ?_
  refine z_putI 12 gX12_190 dX12_least_2 rfl ?_
  refine z_aload_n 0 dX12_least_5 rfl rfl (Nat.le_of_ble_eq_true rfl) rfl ?_
  refine z_iload_n 1 dX12_least_6 rfl rfl rfl ?_
  refine z_callVi vX12_refusesOne kX12_675 dX12_least_7 rfl (zRo_d d) (as := [vi l1]) (rest := []) (Nat.le_of_ble_eq_true rfl) rfl rfl (zCi_mono (fun x1 h2 k => ?_) k)
  refine z_istore_n 2 dX12_least_10 rfl (Nat.le_of_ble_eq_true rfl) (L' := [some (vr 12 466), some (vi l1), some (vi x1)]) rfl rfl ?_
  refine z_iload_n 2 dX12_least_11 rfl rfl rfl ?_
  obtain ⟨r1, ka, kb⟩ := k
  refine z_if_le (tgt := 23) dX12_least_12 rfl r1 rfl ⟨fun q => ?_, fun q => ?_⟩
  · have k := ka q
    refine z_aload_n 0 dX12_least_23 rfl rfl (Nat.le_of_ble_eq_true rfl) rfl ?_
    refine z_iload_n 1 dX12_least_24 rfl rfl rfl ?_
    refine z_iconst dX12_least_25 rfl ?_
    refine z_callVi vX12_makesClasses kX12_685 dX12_least_26 rfl (zRo_d d) (as := [vi l1, vi (bi false)]) (rest := []) (Nat.le_of_ble_eq_true rfl) rfl rfl (zCi_mono (fun x3 h4 k => ?_) k)
    exact z_ireturn rfl dX12_least_29 ⟨_, rfl, k⟩
  · have k := kb q
    refine z_aload_n 0 dX12_least_15 rfl rfl (Nat.le_of_ble_eq_true rfl) rfl ?_
    refine z_iload_n 2 dX12_least_16 rfl rfl rfl ?_
    refine z_callVi vX12_refused kX12_426 dX12_least_17 rfl (zRo_d d) (as := [vi x1]) (rest := []) (Nat.le_of_ble_eq_true rfl) rfl rfl (zCi_mono (fun x5 h6 k => ?_) k)
    refine z_goto (tgt := 29) dX12_least_20 rfl ?_
    exact z_ireturn rfl dX12_least_29 ⟨_, rfl, k⟩
theorem eX12_least {G : zG} {d : Nat} {K : Int → zH → Prop} {l1 : Int} {h : zH} (k : tX12_least_0 G d K l1 h) : zCi G (d + 1) mX12_least [vr 12 466, vi l1] h K := z_entry (by decide +kernel) (Nat.le_of_ble_eq_true rfl) rfl k
def tX12_other_0 (G : zG) (d : Nat) (K : Int → zH → Prop) (l1 : Int) (h : zH) : Prop := zTi G (d + 1) mX12_other K 0 [some (vr 12 466), some (vi l1), none] [] h
theorem bX12_other_0 {G : zG} {d : Nat} {K : Int → zH → Prop} {l1 : Int} {h : zH} (k : zCi G d mX12_refusesOne [vr 12 466, vi l1] (zup h 466 0 0) (fun x1 h2 => zR x1 ∧ (x1 ≤ 0 → zCi G d mX12_makesClasses [vr 12 466, vi l1, vi (bi true)] h2 (fun x3 h4 => K x3 h4)) ∧ (¬ x1 ≤ 0 → zCi G d mX12_refused [vr 12 466, vi x1] h2 (fun x5 h6 => K x5 h6)))) : tX12_other_0 G d K l1 h := by
  unfold tX12_other_0
  refine z_aload_n 0 dX12_other_0 rfl rfl (Nat.le_of_ble_eq_true rfl) rfl ?_
  refine z_iconst dX12_other_1 rfl ?_
  refine z_putI 12 gX12_190 dX12_other_2 rfl ?_
  refine z_aload_n 0 dX12_other_5 rfl rfl (Nat.le_of_ble_eq_true rfl) rfl ?_
  refine z_iload_n 1 dX12_other_6 rfl rfl rfl ?_
  refine z_callVi vX12_refusesOne kX12_675 dX12_other_7 rfl (zRo_d d) (as := [vi l1]) (rest := []) (Nat.le_of_ble_eq_true rfl) rfl rfl (zCi_mono (fun x1 h2 k => ?_) k)
  refine z_istore_n 2 dX12_other_10 rfl (Nat.le_of_ble_eq_true rfl) (L' := [some (vr 12 466), some (vi l1), some (vi x1)]) rfl rfl ?_
  refine z_iload_n 2 dX12_other_11 rfl rfl rfl ?_
  obtain ⟨r1, ka, kb⟩ := k
  refine z_if_le (tgt := 23) dX12_other_12 rfl r1 rfl ⟨fun q => ?_, fun q => ?_⟩
  · have k := ka q
    refine z_aload_n 0 dX12_other_23 rfl rfl (Nat.le_of_ble_eq_true rfl) rfl ?_
    refine z_iload_n 1 dX12_other_24 rfl rfl rfl ?_
    refine z_iconst dX12_other_25 rfl ?_
    refine z_callVi vX12_makesClasses kX12_685 dX12_other_26 rfl (zRo_d d) (as := [vi l1, vi (bi true)]) (rest := []) (Nat.le_of_ble_eq_true rfl) rfl rfl (zCi_mono (fun x3 h4 k => ?_) k)
    exact z_ireturn rfl dX12_other_29 ⟨_, rfl, k⟩
  · have k := kb q
    refine z_aload_n 0 dX12_other_15 rfl rfl (Nat.le_of_ble_eq_true rfl) rfl ?_
    refine z_iload_n 2 dX12_other_16 rfl rfl rfl ?_
    refine z_callVi vX12_refused kX12_426 dX12_other_17 rfl (zRo_d d) (as := [vi x1]) (rest := []) (Nat.le_of_ble_eq_true rfl) rfl rfl (zCi_mono (fun x5 h6 k => ?_) k)
    refine z_goto (tgt := 29) dX12_other_20 rfl ?_
    exact z_ireturn rfl dX12_other_29 ⟨_, rfl, k⟩
theorem eX12_other {G : zG} {d : Nat} {K : Int → zH → Prop} {l1 : Int} {h : zH} (k : tX12_other_0 G d K l1 h) : zCi G (d + 1) mX12_other [vr 12 466, vi l1] h K := z_entry (by decide +kernel) (Nat.le_of_ble_eq_true rfl) rfl k
def tX12_join_0 (G : zG) (d : Nat) (K : Int → zH → Prop) (l1 : Int) (l2 : Int) (l3 : Int) (h : zH) : Prop := zTi G (d + 1) mX12_join K 0 [some (vr 12 466), some (vi l1), some (vi l2), some (vi l3), none, none, none, none, none, none, none] [] h
def tX12_join_74 (G : zG) (d : Nat) (K : Int → zH → Prop) (l1 : Int) (l2 : Int) (l3 : Int) (l5 : Int) (l7 : Int) (h : zH) : Prop := zTi G (d + 1) mX12_join K 74 [some (vr 12 466), some (vi l1), some (vi l2), some (vi l3), none, some (vl l5), none, some (vi l7), none, none, none] [] h
def tX12_join_151 (G : zG) (d : Nat) (K : Int → zH → Prop) (l1 : Int) (l2 : Int) (l3 : Int) (l5 : Int) (l7 : Int) (l8 : Int) (l9 : Int) (l10 : Int) (h : zH) : Prop := zTi G (d + 1) mX12_join K 151 [some (vr 12 466), some (vi l1), some (vi l2), some (vi l3), none, some (vl l5), none, some (vi l7), some (vi l8), some (vi l9), some (vi l10)] [] h
theorem bX12_join_0 {G : zG} {d : Nat} {K : Int → zH → Prop} {l1 : Int} {l2 : Int} {l3 : Int} {h : zH} (k : zCi G d mX12_refusesTwo [vr 12 466, vi l1, vi l2, vi l3] (zup h 466 0 0) (fun x1 h2 => zR x1 ∧ (¬ x1 = 0 → zR x1 ∧ (x1 ≤ 0 → zCv G d mX12_sorts [vr 12 466, vi l1, vi 0] h2 (fun h4 => zCv G d mX12_sorts [vr 12 466, vi l2, vi 1] h4 (fun h6 => zCv G d mX12_cutsBoth [vr 12 466, vi l1, vi l2] h6 (fun h8 => zCv G d mX12_pairsBegin [vr 12 466] h8 (fun h10 => zCi G d mX12_pairOf [vr 12 466, vi 0, vi 0, vi (-1), vi 0] h10 (fun x11 h12 => tX12_join_74 G d K l1 l2 l3 0 0 h12)))))) ∧ (¬ x1 ≤ 0 → zCi G d mX12_refused [vr 12 466, vi x1] h2 (fun x13 h14 => K x13 h14))) ∧ (x1 = 0 → zCi G d mX12_mostMachines [vr 12 466] h2 (fun x15 h16 => zR x15 ∧ (x15 ≤ 0 → zCv G d mX12_sorts [vr 12 466, vi l1, vi 0] h16 (fun h18 => zCv G d mX12_sorts [vr 12 466, vi l2, vi 1] h18 (fun h20 => zCv G d mX12_cutsBoth [vr 12 466, vi l1, vi l2] h20 (fun h22 => zCv G d mX12_pairsBegin [vr 12 466] h22 (fun h24 => zCi G d mX12_pairOf [vr 12 466, vi 0, vi 0, vi (-1), vi 0] h24 (fun x25 h26 => tX12_join_74 G d K l1 l2 l3 0 0 h26)))))) ∧ (¬ x15 ≤ 0 → zCi G d mX12_refused [vr 12 466, vi x15] h16 (fun x27 h28 => K x27 h28)))))) : tX12_join_0 G d K l1 l2 l3 h := by
  unfold tX12_join_0
  refine z_aload_n 0 dX12_join_0 rfl rfl (Nat.le_of_ble_eq_true rfl) rfl ?_
  refine z_iconst dX12_join_1 rfl ?_
  refine z_putI 12 gX12_190 dX12_join_2 rfl ?_
  refine z_aload_n 0 dX12_join_5 rfl rfl (Nat.le_of_ble_eq_true rfl) rfl ?_
  refine z_iload_n 1 dX12_join_6 rfl rfl rfl ?_
  refine z_iload_n 2 dX12_join_7 rfl rfl rfl ?_
  refine z_iload_n 3 dX12_join_8 rfl rfl rfl ?_
  refine z_callVi vX12_refusesTwo kX12_663 dX12_join_9 rfl (zRo_d d) (as := [vi l1, vi l2, vi l3]) (rest := []) (Nat.le_of_ble_eq_true rfl) rfl rfl (zCi_mono (fun x1 h2 k => ?_) k)
  refine z_istore dX12_join_12 (Nat.le_of_ble_eq_true rfl) (L' := [some (vr 12 466), some (vi l1), some (vi l2), some (vi l3), some (vi x1), none, none, none, none, none, none]) rfl rfl ?_
  refine z_iload dX12_join_14 rfl rfl ?_
  obtain ⟨r1, ka, kb⟩ := k
  refine z_if_ne (tgt := 25) dX12_join_16 rfl r1 rfl ⟨fun q => ?_, fun q => ?_⟩
  · have k := ka q
    refine z_iload dX12_join_25 rfl rfl ?_
    obtain ⟨r1, ka, kb⟩ := k
    refine z_if_le (tgt := 37) dX12_join_27 rfl r1 rfl ⟨fun q => ?_, fun q => ?_⟩
    · have k := ka q
      refine z_aload_n 0 dX12_join_37 rfl rfl (Nat.le_of_ble_eq_true rfl) rfl ?_
      refine z_iload_n 1 dX12_join_38 rfl rfl rfl ?_
      refine z_iconst dX12_join_39 rfl ?_
      refine z_callVv vX12_sorts kX12_568 dX12_join_40 rfl (zRo_d d) (as := [vi l1, vi 0]) (rest := []) (Nat.le_of_ble_eq_true rfl) rfl rfl (zCv_mono (fun h4 k => ?_) k)
      refine z_aload_n 0 dX12_join_43 rfl rfl (Nat.le_of_ble_eq_true rfl) rfl ?_
      refine z_iload_n 2 dX12_join_44 rfl rfl rfl ?_
      refine z_iconst dX12_join_45 rfl ?_
      refine z_callVv vX12_sorts kX12_568 dX12_join_46 rfl (zRo_d d) (as := [vi l2, vi 1]) (rest := []) (Nat.le_of_ble_eq_true rfl) rfl rfl (zCv_mono (fun h6 k => ?_) k)
      refine z_aload_n 0 dX12_join_49 rfl rfl (Nat.le_of_ble_eq_true rfl) rfl ?_
      refine z_iload_n 1 dX12_join_50 rfl rfl rfl ?_
      refine z_iload_n 2 dX12_join_51 rfl rfl rfl ?_
      refine z_callVv vX12_cutsBoth kX12_653 dX12_join_52 rfl (zRo_d d) (as := [vi l1, vi l2]) (rest := []) (Nat.le_of_ble_eq_true rfl) rfl rfl (zCv_mono (fun h8 k => ?_) k)
      refine z_aload_n 0 dX12_join_55 rfl rfl (Nat.le_of_ble_eq_true rfl) rfl ?_
      refine z_callVv vX12_pairsBegin kX12_656 dX12_join_56 rfl (zRo_d d) (as := []) (rest := []) (Nat.le_of_ble_eq_true rfl) rfl rfl (zCv_mono (fun h10 k => ?_) k)
      refine z_aload_n 0 dX12_join_59 rfl rfl (Nat.le_of_ble_eq_true rfl) rfl ?_
      refine z_iconst dX12_join_60 rfl ?_
      refine z_iconst dX12_join_61 rfl ?_
      refine z_iconst dX12_join_62 rfl ?_
      refine z_iconst dX12_join_63 rfl ?_
      refine z_callVi vX12_pairOf kX12_659 dX12_join_64 rfl (zRo_d d) (as := [vi 0, vi 0, vi (-1), vi 0]) (rest := []) (Nat.le_of_ble_eq_true rfl) rfl rfl (zCi_mono (fun x11 h12 k => ?_) k)
      refine z_pop dX12_join_67 (fun q => by cases q) rfl ?_
      refine z_lconst (x := 0) dX12_join_68 rfl rfl ?_
      refine z_lstore dX12_join_69 (Nat.le_of_ble_eq_true rfl) (L' := [some (vr 12 466), some (vi l1), some (vi l2), some (vi l3), some (vi x1), some (vl 0), none, none, none, none, none]) rfl rfl ?_
      refine z_iconst dX12_join_71 rfl ?_
      refine z_istore dX12_join_72 (Nat.le_of_ble_eq_true rfl) (L' := [some (vr 12 466), some (vi l1), some (vi l2), some (vi l3), some (vi x1), some (vl 0), none, some (vi 0), none, none, none]) rfl rfl ?_
      exact z_sub (L' := [some (vr 12 466), some (vi l1), some (vi l2), some (vi l3), none, some (vl 0), none, some (vi 0), none, none, none]) (And.intro rfl (And.intro rfl (And.intro rfl (And.intro rfl (And.intro rfl (And.intro rfl trivial)))))) k
    · have k := kb q
      refine z_aload_n 0 dX12_join_30 rfl rfl (Nat.le_of_ble_eq_true rfl) rfl ?_
      refine z_iload dX12_join_31 rfl rfl ?_
      refine z_callVi vX12_refused kX12_426 dX12_join_33 rfl (zRo_d d) (as := [vi x1]) (rest := []) (Nat.le_of_ble_eq_true rfl) rfl rfl (zCi_mono (fun x13 h14 k => ?_) k)
      exact z_ireturn rfl dX12_join_36 ⟨_, rfl, k⟩
  · have k := kb q
    refine z_aload_n 0 dX12_join_19 rfl rfl (Nat.le_of_ble_eq_true rfl) rfl ?_
    refine z_callVi vX12_mostMachines kX12_672 dX12_join_20 rfl (zRo_d d) (as := []) (rest := []) (Nat.le_of_ble_eq_true rfl) rfl rfl (zCi_mono (fun x15 h16 k => ?_) k)
    refine z_istore dX12_join_23 (Nat.le_of_ble_eq_true rfl) (L' := [some (vr 12 466), some (vi l1), some (vi l2), some (vi l3), some (vi x15), none, none, none, none, none, none]) rfl rfl ?_
    refine z_iload dX12_join_25 rfl rfl ?_
    obtain ⟨r1, ka, kb⟩ := k
    refine z_if_le (tgt := 37) dX12_join_27 rfl r1 rfl ⟨fun q => ?_, fun q => ?_⟩
    · have k := ka q
      refine z_aload_n 0 dX12_join_37 rfl rfl (Nat.le_of_ble_eq_true rfl) rfl ?_
      refine z_iload_n 1 dX12_join_38 rfl rfl rfl ?_
      refine z_iconst dX12_join_39 rfl ?_
      refine z_callVv vX12_sorts kX12_568 dX12_join_40 rfl (zRo_d d) (as := [vi l1, vi 0]) (rest := []) (Nat.le_of_ble_eq_true rfl) rfl rfl (zCv_mono (fun h18 k => ?_) k)
      refine z_aload_n 0 dX12_join_43 rfl rfl (Nat.le_of_ble_eq_true rfl) rfl ?_
      refine z_iload_n 2 dX12_join_44 rfl rfl rfl ?_
      refine z_iconst dX12_join_45 rfl ?_
      refine z_callVv vX12_sorts kX12_568 dX12_join_46 rfl (zRo_d d) (as := [vi l2, vi 1]) (rest := []) (Nat.le_of_ble_eq_true rfl) rfl rfl (zCv_mono (fun h20 k => ?_) k)
      refine z_aload_n 0 dX12_join_49 rfl rfl (Nat.le_of_ble_eq_true rfl) rfl ?_
      refine z_iload_n 1 dX12_join_50 rfl rfl rfl ?_
      refine z_iload_n 2 dX12_join_51 rfl rfl rfl ?_
      refine z_callVv vX12_cutsBoth kX12_653 dX12_join_52 rfl (zRo_d d) (as := [vi l1, vi l2]) (rest := []) (Nat.le_of_ble_eq_true rfl) rfl rfl (zCv_mono (fun h22 k => ?_) k)
      refine z_aload_n 0 dX12_join_55 rfl rfl (Nat.le_of_ble_eq_true rfl) rfl ?_
      refine z_callVv vX12_pairsBegin kX12_656 dX12_join_56 rfl (zRo_d d) (as := []) (rest := []) (Nat.le_of_ble_eq_true rfl) rfl rfl (zCv_mono (fun h24 k => ?_) k)
      refine z_aload_n 0 dX12_join_59 rfl rfl (Nat.le_of_ble_eq_true rfl) rfl ?_
      refine z_iconst dX12_join_60 rfl ?_
      refine z_iconst dX12_join_61 rfl ?_
      refine z_iconst dX12_join_62 rfl ?_
      refine z_iconst dX12_join_63 rfl ?_
      refine z_callVi vX12_pairOf kX12_659 dX12_join_64 rfl (zRo_d d) (as := [vi 0, vi 0, vi (-1), vi 0]) (rest := []) (Nat.le_of_ble_eq_true rfl) rfl rfl (zCi_mono (fun x25 h26 k => ?_) k)
      refine z_pop dX12_join_67 (fun q => by cases q) rfl ?_
      refine z_lconst (x := 0) dX12_join_68 rfl rfl ?_
      refine z_lstore dX12_join_69 (Nat.le_of_ble_eq_true rfl) (L' := [some (vr 12 466), some (vi l1), some (vi l2), some (vi l3), some (vi x15), some (vl 0), none, none, none, none, none]) rfl rfl ?_
      refine z_iconst dX12_join_71 rfl ?_
      refine z_istore dX12_join_72 (Nat.le_of_ble_eq_true rfl) (L' := [some (vr 12 466), some (vi l1), some (vi l2), some (vi l3), some (vi x15), some (vl 0), none, some (vi 0), none, none, none]) rfl rfl ?_
      exact z_sub (L' := [some (vr 12 466), some (vi l1), some (vi l2), some (vi l3), none, some (vl 0), none, some (vi 0), none, none, none]) (And.intro rfl (And.intro rfl (And.intro rfl (And.intro rfl (And.intro rfl (And.intro rfl trivial)))))) k
    · have k := kb q
      refine z_aload_n 0 dX12_join_30 rfl rfl (Nat.le_of_ble_eq_true rfl) rfl ?_
      refine z_iload dX12_join_31 rfl rfl ?_
      refine z_callVi vX12_refused kX12_426 dX12_join_33 rfl (zRo_d d) (as := [vi x15]) (rest := []) (Nat.le_of_ble_eq_true rfl) rfl rfl (zCi_mono (fun x27 h28 k => ?_) k)
      exact z_ireturn rfl dX12_join_36 ⟨_, rfl, k⟩
theorem bX12_join_74 {G : zG} {d : Nat} {K : Int → zH → Prop} {l1 : Int} {l2 : Int} {l3 : Int} {l5 : Int} {l7 : Int} {h : zH} (k : zR l7 ∧ zR (h 466 88) ∧ ((h 466 88) ≤ l7 → zR (h 466 88) ∧ ((h 466 88) ≤ 40 → zCv G d mX12_buildsTable [vr 12 466, vi (h 466 88), vr 13 523, vi 256, vr 13 516, vi 0, vi (h 466 87)] h (fun h2 => zCi G d mX12_makes [vr 12 466] (zup h2 466 50 l5) (fun x3 h4 => K x3 h4))) ∧ (¬ (h 466 88) ≤ 40 → zCi G d mX12_refused [vr 12 466, vi 3] h (fun x5 h6 => K x5 h6))) ∧ (¬ (h 466 88) ≤ l7 → zR (h 466 88) ∧ (40 < (h 466 88) → zR (h 466 88) ∧ ((h 466 88) ≤ 40 → zCv G d mX12_buildsTable [vr 12 466, vi (h 466 88), vr 13 523, vi 256, vr 13 516, vi 0, vi (h 466 87)] h (fun h8 => zCi G d mX12_makes [vr 12 466] (zup h8 466 50 l5) (fun x9 h10 => K x9 h10))) ∧ (¬ (h 466 88) ≤ 40 → zCi G d mX12_refused [vr 12 466, vi 3] h (fun x11 h12 => K x11 h12))) ∧ (¬ 40 < (h 466 88) → ((0 : Int) ≤ l7 ∧ l7 < 1600) ∧ (0 ≤ (h 519 l7) ∧ (h 519 l7) < 2147483648) ∧ ((0 : Int) ≤ l7 ∧ l7 < 1600) ∧ (0 ≤ (h 519 l7) ∧ (h 519 l7) < 2147483648) ∧ zCb G d mX12_classEnds [vr 12 466, vi l1, vi 0, vi ((h 519 l7) / 40)] h (fun x13 h14 => zCb G d mX12_classEnds [vr 12 466, vi l2, vi 1, vi ((h 519 l7) % 40)] h14 (fun x15 h16 => zCb G d mX12_holds [vi l3, vi (bi x13), vi (bi x15)] h16 (fun x17 h18 => (x17 = false → tX12_join_151 G d K l1 l2 l3 l5 l7 ((h 519 l7) / 40) ((h 519 l7) % 40) 0 h18) ∧ (x17 = true → tX12_join_151 G d K l1 l2 l3 (zlor l5 (zlshl 1 l7)) l7 ((h 519 l7) / 40) ((h 519 l7) % 40) 0 h18))))))) : tX12_join_74 G d K l1 l2 l3 l5 l7 h := by
  unfold tX12_join_74
  refine z_iload dX12_join_74 rfl rfl ?_
  refine z_aload_n 0 dX12_join_76 rfl rfl (Nat.le_of_ble_eq_true rfl) rfl ?_
  refine z_getI 12 (x := (h 466 88)) fX12_650 rfl dX12_join_77 rfl rfl ?_
  obtain ⟨r1, r2, ka, kb⟩ := k
  refine z_icmp_ge (tgt := 227) dX12_join_80 rfl r1 r2 rfl ⟨fun q => ?_, fun q => ?_⟩
  · have k := ka q
    refine z_aload_n 0 dX12_join_227 rfl rfl (Nat.le_of_ble_eq_true rfl) rfl ?_
    refine z_getI 12 (x := (h 466 88)) fX12_650 rfl dX12_join_228 rfl rfl ?_
    refine z_bipush dX12_join_231 rfl rfl ?_
    obtain ⟨r1, ka, kb⟩ := k
    refine z_icmp_le (tgt := 242) dX12_join_233 rfl r1 ⟨by decide, by decide⟩ rfl ⟨fun q => ?_, fun q => ?_⟩
    · have k := ka q
      refine z_aload_n 0 dX12_join_242 rfl rfl (Nat.le_of_ble_eq_true rfl) rfl ?_
      refine z_aload_n 0 dX12_join_243 rfl rfl (Nat.le_of_ble_eq_true rfl) rfl ?_
      refine z_getI 12 (x := (h 466 88)) fX12_650 rfl dX12_join_244 rfl rfl ?_
      refine z_aload_n 0 dX12_join_247 rfl rfl (Nat.le_of_ble_eq_true rfl) rfl ?_
      refine z_getF 12 13 (x := 523) fX12_184 rfl dX12_join_248 rfl rfl ?_
      refine z_sipush dX12_join_251 rfl rfl ?_
      refine z_aload_n 0 dX12_join_254 rfl rfl (Nat.le_of_ble_eq_true rfl) rfl ?_
      refine z_getF 12 13 (x := 516) fX12_163 rfl dX12_join_255 rfl rfl ?_
      refine z_iconst dX12_join_258 rfl ?_
      refine z_aload_n 0 dX12_join_259 rfl rfl (Nat.le_of_ble_eq_true rfl) rfl ?_
      refine z_getI 12 (x := (h 466 87)) fX12_647 rfl dX12_join_260 rfl rfl ?_
      refine z_callVv vX12_buildsTable kX12_678 dX12_join_263 rfl (zRo_d d) (as := [vi (h 466 88), vr 13 523, vi 256, vr 13 516, vi 0, vi (h 466 87)]) (rest := []) (Nat.le_of_ble_eq_true rfl) rfl rfl (zCv_mono (fun h2 k => ?_) k)
      refine z_aload_n 0 dX12_join_266 rfl rfl (Nat.le_of_ble_eq_true rfl) rfl ?_
      refine z_lload dX12_join_267 rfl rfl ?_
      refine z_putL 12 gX12_493 dX12_join_269 rfl ?_
      refine z_aload_n 0 dX12_join_272 rfl rfl (Nat.le_of_ble_eq_true rfl) rfl ?_
      refine z_callVi vX12_makes kX12_682 dX12_join_273 rfl (zRo_d d) (as := []) (rest := []) (Nat.le_of_ble_eq_true rfl) rfl rfl (zCi_mono (fun x3 h4 k => ?_) k)
      exact z_ireturn rfl dX12_join_276 ⟨_, rfl, k⟩
    · have k := kb q
      refine z_aload_n 0 dX12_join_236 rfl rfl (Nat.le_of_ble_eq_true rfl) rfl ?_
      refine z_iconst dX12_join_237 rfl ?_
      refine z_callVi vX12_refused kX12_426 dX12_join_238 rfl (zRo_d d) (as := [vi 3]) (rest := []) (Nat.le_of_ble_eq_true rfl) rfl rfl (zCi_mono (fun x5 h6 k => ?_) k)
      exact z_ireturn rfl dX12_join_241 ⟨_, rfl, k⟩
  · have k := kb q
    refine z_aload_n 0 dX12_join_83 rfl rfl (Nat.le_of_ble_eq_true rfl) rfl ?_
    refine z_getI 12 (x := (h 466 88)) fX12_650 rfl dX12_join_84 rfl rfl ?_
    refine z_bipush dX12_join_87 rfl rfl ?_
    obtain ⟨r1, ka, kb⟩ := k
    refine z_icmp_gt (tgt := 227) dX12_join_89 rfl r1 ⟨by decide, by decide⟩ rfl ⟨fun q => ?_, fun q => ?_⟩
    · have k := ka q
      refine z_aload_n 0 dX12_join_227 rfl rfl (Nat.le_of_ble_eq_true rfl) rfl ?_
      refine z_getI 12 (x := (h 466 88)) fX12_650 rfl dX12_join_228 rfl rfl ?_
      refine z_bipush dX12_join_231 rfl rfl ?_
      obtain ⟨r1, ka, kb⟩ := k
      refine z_icmp_le (tgt := 242) dX12_join_233 rfl r1 ⟨by decide, by decide⟩ rfl ⟨fun q => ?_, fun q => ?_⟩
      · have k := ka q
        refine z_aload_n 0 dX12_join_242 rfl rfl (Nat.le_of_ble_eq_true rfl) rfl ?_
        refine z_aload_n 0 dX12_join_243 rfl rfl (Nat.le_of_ble_eq_true rfl) rfl ?_
        refine z_getI 12 (x := (h 466 88)) fX12_650 rfl dX12_join_244 rfl rfl ?_
        refine z_aload_n 0 dX12_join_247 rfl rfl (Nat.le_of_ble_eq_true rfl) rfl ?_
        refine z_getF 12 13 (x := 523) fX12_184 rfl dX12_join_248 rfl rfl ?_
        refine z_sipush dX12_join_251 rfl rfl ?_
        refine z_aload_n 0 dX12_join_254 rfl rfl (Nat.le_of_ble_eq_true rfl) rfl ?_
        refine z_getF 12 13 (x := 516) fX12_163 rfl dX12_join_255 rfl rfl ?_
        refine z_iconst dX12_join_258 rfl ?_
        refine z_aload_n 0 dX12_join_259 rfl rfl (Nat.le_of_ble_eq_true rfl) rfl ?_
        refine z_getI 12 (x := (h 466 87)) fX12_647 rfl dX12_join_260 rfl rfl ?_
        refine z_callVv vX12_buildsTable kX12_678 dX12_join_263 rfl (zRo_d d) (as := [vi (h 466 88), vr 13 523, vi 256, vr 13 516, vi 0, vi (h 466 87)]) (rest := []) (Nat.le_of_ble_eq_true rfl) rfl rfl (zCv_mono (fun h8 k => ?_) k)
        refine z_aload_n 0 dX12_join_266 rfl rfl (Nat.le_of_ble_eq_true rfl) rfl ?_
        refine z_lload dX12_join_267 rfl rfl ?_
        refine z_putL 12 gX12_493 dX12_join_269 rfl ?_
        refine z_aload_n 0 dX12_join_272 rfl rfl (Nat.le_of_ble_eq_true rfl) rfl ?_
        refine z_callVi vX12_makes kX12_682 dX12_join_273 rfl (zRo_d d) (as := []) (rest := []) (Nat.le_of_ble_eq_true rfl) rfl rfl (zCi_mono (fun x9 h10 k => ?_) k)
        exact z_ireturn rfl dX12_join_276 ⟨_, rfl, k⟩
      · have k := kb q
        refine z_aload_n 0 dX12_join_236 rfl rfl (Nat.le_of_ble_eq_true rfl) rfl ?_
        refine z_iconst dX12_join_237 rfl ?_
        refine z_callVi vX12_refused kX12_426 dX12_join_238 rfl (zRo_d d) (as := [vi 3]) (rest := []) (Nat.le_of_ble_eq_true rfl) rfl rfl (zCi_mono (fun x11 h12 k => ?_) k)
        exact z_ireturn rfl dX12_join_241 ⟨_, rfl, k⟩
    · have k := kb q
      refine z_aload_n 0 dX12_join_92 rfl rfl (Nat.le_of_ble_eq_true rfl) rfl ?_
      refine z_getF 12 13 (x := 519) fX12_172 rfl dX12_join_93 rfl rfl ?_
      refine z_iload dX12_join_96 rfl rfl ?_
      obtain ⟨i9, k⟩ := k
      refine z_iald (x := (h 519 l7)) dX12_join_98 (by rw [zl_519]; exact i9) rfl rfl ?_
      refine z_bipush dX12_join_99 rfl rfl ?_
      obtain ⟨i9, k⟩ := k
      refine z_idiv dX12_join_101 ⟨i9.1, i9.2, by decide, by decide⟩ rfl ?_
      refine z_istore dX12_join_102 (Nat.le_of_ble_eq_true rfl) (L' := [some (vr 12 466), some (vi l1), some (vi l2), some (vi l3), none, some (vl l5), none, some (vi l7), some (vi ((h 519 l7) / 40)), none, none]) rfl rfl ?_
      refine z_aload_n 0 dX12_join_104 rfl rfl (Nat.le_of_ble_eq_true rfl) rfl ?_
      refine z_getF 12 13 (x := 519) fX12_172 rfl dX12_join_105 rfl rfl ?_
      refine z_iload dX12_join_108 rfl rfl ?_
      obtain ⟨i9, k⟩ := k
      refine z_iald (x := (h 519 l7)) dX12_join_110 (by rw [zl_519]; exact i9) rfl rfl ?_
      refine z_bipush dX12_join_111 rfl rfl ?_
      obtain ⟨i9, k⟩ := k
      refine z_irem dX12_join_113 ⟨i9.1, i9.2, by decide, by decide⟩ rfl ?_
      refine z_istore dX12_join_114 (Nat.le_of_ble_eq_true rfl) (L' := [some (vr 12 466), some (vi l1), some (vi l2), some (vi l3), none, some (vl l5), none, some (vi l7), some (vi ((h 519 l7) / 40)), some (vi ((h 519 l7) % 40)), none]) rfl rfl ?_
      refine z_iload_n 3 dX12_join_116 rfl rfl rfl ?_
      refine z_aload_n 0 dX12_join_117 rfl rfl (Nat.le_of_ble_eq_true rfl) rfl ?_
      refine z_iload_n 1 dX12_join_118 rfl rfl rfl ?_
      refine z_iconst dX12_join_119 rfl ?_
      refine z_iload dX12_join_120 rfl rfl ?_
      refine z_callVb vX12_classEnds kX12_614 dX12_join_122 rfl (zRo_d d) (as := [vi l1, vi 0, vi ((h 519 l7) / 40)]) (rest := [vi l3]) (Nat.le_of_ble_eq_true rfl) rfl rfl (zCb_mono (fun x13 h14 k => ?_) k)
      refine z_aload_n 0 dX12_join_125 rfl rfl (Nat.le_of_ble_eq_true rfl) rfl ?_
      refine z_iload_n 2 dX12_join_126 rfl rfl rfl ?_
      refine z_iconst dX12_join_127 rfl ?_
      refine z_iload dX12_join_128 rfl rfl ?_
      refine z_callVb vX12_classEnds kX12_614 dX12_join_130 rfl (zRo_d d) (as := [vi l2, vi 1, vi ((h 519 l7) % 40)]) (rest := [vi (bi x13), vi l3]) (Nat.le_of_ble_eq_true rfl) rfl rfl (zCb_mono (fun x15 h16 k => ?_) k)
      refine z_callSb sX12_holds kX12_466 dX12_join_133 rfl (zRo_d d) (as := [vi l3, vi (bi x13), vi (bi x15)]) (rest := []) (Nat.le_of_ble_eq_true rfl) rfl rfl (zCb_mono (fun x17 h18 k => ?_) k)
      obtain ⟨ka, kb⟩ := k
      refine z_ifb_eq (tgt := 148) dX12_join_136 rfl rfl ⟨fun q => ?_, fun q => ?_⟩
      · have k := ka q
        refine z_iconst dX12_join_148 rfl ?_
        refine z_istore dX12_join_149 (Nat.le_of_ble_eq_true rfl) (L' := [some (vr 12 466), some (vi l1), some (vi l2), some (vi l3), none, some (vl l5), none, some (vi l7), some (vi ((h 519 l7) / 40)), some (vi ((h 519 l7) % 40)), some (vi 0)]) rfl rfl ?_
        exact z_sub (L' := [some (vr 12 466), some (vi l1), some (vi l2), some (vi l3), none, some (vl l5), none, some (vi l7), some (vi ((h 519 l7) / 40)), some (vi ((h 519 l7) % 40)), some (vi 0)]) (And.intro rfl (And.intro rfl (And.intro rfl (And.intro rfl (And.intro rfl (And.intro rfl (And.intro rfl (And.intro rfl (And.intro rfl trivial))))))))) k
      · have k := kb q
        refine z_lload dX12_join_139 rfl rfl ?_
        refine z_lconst (x := 1) dX12_join_141 rfl rfl ?_
        refine z_iload dX12_join_142 rfl rfl ?_
        refine z_lshl dX12_join_144 rfl ?_
        refine z_lor dX12_join_145 rfl ?_
        refine z_lstore dX12_join_146 (Nat.le_of_ble_eq_true rfl) (L' := [some (vr 12 466), some (vi l1), some (vi l2), some (vi l3), none, some (vl (zlor l5 (zlshl 1 l7))), none, some (vi l7), some (vi ((h 519 l7) / 40)), some (vi ((h 519 l7) % 40)), none]) rfl rfl ?_
        refine z_iconst dX12_join_148 rfl ?_
        refine z_istore dX12_join_149 (Nat.le_of_ble_eq_true rfl) (L' := [some (vr 12 466), some (vi l1), some (vi l2), some (vi l3), none, some (vl (zlor l5 (zlshl 1 l7))), none, some (vi l7), some (vi ((h 519 l7) / 40)), some (vi ((h 519 l7) % 40)), some (vi 0)]) rfl rfl ?_
        exact z_sub (L' := [some (vr 12 466), some (vi l1), some (vi l2), some (vi l3), none, some (vl (zlor l5 (zlshl 1 l7))), none, some (vi l7), some (vi ((h 519 l7) / 40)), some (vi ((h 519 l7) % 40)), some (vi 0)]) (And.intro rfl (And.intro rfl (And.intro rfl (And.intro rfl (And.intro rfl (And.intro rfl (And.intro rfl (And.intro rfl (And.intro rfl trivial))))))))) k
theorem bX12_join_151 {G : zG} {d : Nat} {K : Int → zH → Prop} {l1 : Int} {l2 : Int} {l3 : Int} {l5 : Int} {l7 : Int} {l8 : Int} {l9 : Int} {l10 : Int} {h : zH} (k : zR l10 ∧ zR (h 466 87) ∧ ((h 466 87) ≤ l10 → tX12_join_74 G d K l1 l2 l3 l5 (l7 + 1) h) ∧ (¬ (h 466 87) ≤ l10 → ((0 : Int) ≤ l10 ∧ l10 < 256) ∧ zCi G d mX12_classGoes [vr 12 466, vi 0, vi l8, vi (h 517 l10)] h (fun x1 h2 => ((0 : Int) ≤ l10 ∧ l10 < 256) ∧ zCi G d mX12_classGoes [vr 12 466, vi 1, vi l9, vi (h2 518 l10)] h2 (fun x3 h4 => ((0 : Int) ≤ l10 ∧ l10 < 256) ∧ zCi G d mX12_pairOf [vr 12 466, vi x1, vi x3, vi l7, vi (h4 516 l10)] h4 (fun x5 h6 => ((0 : Int) ≤ ((l7 * 256) + l10) ∧ ((l7 * 256) + l10) < 10240) ∧ tX12_join_151 G d K l1 l2 l3 l5 l7 l8 l9 (l10 + 1) (zup h6 523 ((l7 * 256) + l10) x5)))))) : tX12_join_151 G d K l1 l2 l3 l5 l7 l8 l9 l10 h := by
  unfold tX12_join_151
  refine z_iload dX12_join_151 rfl rfl ?_
  refine z_aload_n 0 dX12_join_153 rfl rfl (Nat.le_of_ble_eq_true rfl) rfl ?_
  refine z_getI 12 (x := (h 466 87)) fX12_647 rfl dX12_join_154 rfl rfl ?_
  obtain ⟨r1, r2, ka, kb⟩ := k
  refine z_icmp_ge (tgt := 221) dX12_join_157 rfl r1 r2 rfl ⟨fun q => ?_, fun q => ?_⟩
  · have k := ka q
    refine z_iinc dX12_join_221 rfl (Nat.le_of_ble_eq_true rfl) (L' := [some (vr 12 466), some (vi l1), some (vi l2), some (vi l3), none, some (vl l5), none, some (vi (l7 + 1)), some (vi l8), some (vi l9), some (vi l10)]) rfl rfl ?_
    refine z_goto (tgt := 74) dX12_join_224 rfl ?_
    exact z_sub (L' := [some (vr 12 466), some (vi l1), some (vi l2), some (vi l3), none, some (vl l5), none, some (vi (l7 + 1)), none, none, none]) (And.intro rfl (And.intro rfl (And.intro rfl (And.intro rfl (And.intro rfl (And.intro rfl trivial)))))) k
  · have k := kb q
    refine z_aload_n 0 dX12_join_160 rfl rfl (Nat.le_of_ble_eq_true rfl) rfl ?_
    refine z_getF 12 13 (x := 523) fX12_184 rfl dX12_join_161 rfl rfl ?_
    refine z_iload dX12_join_164 rfl rfl ?_
    refine z_sipush dX12_join_166 rfl rfl ?_
    refine z_imul dX12_join_169 rfl ?_
    refine z_iload dX12_join_170 rfl rfl ?_
    refine z_iadd dX12_join_172 rfl ?_
    refine z_aload_n 0 dX12_join_173 rfl rfl (Nat.le_of_ble_eq_true rfl) rfl ?_
    refine z_aload_n 0 dX12_join_174 rfl rfl (Nat.le_of_ble_eq_true rfl) rfl ?_
    refine z_iconst dX12_join_175 rfl ?_
    refine z_iload dX12_join_176 rfl rfl ?_
    refine z_aload_n 0 dX12_join_178 rfl rfl (Nat.le_of_ble_eq_true rfl) rfl ?_
    refine z_getF 12 13 (x := 517) fX12_166 rfl dX12_join_179 rfl rfl ?_
    refine z_iload dX12_join_182 rfl rfl ?_
    obtain ⟨i9, k⟩ := k
    refine z_iald (x := (h 517 l10)) dX12_join_184 (by rw [zl_517]; exact i9) rfl rfl ?_
    refine z_callVi vX12_classGoes kX12_611 dX12_join_185 rfl (zRo_d d) (as := [vi 0, vi l8, vi (h 517 l10)]) (rest := [vr 12 466, vi ((l7 * 256) + l10), vr 13 523]) (Nat.le_of_ble_eq_true rfl) rfl rfl (zCi_mono (fun x1 h2 k => ?_) k)
    refine z_aload_n 0 dX12_join_188 rfl rfl (Nat.le_of_ble_eq_true rfl) rfl ?_
    refine z_iconst dX12_join_189 rfl ?_
    refine z_iload dX12_join_190 rfl rfl ?_
    refine z_aload_n 0 dX12_join_192 rfl rfl (Nat.le_of_ble_eq_true rfl) rfl ?_
    refine z_getF 12 13 (x := 518) fX12_169 rfl dX12_join_193 rfl rfl ?_
    refine z_iload dX12_join_196 rfl rfl ?_
    obtain ⟨i9, k⟩ := k
    refine z_iald (x := (h2 518 l10)) dX12_join_198 (by rw [zl_518]; exact i9) rfl rfl ?_
    refine z_callVi vX12_classGoes kX12_611 dX12_join_199 rfl (zRo_d d) (as := [vi 1, vi l9, vi (h2 518 l10)]) (rest := [vi x1, vr 12 466, vi ((l7 * 256) + l10), vr 13 523]) (Nat.le_of_ble_eq_true rfl) rfl rfl (zCi_mono (fun x3 h4 k => ?_) k)
    refine z_iload dX12_join_202 rfl rfl ?_
    refine z_aload_n 0 dX12_join_204 rfl rfl (Nat.le_of_ble_eq_true rfl) rfl ?_
    refine z_getF 12 13 (x := 516) fX12_163 rfl dX12_join_205 rfl rfl ?_
    refine z_iload dX12_join_208 rfl rfl ?_
    obtain ⟨i9, k⟩ := k
    refine z_iald (x := (h4 516 l10)) dX12_join_210 (by rw [zl_516]; exact i9) rfl rfl ?_
    refine z_callVi vX12_pairOf kX12_659 dX12_join_211 rfl (zRo_d d) (as := [vi x1, vi x3, vi l7, vi (h4 516 l10)]) (rest := [vi ((l7 * 256) + l10), vr 13 523]) (Nat.le_of_ble_eq_true rfl) rfl rfl (zCi_mono (fun x5 h6 k => ?_) k)
    obtain ⟨i9, k⟩ := k
    refine z_iast dX12_join_214 (by rw [zl_523]; exact i9) rfl ?_
    refine z_iinc dX12_join_215 rfl (Nat.le_of_ble_eq_true rfl) (L' := [some (vr 12 466), some (vi l1), some (vi l2), some (vi l3), none, some (vl l5), none, some (vi l7), some (vi l8), some (vi l9), some (vi (l10 + 1))]) rfl rfl ?_
    refine z_goto (tgt := 151) dX12_join_218 rfl ?_
    exact z_sub (L' := [some (vr 12 466), some (vi l1), some (vi l2), some (vi l3), none, some (vl l5), none, some (vi l7), some (vi l8), some (vi l9), some (vi (l10 + 1))]) (And.intro rfl (And.intro rfl (And.intro rfl (And.intro rfl (And.intro rfl (And.intro rfl (And.intro rfl (And.intro rfl (And.intro rfl trivial))))))))) k
theorem eX12_join {G : zG} {d : Nat} {K : Int → zH → Prop} {l1 : Int} {l2 : Int} {l3 : Int} {h : zH} (k : tX12_join_0 G d K l1 l2 l3 h) : zCi G (d + 1) mX12_join [vr 12 466, vi l1, vi l2, vi l3] h K := z_entry (by decide +kernel) (Nat.le_of_ble_eq_true rfl) rfl k
def tX12_buildsEdges_0 (G : zG) (d : Nat) (K : zH → Prop) (l1 : Int) (l2 : Int) (l3 : Bool) (h : zH) : Prop := zTv G (d + 1) mX12_buildsEdges K 0 [some (vr 12 466), some (vi l1), some (vi l2), some (vi (bi l3)), none] [] h
def tX12_buildsEdges_7 (G : zG) (d : Nat) (K : zH → Prop) (l1 : Int) (l2 : Int) (l3 : Bool) (l4 : Int) (h : zH) : Prop := zTv G (d + 1) mX12_buildsEdges K 7 [some (vr 12 466), some (vi l1), some (vi l2), some (vi (bi l3)), some (vi l4)] [] h
theorem bX12_buildsEdges_0 {G : zG} {d : Nat} {K : zH → Prop} {l1 : Int} {l2 : Int} {l3 : Bool} {h : zH} (k : tX12_buildsEdges_7 G d K l1 l2 l3 (l1 * 160) h) : tX12_buildsEdges_0 G d K l1 l2 l3 h := by
  unfold tX12_buildsEdges_0
  refine z_iload_n 1 dX12_buildsEdges_0 rfl rfl rfl ?_
  refine z_sipush dX12_buildsEdges_1 rfl rfl ?_
  refine z_imul dX12_buildsEdges_4 rfl ?_
  refine z_istore dX12_buildsEdges_5 (Nat.le_of_ble_eq_true rfl) (L' := [some (vr 12 466), some (vi l1), some (vi l2), some (vi (bi l3)), some (vi (l1 * 160))]) rfl rfl ?_
  exact z_sub (L' := [some (vr 12 466), some (vi l1), some (vi l2), some (vi (bi l3)), some (vi (l1 * 160))]) (And.intro rfl (And.intro rfl (And.intro rfl (And.intro rfl (And.intro rfl trivial))))) k
theorem bX12_buildsEdges_7 {G : zG} {d : Nat} {K : zH → Prop} {l1 : Int} {l2 : Int} {l3 : Bool} {l4 : Int} {h : zH} (k : ((0 : Int) ≤ l1 ∧ l1 < 14) ∧ zR l4 ∧ zR ((l1 * 160) + (h 494 l1)) ∧ (((l1 * 160) + (h 494 l1)) ≤ l4 → K h) ∧ (¬ ((l1 * 160) + (h 494 l1)) ≤ l4 → (l3 = false → ((0 : Int) ≤ l4 ∧ l4 < 2240) ∧ (l3 = false → ((0 : Int) ≤ l4 ∧ l4 < 2240) ∧ zCb G d mX12_buildsEdge [vr 12 466, vi ((h 498 l4) + l2), vi ((h 499 l4) + l2)] h (fun x1 h2 => (x1 = true → zCv G d mX12_buildsLetters [vr 12 466, vi l1, vi (l4 - (l1 * 160))] h2 (fun h4 => tX12_buildsEdges_7 G d K l1 l2 l3 (l4 + 1) h4)) ∧ (x1 = false → K h2))) ∧ (l3 = true → ((0 : Int) ≤ l4 ∧ l4 < 2240) ∧ zCb G d mX12_buildsEdge [vr 12 466, vi ((h 498 l4) + l2), vi ((h 498 l4) + l2)] h (fun x5 h6 => (x5 = true → zCv G d mX12_buildsLetters [vr 12 466, vi l1, vi (l4 - (l1 * 160))] h6 (fun h8 => tX12_buildsEdges_7 G d K l1 l2 l3 (l4 + 1) h8)) ∧ (x5 = false → K h6)))) ∧ (l3 = true → ((0 : Int) ≤ l4 ∧ l4 < 2240) ∧ (l3 = false → ((0 : Int) ≤ l4 ∧ l4 < 2240) ∧ zCb G d mX12_buildsEdge [vr 12 466, vi ((h 499 l4) + l2), vi ((h 499 l4) + l2)] h (fun x9 h10 => (x9 = true → zCv G d mX12_buildsLetters [vr 12 466, vi l1, vi (l4 - (l1 * 160))] h10 (fun h12 => tX12_buildsEdges_7 G d K l1 l2 l3 (l4 + 1) h12)) ∧ (x9 = false → K h10))) ∧ (l3 = true → ((0 : Int) ≤ l4 ∧ l4 < 2240) ∧ zCb G d mX12_buildsEdge [vr 12 466, vi ((h 499 l4) + l2), vi ((h 498 l4) + l2)] h (fun x13 h14 => (x13 = true → zCv G d mX12_buildsLetters [vr 12 466, vi l1, vi (l4 - (l1 * 160))] h14 (fun h16 => tX12_buildsEdges_7 G d K l1 l2 l3 (l4 + 1) h16)) ∧ (x13 = false → K h14)))))) : tX12_buildsEdges_7 G d K l1 l2 l3 l4 h := by
  unfold tX12_buildsEdges_7
  refine z_iload dX12_buildsEdges_7 rfl rfl ?_
  refine z_iload_n 1 dX12_buildsEdges_9 rfl rfl rfl ?_
  refine z_sipush dX12_buildsEdges_10 rfl rfl ?_
  refine z_imul dX12_buildsEdges_13 rfl ?_
  refine z_aload_n 0 dX12_buildsEdges_14 rfl rfl (Nat.le_of_ble_eq_true rfl) rfl ?_
  refine z_getF 12 13 (x := 494) fX12_97 rfl dX12_buildsEdges_15 rfl rfl ?_
  refine z_iload_n 1 dX12_buildsEdges_18 rfl rfl rfl ?_
  obtain ⟨i9, k⟩ := k
  refine z_iald (x := (h 494 l1)) dX12_buildsEdges_19 (by rw [zl_494]; exact i9) rfl rfl ?_
  refine z_iadd dX12_buildsEdges_20 rfl ?_
  obtain ⟨r1, r2, ka, kb⟩ := k
  refine z_icmp_ge (tgt := 97) dX12_buildsEdges_21 rfl r1 r2 rfl ⟨fun q => ?_, fun q => ?_⟩
  · have k := ka q
    exact z_return rfl dX12_buildsEdges_97 ⟨rfl, k⟩
  · have k := kb q
    refine z_aload_n 0 dX12_buildsEdges_24 rfl rfl (Nat.le_of_ble_eq_true rfl) rfl ?_
    refine z_iload_n 3 dX12_buildsEdges_25 rfl rfl rfl ?_
    obtain ⟨ka, kb⟩ := k
    refine z_ifb_eq (tgt := 39) dX12_buildsEdges_26 rfl rfl ⟨fun q => ?_, fun q => ?_⟩
    · have k := ka q
      refine z_aload_n 0 dX12_buildsEdges_39 rfl rfl (Nat.le_of_ble_eq_true rfl) rfl ?_
      refine z_getF 12 13 (x := 498) fX12_109 rfl dX12_buildsEdges_40 rfl rfl ?_
      refine z_iload dX12_buildsEdges_43 rfl rfl ?_
      obtain ⟨i9, k⟩ := k
      refine z_iald (x := (h 498 l4)) dX12_buildsEdges_45 (by rw [zl_498]; exact i9) rfl rfl ?_
      refine z_iload_n 2 dX12_buildsEdges_46 rfl rfl rfl ?_
      refine z_iadd dX12_buildsEdges_47 rfl ?_
      refine z_iload_n 3 dX12_buildsEdges_48 rfl rfl rfl ?_
      obtain ⟨ka, kb⟩ := k
      refine z_ifb_eq (tgt := 62) dX12_buildsEdges_49 rfl rfl ⟨fun q => ?_, fun q => ?_⟩
      · have k := ka q
        refine z_aload_n 0 dX12_buildsEdges_62 rfl rfl (Nat.le_of_ble_eq_true rfl) rfl ?_
        refine z_getF 12 13 (x := 499) fX12_112 rfl dX12_buildsEdges_63 rfl rfl ?_
        refine z_iload dX12_buildsEdges_66 rfl rfl ?_
        obtain ⟨i9, k⟩ := k
        refine z_iald (x := (h 499 l4)) dX12_buildsEdges_68 (by rw [zl_499]; exact i9) rfl rfl ?_
        refine z_iload_n 2 dX12_buildsEdges_69 rfl rfl rfl ?_
        refine z_iadd dX12_buildsEdges_70 rfl ?_
        refine z_callVb vX12_buildsEdge kX12_503 dX12_buildsEdges_71 rfl (zRo_d d) (as := [vi ((h 498 l4) + l2), vi ((h 499 l4) + l2)]) (rest := []) (Nat.le_of_ble_eq_true rfl) rfl rfl (zCb_mono (fun x1 h2 k => ?_) k)
        obtain ⟨ka, kb⟩ := k
        refine z_ifb_ne (tgt := 78) dX12_buildsEdges_74 rfl rfl ⟨fun q => ?_, fun q => ?_⟩
        · have k := ka q
          refine z_aload_n 0 dX12_buildsEdges_78 rfl rfl (Nat.le_of_ble_eq_true rfl) rfl ?_
          refine z_iload_n 1 dX12_buildsEdges_79 rfl rfl rfl ?_
          refine z_iload dX12_buildsEdges_80 rfl rfl ?_
          refine z_iload_n 1 dX12_buildsEdges_82 rfl rfl rfl ?_
          refine z_sipush dX12_buildsEdges_83 rfl rfl ?_
          refine z_imul dX12_buildsEdges_86 rfl ?_
          refine z_isub dX12_buildsEdges_87 rfl ?_
          refine z_callVv vX12_buildsLetters kX12_689 dX12_buildsEdges_88 rfl (zRo_d d) (as := [vi l1, vi (l4 - (l1 * 160))]) (rest := []) (Nat.le_of_ble_eq_true rfl) rfl rfl (zCv_mono (fun h4 k => ?_) k)
          refine z_iinc dX12_buildsEdges_91 rfl (Nat.le_of_ble_eq_true rfl) (L' := [some (vr 12 466), some (vi l1), some (vi l2), some (vi (bi l3)), some (vi (l4 + 1))]) rfl rfl ?_
          refine z_goto (tgt := 7) dX12_buildsEdges_94 rfl ?_
          exact z_sub (L' := [some (vr 12 466), some (vi l1), some (vi l2), some (vi (bi l3)), some (vi (l4 + 1))]) (And.intro rfl (And.intro rfl (And.intro rfl (And.intro rfl (And.intro rfl trivial))))) k
        · have k := kb q
          exact z_return rfl dX12_buildsEdges_77 ⟨rfl, k⟩
      · have k := kb q
        refine z_aload_n 0 dX12_buildsEdges_52 rfl rfl (Nat.le_of_ble_eq_true rfl) rfl ?_
        refine z_getF 12 13 (x := 498) fX12_109 rfl dX12_buildsEdges_53 rfl rfl ?_
        refine z_iload dX12_buildsEdges_56 rfl rfl ?_
        obtain ⟨i9, k⟩ := k
        refine z_iald (x := (h 498 l4)) dX12_buildsEdges_58 (by rw [zl_498]; exact i9) rfl rfl ?_
        refine z_goto (tgt := 69) dX12_buildsEdges_59 rfl ?_
        refine z_iload_n 2 dX12_buildsEdges_69 rfl rfl rfl ?_
        refine z_iadd dX12_buildsEdges_70 rfl ?_
        refine z_callVb vX12_buildsEdge kX12_503 dX12_buildsEdges_71 rfl (zRo_d d) (as := [vi ((h 498 l4) + l2), vi ((h 498 l4) + l2)]) (rest := []) (Nat.le_of_ble_eq_true rfl) rfl rfl (zCb_mono (fun x5 h6 k => ?_) k)
        obtain ⟨ka, kb⟩ := k
        refine z_ifb_ne (tgt := 78) dX12_buildsEdges_74 rfl rfl ⟨fun q => ?_, fun q => ?_⟩
        · have k := ka q
          refine z_aload_n 0 dX12_buildsEdges_78 rfl rfl (Nat.le_of_ble_eq_true rfl) rfl ?_
          refine z_iload_n 1 dX12_buildsEdges_79 rfl rfl rfl ?_
          refine z_iload dX12_buildsEdges_80 rfl rfl ?_
          refine z_iload_n 1 dX12_buildsEdges_82 rfl rfl rfl ?_
          refine z_sipush dX12_buildsEdges_83 rfl rfl ?_
          refine z_imul dX12_buildsEdges_86 rfl ?_
          refine z_isub dX12_buildsEdges_87 rfl ?_
          refine z_callVv vX12_buildsLetters kX12_689 dX12_buildsEdges_88 rfl (zRo_d d) (as := [vi l1, vi (l4 - (l1 * 160))]) (rest := []) (Nat.le_of_ble_eq_true rfl) rfl rfl (zCv_mono (fun h8 k => ?_) k)
          refine z_iinc dX12_buildsEdges_91 rfl (Nat.le_of_ble_eq_true rfl) (L' := [some (vr 12 466), some (vi l1), some (vi l2), some (vi (bi l3)), some (vi (l4 + 1))]) rfl rfl ?_
          refine z_goto (tgt := 7) dX12_buildsEdges_94 rfl ?_
          exact z_sub (L' := [some (vr 12 466), some (vi l1), some (vi l2), some (vi (bi l3)), some (vi (l4 + 1))]) (And.intro rfl (And.intro rfl (And.intro rfl (And.intro rfl (And.intro rfl trivial))))) k
        · have k := kb q
          exact z_return rfl dX12_buildsEdges_77 ⟨rfl, k⟩
    · have k := kb q
      refine z_aload_n 0 dX12_buildsEdges_29 rfl rfl (Nat.le_of_ble_eq_true rfl) rfl ?_
      refine z_getF 12 13 (x := 499) fX12_112 rfl dX12_buildsEdges_30 rfl rfl ?_
      refine z_iload dX12_buildsEdges_33 rfl rfl ?_
      obtain ⟨i9, k⟩ := k
      refine z_iald (x := (h 499 l4)) dX12_buildsEdges_35 (by rw [zl_499]; exact i9) rfl rfl ?_
      refine z_goto (tgt := 46) dX12_buildsEdges_36 rfl ?_
      refine z_iload_n 2 dX12_buildsEdges_46 rfl rfl rfl ?_
      refine z_iadd dX12_buildsEdges_47 rfl ?_
      refine z_iload_n 3 dX12_buildsEdges_48 rfl rfl rfl ?_
      obtain ⟨ka, kb⟩ := k
      refine z_ifb_eq (tgt := 62) dX12_buildsEdges_49 rfl rfl ⟨fun q => ?_, fun q => ?_⟩
      · have k := ka q
        refine z_aload_n 0 dX12_buildsEdges_62 rfl rfl (Nat.le_of_ble_eq_true rfl) rfl ?_
        refine z_getF 12 13 (x := 499) fX12_112 rfl dX12_buildsEdges_63 rfl rfl ?_
        refine z_iload dX12_buildsEdges_66 rfl rfl ?_
        obtain ⟨i9, k⟩ := k
        refine z_iald (x := (h 499 l4)) dX12_buildsEdges_68 (by rw [zl_499]; exact i9) rfl rfl ?_
        refine z_iload_n 2 dX12_buildsEdges_69 rfl rfl rfl ?_
        refine z_iadd dX12_buildsEdges_70 rfl ?_
        refine z_callVb vX12_buildsEdge kX12_503 dX12_buildsEdges_71 rfl (zRo_d d) (as := [vi ((h 499 l4) + l2), vi ((h 499 l4) + l2)]) (rest := []) (Nat.le_of_ble_eq_true rfl) rfl rfl (zCb_mono (fun x9 h10 k => ?_) k)
        obtain ⟨ka, kb⟩ := k
        refine z_ifb_ne (tgt := 78) dX12_buildsEdges_74 rfl rfl ⟨fun q => ?_, fun q => ?_⟩
        · have k := ka q
          refine z_aload_n 0 dX12_buildsEdges_78 rfl rfl (Nat.le_of_ble_eq_true rfl) rfl ?_
          refine z_iload_n 1 dX12_buildsEdges_79 rfl rfl rfl ?_
          refine z_iload dX12_buildsEdges_80 rfl rfl ?_
          refine z_iload_n 1 dX12_buildsEdges_82 rfl rfl rfl ?_
          refine z_sipush dX12_buildsEdges_83 rfl rfl ?_
          refine z_imul dX12_buildsEdges_86 rfl ?_
          refine z_isub dX12_buildsEdges_87 rfl ?_
          refine z_callVv vX12_buildsLetters kX12_689 dX12_buildsEdges_88 rfl (zRo_d d) (as := [vi l1, vi (l4 - (l1 * 160))]) (rest := []) (Nat.le_of_ble_eq_true rfl) rfl rfl (zCv_mono (fun h12 k => ?_) k)
          refine z_iinc dX12_buildsEdges_91 rfl (Nat.le_of_ble_eq_true rfl) (L' := [some (vr 12 466), some (vi l1), some (vi l2), some (vi (bi l3)), some (vi (l4 + 1))]) rfl rfl ?_
          refine z_goto (tgt := 7) dX12_buildsEdges_94 rfl ?_
          exact z_sub (L' := [some (vr 12 466), some (vi l1), some (vi l2), some (vi (bi l3)), some (vi (l4 + 1))]) (And.intro rfl (And.intro rfl (And.intro rfl (And.intro rfl (And.intro rfl trivial))))) k
        · have k := kb q
          exact z_return rfl dX12_buildsEdges_77 ⟨rfl, k⟩
      · have k := kb q
        refine z_aload_n 0 dX12_buildsEdges_52 rfl rfl (Nat.le_of_ble_eq_true rfl) rfl ?_
        refine z_getF 12 13 (x := 498) fX12_109 rfl dX12_buildsEdges_53 rfl rfl ?_
        refine z_iload dX12_buildsEdges_56 rfl rfl ?_
        obtain ⟨i9, k⟩ := k
        refine z_iald (x := (h 498 l4)) dX12_buildsEdges_58 (by rw [zl_498]; exact i9) rfl rfl ?_
        refine z_goto (tgt := 69) dX12_buildsEdges_59 rfl ?_
        refine z_iload_n 2 dX12_buildsEdges_69 rfl rfl rfl ?_
        refine z_iadd dX12_buildsEdges_70 rfl ?_
        refine z_callVb vX12_buildsEdge kX12_503 dX12_buildsEdges_71 rfl (zRo_d d) (as := [vi ((h 499 l4) + l2), vi ((h 498 l4) + l2)]) (rest := []) (Nat.le_of_ble_eq_true rfl) rfl rfl (zCb_mono (fun x13 h14 k => ?_) k)
        obtain ⟨ka, kb⟩ := k
        refine z_ifb_ne (tgt := 78) dX12_buildsEdges_74 rfl rfl ⟨fun q => ?_, fun q => ?_⟩
        · have k := ka q
          refine z_aload_n 0 dX12_buildsEdges_78 rfl rfl (Nat.le_of_ble_eq_true rfl) rfl ?_
          refine z_iload_n 1 dX12_buildsEdges_79 rfl rfl rfl ?_
          refine z_iload dX12_buildsEdges_80 rfl rfl ?_
          refine z_iload_n 1 dX12_buildsEdges_82 rfl rfl rfl ?_
          refine z_sipush dX12_buildsEdges_83 rfl rfl ?_
          refine z_imul dX12_buildsEdges_86 rfl ?_
          refine z_isub dX12_buildsEdges_87 rfl ?_
          refine z_callVv vX12_buildsLetters kX12_689 dX12_buildsEdges_88 rfl (zRo_d d) (as := [vi l1, vi (l4 - (l1 * 160))]) (rest := []) (Nat.le_of_ble_eq_true rfl) rfl rfl (zCv_mono (fun h16 k => ?_) k)
          refine z_iinc dX12_buildsEdges_91 rfl (Nat.le_of_ble_eq_true rfl) (L' := [some (vr 12 466), some (vi l1), some (vi l2), some (vi (bi l3)), some (vi (l4 + 1))]) rfl rfl ?_
          refine z_goto (tgt := 7) dX12_buildsEdges_94 rfl ?_
          exact z_sub (L' := [some (vr 12 466), some (vi l1), some (vi l2), some (vi (bi l3)), some (vi (l4 + 1))]) (And.intro rfl (And.intro rfl (And.intro rfl (And.intro rfl (And.intro rfl trivial))))) k
        · have k := kb q
          exact z_return rfl dX12_buildsEdges_77 ⟨rfl, k⟩
theorem eX12_buildsEdges {G : zG} {d : Nat} {K : zH → Prop} {l1 : Int} {l2 : Int} {l3 : Bool} {h : zH} (k : tX12_buildsEdges_0 G d K l1 l2 l3 h) : zCv G (d + 1) mX12_buildsEdges [vr 12 466, vi l1, vi l2, vi (bi l3)] h K := z_entry (by decide +kernel) (Nat.le_of_ble_eq_true rfl) rfl k
