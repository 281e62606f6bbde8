def tX0_readName_0 (G : zG) (d : Nat) (K : Bool → zH → Prop) (l1 : Int) (h : zH) : Prop := zTb G (d + 1) mX0_readName K 0 [some (vr 0 17), some (vr 9 l1), none] [] h
theorem bX0_readName_0 {G : zG} {d : Nat} {K : Bool → zH → Prop} {l1 : Int} {h : zH} (k : zR (h 13 5) ∧ (¬ (h 13 5) = 10 → zR (h 13 5) ∧ ((h 13 5) = 2 → zCi G d mX9_numberOf [vr 9 l1, vl (h 13 7)] h (fun x1 h2 => zR x1 ∧ (¬ x1 = (-1) → ((0 : Int) ≤ x1 ∧ x1 < 12) ∧ zCv G d mX3_copy [vr 3 (h2 17 6), vr 3 (h2 (l1 + 1) x1)] h2 (fun h6 => zCv G d mX10_step [vr 10 13] h6 (fun h8 => K true h8))) ∧ (x1 = (-1) → zCb G d mX10_fail [vr 10 13, vi 2] h2 (fun x9 h10 => K x9 h10)))) ∧ (¬ (h 13 5) = 2 → zCb G d mX10_fail [vr 10 13, vi 1] h (fun x11 h12 => K x11 h12))) ∧ ((h 13 5) = 10 → zCv G d mX3_become [vr 3 (h 17 6), vi 0, vi 65535] h (fun h15 => zCv G d mX10_step [vr 10 13] h15 (fun h17 => K true h17)))) : tX0_readName_0 G d K l1 h := by
  unfold tX0_readName_0
  refine z_know (fun zo zs zv => ?_)
  have w_l1 : zvok (vr 9 l1) := zv _ (List.mem_of_getElem? (i := 1) rfl)
  refine z_aload_n 0 dX0_readName_0 rfl rfl (Nat.le_of_ble_eq_true rfl) rfl ?_
  refine z_getF 0 10 (x := 13) fX0_40 rfl dX0_readName_1 rfl rfl ?_
  refine z_getI 10 (x := (h 13 5)) fX0_105 rfl dX0_readName_4 rfl rfl ?_
  refine z_bipush dX0_readName_7 rfl rfl ?_
  obtain ⟨r1, ka, kb⟩ := k
  refine z_icmp_ne (tgt := 31) dX0_readName_9 rfl r1 ⟨by decide, by decide⟩ rfl ⟨fun q => ?_, fun q => ?_⟩
  · have k := ka q
    refine z_aload_n 0 dX0_readName_31 rfl rfl (Nat.le_of_ble_eq_true rfl) rfl ?_
    refine z_getF 0 10 (x := 13) fX0_40 rfl dX0_readName_32 rfl rfl ?_
    refine z_getI 10 (x := (h 13 5)) fX0_105 rfl dX0_readName_35 rfl rfl ?_
    refine z_iconst dX0_readName_38 rfl ?_
    obtain ⟨r1, ka, kb⟩ := k
    refine z_icmp_eq (tgt := 51) dX0_readName_39 rfl r1 ⟨by decide, by decide⟩ rfl ⟨fun q => ?_, fun q => ?_⟩
    · have k := ka q
      refine z_aload_n 1 dX0_readName_51 rfl rfl (Nat.le_of_ble_eq_true rfl) rfl ?_
      refine z_aload_n 0 dX0_readName_52 rfl rfl (Nat.le_of_ble_eq_true rfl) rfl ?_
      refine z_getF 0 10 (x := 13) fX0_40 rfl dX0_readName_53 rfl rfl ?_
      refine z_getL 10 (x := (h 13 7)) fX0_120 rfl dX0_readName_56 rfl rfl ?_
      refine z_callVi vX9_numberOf kX0_124 dX0_readName_59 rfl (zRo_d d) (as := [vl (h 13 7)]) (rest := []) (Nat.le_of_ble_eq_true rfl) rfl rfl (zCi_mono (fun x1 h2 k => ?_) k)
      refine z_istore_n 2 dX0_readName_62 rfl (Nat.le_of_ble_eq_true rfl) (L' := [some (vr 0 17), some (vr 9 l1), some (vi x1)]) rfl rfl ?_
      refine z_iload_n 2 dX0_readName_63 rfl rfl rfl ?_
      refine z_iconst dX0_readName_64 rfl ?_
      obtain ⟨r1, ka, kb⟩ := k
      refine z_icmp_ne (tgt := 77) dX0_readName_65 rfl r1 ⟨by decide, by decide⟩ rfl ⟨fun q => ?_, fun q => ?_⟩
      · have k := ka q
        refine z_aload_n 0 dX0_readName_77 rfl rfl (Nat.le_of_ble_eq_true rfl) rfl ?_
        refine z_getR 0 3 (x := (h2 17 6)) fX0_34 rfl dX0_readName_78 rfl rfl ?_
        refine z_w (fun w3 => ?_)
        refine z_aload_n 1 dX0_readName_81 rfl rfl (Nat.le_of_ble_eq_true rfl) rfl ?_
        refine z_getF 9 16 (x := (l1 + 1)) fX0_130 rfl dX0_readName_82 (by omega) rfl ?_
        refine z_iload_n 2 dX0_readName_85 rfl rfl rfl ?_
        obtain ⟨i9, k⟩ := k
        refine z_aald16 (x := (h2 (l1 + 1) x1)) dX0_readName_86 (by rw [zl9_1 w_l1]; exact i9) rfl rfl ?_
        refine z_w (fun w4 => ?_)
        refine z_callVv vX3_copy kX0_86 dX0_readName_87 rfl (zRo_d d) (as := [vr 3 (h2 (l1 + 1) x1)]) (rest := []) (Nat.le_of_ble_eq_true rfl) rfl rfl (zCv_mono (fun h6 k => ?_) k)
        refine z_aload_n 0 dX0_readName_90 rfl rfl (Nat.le_of_ble_eq_true rfl) rfl ?_
        refine z_getF 0 10 (x := 13) fX0_40 rfl dX0_readName_91 rfl rfl ?_
        refine z_callVv vX10_step kX0_108 dX0_readName_94 rfl (zRo_d d) (as := []) (rest := []) (Nat.le_of_ble_eq_true rfl) rfl rfl (zCv_mono (fun h8 k => ?_) k)
        refine z_iconst dX0_readName_97 rfl ?_
        exact z_zreturn rfl (Or.inr rfl) dX0_readName_98 ⟨true, rfl, k⟩
      · have k := kb q
        refine z_aload_n 0 dX0_readName_68 rfl rfl (Nat.le_of_ble_eq_true rfl) rfl ?_
        refine z_getF 0 10 (x := 13) fX0_40 rfl dX0_readName_69 rfl rfl ?_
        refine z_iconst dX0_readName_72 rfl ?_
        refine z_callVb vX10_fail kX0_71 dX0_readName_73 rfl (zRo_d d) (as := [vi 2]) (rest := []) (Nat.le_of_ble_eq_true rfl) rfl rfl (zCb_mono (fun x9 h10 k => ?_) k)
        exact z_zreturn rfl (bi_01 _) dX0_readName_76 ⟨_, rfl, k⟩
    · have k := kb q
      refine z_aload_n 0 dX0_readName_42 rfl rfl (Nat.le_of_ble_eq_true rfl) rfl ?_
      refine z_getF 0 10 (x := 13) fX0_40 rfl dX0_readName_43 rfl rfl ?_
      refine z_iconst dX0_readName_46 rfl ?_
      refine z_callVb vX10_fail kX0_71 dX0_readName_47 rfl (zRo_d d) (as := [vi 1]) (rest := []) (Nat.le_of_ble_eq_true rfl) rfl rfl (zCb_mono (fun x11 h12 k => ?_) k)
      exact z_zreturn rfl (bi_01 _) dX0_readName_50 ⟨_, rfl, k⟩
  · have k := kb q
    refine z_aload_n 0 dX0_readName_12 rfl rfl (Nat.le_of_ble_eq_true rfl) rfl ?_
    refine z_getR 0 3 (x := (h 17 6)) fX0_34 rfl dX0_readName_13 rfl rfl ?_
    refine z_w (fun w13 => ?_)
    refine z_iconst dX0_readName_16 rfl ?_
    refine z_ldc (x := 65535) cX0_96 rfl dX0_readName_17 rfl ?_
    refine z_callVv vX3_become kX0_97 dX0_readName_19 rfl (zRo_d d) (as := [vi 0, vi 65535]) (rest := []) (Nat.le_of_ble_eq_true rfl) rfl rfl (zCv_mono (fun h15 k => ?_) k)
    refine z_aload_n 0 dX0_readName_22 rfl rfl (Nat.le_of_ble_eq_true rfl) rfl ?_
    refine z_getF 0 10 (x := 13) fX0_40 rfl dX0_readName_23 rfl rfl ?_
    refine z_callVv vX10_step kX0_108 dX0_readName_26 rfl (zRo_d d) (as := []) (rest := []) (Nat.le_of_ble_eq_true rfl) rfl rfl (zCv_mono (fun h17 k => ?_) k)
    refine z_iconst dX0_readName_29 rfl ?_
    exact z_zreturn rfl (Or.inr rfl) dX0_readName_30 ⟨true, rfl, k⟩
theorem eX0_readName {G : zG} {d : Nat} {K : Bool → zH → Prop} {l1 : Int} {h : zH} (k : tX0_readName_0 G d K l1 h) : zCb G (d + 1) mX0_readName [vr 0 17, vr 9 l1] h K := z_entry (by decide +kernel) (Nat.le_of_ble_eq_true rfl) rfl k
def tX0_readRanges_0 (G : zG) (d : Nat) (K : Bool → zH → Prop) (h : zH) : Prop := zTb G (d + 1) mX0_readRanges K 0 [some (vr 0 17), none, none, none, none] [] h
def tX0_readRanges_9 (G : zG) (d : Nat) (K : Bool → zH → Prop) (l1 : Int) (h : zH) : Prop := zTb G (d + 1) mX0_readRanges K 9 [some (vr 0 17), some (vi l1), none, none, none] [] h
theorem bX0_readRanges_0 {G : zG} {d : Nat} {K : Bool → zH → Prop} {h : zH} (k : zCv G d mX3_clear [vr 3 (h 17 6)] h (fun h3 => tX0_readRanges_9 G d K 0 h3)) : tX0_readRanges_0 G d K h := by
  unfold tX0_readRanges_0
  refine z_aload_n 0 dX0_readRanges_0 rfl rfl (Nat.le_of_ble_eq_true rfl) rfl ?_
  refine z_getR 0 3 (x := (h 17 6)) fX0_34 rfl dX0_readRanges_1 rfl rfl ?_
  refine z_w (fun w1 => ?_)
  refine z_callVv vX3_clear kX0_90 dX0_readRanges_4 rfl (zRo_d d) (as := []) (rest := []) (Nat.le_of_ble_eq_true rfl) rfl rfl (zCv_mono (fun h3 k => ?_) k)
  refine z_iconst dX0_readRanges_7 rfl ?_
  refine z_istore_n 1 dX0_readRanges_8 rfl (Nat.le_of_ble_eq_true rfl) (L' := [some (vr 0 17), some (vi 0), none, none, none]) rfl rfl ?_
  exact z_sub (L' := [some (vr 0 17), some (vi 0), none, none, none]) (And.intro rfl (And.intro rfl trivial)) k
theorem bX0_readRanges_9 {G : zG} {d : Nat} {K : Bool → zH → Prop} {l1 : Int} {h : zH} (k : zR l1 ∧ (900 ≤ l1 → zCb G d mX10_fail [vr 10 13, vi 1] h (fun x1 h2 => K x1 h2)) ∧ (¬ 900 ≤ l1 → zCv G d mX10_step [vr 10 13] h (fun h4 => zCi G d mX0_readBound [vr 0 17, vi 0] h4 (fun x5 h6 => zR x5 ∧ (x5 < 0 → zR x5 ∧ (0 ≤ x5 → zCv G d mX3_become [vr 3 22, vi x5, vi x5] h6 (fun h8 => zCv G d mX3_combine [vr 3 (h8 17 7), vr 3 (h8 17 6), vr 3 22, vi 14] h8 (fun h12 => zR (h12 13 5) ∧ (¬ (h12 13 5) = 93 → zR (h12 13 5) ∧ ((h12 13 5) = 44 → tX0_readRanges_9 G d K (l1 + 1) (zup (zup h12 17 6 (h12 17 7)) 17 7 (h12 17 6))) ∧ (¬ (h12 13 5) = 44 → zCb G d mX10_fail [vr 10 13, vi 1] (zup (zup h12 17 6 (h12 17 7)) 17 7 (h12 17 6)) (fun x15 h16 => K x15 h16))) ∧ ((h12 13 5) = 93 → zCv G d mX10_step [vr 10 13] (zup (zup h12 17 6 (h12 17 7)) 17 7 (h12 17 6)) (fun h18 => K true h18))))) ∧ (¬ 0 ≤ x5 → K false h6)) ∧ (¬ x5 < 0 → zR (h6 13 5) ∧ (¬ (h6 13 5) = 4 → zR x5 ∧ (0 ≤ x5 → zCv G d mX3_become [vr 3 22, vi x5, vi x5] h6 (fun h20 => zCv G d mX3_combine [vr 3 (h20 17 7), vr 3 (h20 17 6), vr 3 22, vi 14] h20 (fun h24 => zR (h24 13 5) ∧ (¬ (h24 13 5) = 93 → zR (h24 13 5) ∧ ((h24 13 5) = 44 → tX0_readRanges_9 G d K (l1 + 1) (zup (zup h24 17 6 (h24 17 7)) 17 7 (h24 17 6))) ∧ (¬ (h24 13 5) = 44 → zCb G d mX10_fail [vr 10 13, vi 1] (zup (zup h24 17 6 (h24 17 7)) 17 7 (h24 17 6)) (fun x27 h28 => K x27 h28))) ∧ ((h24 13 5) = 93 → zCv G d mX10_step [vr 10 13] (zup (zup h24 17 6 (h24 17 7)) 17 7 (h24 17 6)) (fun h30 => K true h30))))) ∧ (¬ 0 ≤ x5 → K false h6)) ∧ ((h6 13 5) = 4 → zCv G d mX10_step [vr 10 13] h6 (fun h32 => zCi G d mX0_readBound [vr 0 17, vi x5] h32 (fun x33 h34 => zR x33 ∧ (0 ≤ x33 → zCv G d mX3_become [vr 3 22, vi x5, vi x33] h34 (fun h36 => zCv G d mX3_combine [vr 3 (h36 17 7), vr 3 (h36 17 6), vr 3 22, vi 14] h36 (fun h40 => zR (h40 13 5) ∧ (¬ (h40 13 5) = 93 → zR (h40 13 5) ∧ ((h40 13 5) = 44 → tX0_readRanges_9 G d K (l1 + 1) (zup (zup h40 17 6 (h40 17 7)) 17 7 (h40 17 6))) ∧ (¬ (h40 13 5) = 44 → zCb G d mX10_fail [vr 10 13, vi 1] (zup (zup h40 17 6 (h40 17 7)) 17 7 (h40 17 6)) (fun x43 h44 => K x43 h44))) ∧ ((h40 13 5) = 93 → zCv G d mX10_step [vr 10 13] (zup (zup h40 17 6 (h40 17 7)) 17 7 (h40 17 6)) (fun h46 => K true h46))))) ∧ (¬ 0 ≤ x33 → K false h34))))))))) : tX0_readRanges_9 G d K l1 h := by
  unfold tX0_readRanges_9
  refine z_iload_n 1 dX0_readRanges_9 rfl rfl rfl ?_
  refine z_sipush dX0_readRanges_10 rfl rfl ?_
  obtain ⟨r1, ka, kb⟩ := k
  refine z_icmp_ge (tgt := 159) dX0_readRanges_13 rfl r1 ⟨by decide, by decide⟩ rfl ⟨fun q => ?_, fun q => ?_⟩
  · have k := ka q
    refine z_aload_n 0 dX0_readRanges_159 rfl rfl (Nat.le_of_ble_eq_true rfl) rfl ?_
    refine z_getF 0 10 (x := 13) fX0_40 rfl dX0_readRanges_160 rfl rfl ?_
    refine z_iconst dX0_readRanges_163 rfl ?_
    refine z_callVb vX10_fail kX0_71 dX0_readRanges_164 rfl (zRo_d d) (as := [vi 1]) (rest := []) (Nat.le_of_ble_eq_true rfl) rfl rfl (zCb_mono (fun x1 h2 k => ?_) k)
    exact z_zreturn rfl (bi_01 _) dX0_readRanges_167 ⟨_, rfl, k⟩
  · have k := kb q
    refine z_aload_n 0 dX0_readRanges_16 rfl rfl (Nat.le_of_ble_eq_true rfl) rfl ?_
    refine z_getF 0 10 (x := 13) fX0_40 rfl dX0_readRanges_17 rfl rfl ?_
    refine z_callVv vX10_step kX0_108 dX0_readRanges_20 rfl (zRo_d d) (as := []) (rest := []) (Nat.le_of_ble_eq_true rfl) rfl rfl (zCv_mono (fun h4 k => ?_) k)
    refine z_aload_n 0 dX0_readRanges_23 rfl rfl (Nat.le_of_ble_eq_true rfl) rfl ?_
    refine z_iconst dX0_readRanges_24 rfl ?_
    refine z_callVi vX0_readBound kX0_133 dX0_readRanges_25 rfl (zRo_d d) (as := [vi 0]) (rest := []) (Nat.le_of_ble_eq_true rfl) rfl rfl (zCi_mono (fun x5 h6 k => ?_) k)
    refine z_istore_n 2 dX0_readRanges_28 rfl (Nat.le_of_ble_eq_true rfl) (L' := [some (vr 0 17), some (vi l1), some (vi x5), none, none]) rfl rfl ?_
    refine z_iload_n 2 dX0_readRanges_29 rfl rfl rfl ?_
    refine z_istore_n 3 dX0_readRanges_30 rfl (Nat.le_of_ble_eq_true rfl) (L' := [some (vr 0 17), some (vi l1), some (vi x5), some (vi x5), none]) rfl rfl ?_
    refine z_iload_n 2 dX0_readRanges_31 rfl rfl rfl ?_
    obtain ⟨r1, ka, kb⟩ := k
    refine z_if_lt (tgt := 59) dX0_readRanges_32 rfl r1 rfl ⟨fun q => ?_, fun q => ?_⟩
    · have k := ka q
      refine z_iload_n 3 dX0_readRanges_59 rfl rfl rfl ?_
      obtain ⟨r1, ka, kb⟩ := k
      refine z_if_ge (tgt := 65) dX0_readRanges_60 rfl r1 rfl ⟨fun q => ?_, fun q => ?_⟩
      · have k := ka q
        refine z_aload_n 0 dX0_readRanges_65 rfl rfl (Nat.le_of_ble_eq_true rfl) rfl ?_
        refine z_getF 0 3 (x := 22) fX0_30 rfl dX0_readRanges_66 rfl rfl ?_
        refine z_iload_n 2 dX0_readRanges_69 rfl rfl rfl ?_
        refine z_iload_n 3 dX0_readRanges_70 rfl rfl rfl ?_
        refine z_callVv vX3_become kX0_97 dX0_readRanges_71 rfl (zRo_d d) (as := [vi x5, vi x5]) (rest := []) (Nat.le_of_ble_eq_true rfl) rfl rfl (zCv_mono (fun h8 k => ?_) k)
        refine z_aload_n 0 dX0_readRanges_74 rfl rfl (Nat.le_of_ble_eq_true rfl) rfl ?_
        refine z_getR 0 3 (x := (h8 17 7)) fX0_37 rfl dX0_readRanges_75 rfl rfl ?_
        refine z_w (fun w9 => ?_)
        refine z_aload_n 0 dX0_readRanges_78 rfl rfl (Nat.le_of_ble_eq_true rfl) rfl ?_
        refine z_getR 0 3 (x := (h8 17 6)) fX0_34 rfl dX0_readRanges_79 rfl rfl ?_
        refine z_w (fun w10 => ?_)
        refine z_aload_n 0 dX0_readRanges_82 rfl rfl (Nat.le_of_ble_eq_true rfl) rfl ?_
        refine z_getF 0 3 (x := 22) fX0_30 rfl dX0_readRanges_83 rfl rfl ?_
        refine z_bipush dX0_readRanges_86 rfl rfl ?_
        refine z_callVv vX3_combine kX0_101 dX0_readRanges_88 rfl (zRo_d d) (as := [vr 3 (h8 17 6), vr 3 22, vi 14]) (rest := []) (Nat.le_of_ble_eq_true rfl) rfl rfl (zCv_mono (fun h12 k => ?_) k)
        refine z_aload_n 0 dX0_readRanges_91 rfl rfl (Nat.le_of_ble_eq_true rfl) rfl ?_
        refine z_getR 0 3 (x := (h12 17 6)) fX0_34 rfl dX0_readRanges_92 rfl rfl ?_
        refine z_w (fun w13 => ?_)
        refine z_astore dX0_readRanges_95 (Nat.le_of_ble_eq_true rfl) (Nat.le_of_ble_eq_true rfl) (L' := [some (vr 0 17), some (vi l1), some (vi x5), some (vi x5), some (vr 3 (h12 17 6))]) rfl rfl ?_
        refine z_aload_n 0 dX0_readRanges_97 rfl rfl (Nat.le_of_ble_eq_true rfl) rfl ?_
        refine z_aload_n 0 dX0_readRanges_98 rfl rfl (Nat.le_of_ble_eq_true rfl) rfl ?_
        refine z_getR 0 3 (x := (h12 17 7)) fX0_37 rfl dX0_readRanges_99 rfl rfl ?_
        refine z_w (fun w14 => ?_)
        refine z_putR 0 3 gX0_34 rfl (by decide) dX0_readRanges_102 rfl ?_
        refine z_aload_n 0 dX0_readRanges_105 rfl rfl (Nat.le_of_ble_eq_true rfl) rfl ?_
        refine z_aload dX0_readRanges_106 rfl (Nat.le_of_ble_eq_true rfl) rfl ?_
        refine z_putR 0 3 gX0_37 rfl (by decide) dX0_readRanges_108 rfl ?_
        refine z_aload_n 0 dX0_readRanges_111 rfl rfl (Nat.le_of_ble_eq_true rfl) rfl ?_
        refine z_getF 0 10 (x := 13) fX0_40 rfl dX0_readRanges_112 rfl rfl ?_
        refine z_getI 10 (x := (h12 13 5)) fX0_105 rfl dX0_readRanges_115 (by simp [zup]) rfl ?_
        refine z_bipush dX0_readRanges_118 rfl rfl ?_
        obtain ⟨r1, ka, kb⟩ := k
        refine z_icmp_ne (tgt := 132) dX0_readRanges_120 rfl r1 ⟨by decide, by decide⟩ rfl ⟨fun q => ?_, fun q => ?_⟩
        · have k := ka q
          refine z_aload_n 0 dX0_readRanges_132 rfl rfl (Nat.le_of_ble_eq_true rfl) rfl ?_
          refine z_getF 0 10 (x := 13) fX0_40 rfl dX0_readRanges_133 rfl rfl ?_
          refine z_getI 10 (x := (h12 13 5)) fX0_105 rfl dX0_readRanges_136 (by simp [zup]) rfl ?_
          refine z_bipush dX0_readRanges_139 rfl rfl ?_
          obtain ⟨r1, ka, kb⟩ := k
          refine z_icmp_eq (tgt := 153) dX0_readRanges_141 rfl r1 ⟨by decide, by decide⟩ rfl ⟨fun q => ?_, fun q => ?_⟩
          · have k := ka q
            refine z_iinc dX0_readRanges_153 rfl (Nat.le_of_ble_eq_true rfl) (L' := [some (vr 0 17), some (vi (l1 + 1)), some (vi x5), some (vi x5), some (vr 3 (h12 17 6))]) rfl rfl ?_
            refine z_goto (tgt := 9) dX0_readRanges_156 rfl ?_
            exact z_sub (L' := [some (vr 0 17), some (vi (l1 + 1)), none, none, none]) (And.intro rfl (And.intro rfl trivial)) k
          · have k := kb q
            refine z_aload_n 0 dX0_readRanges_144 rfl rfl (Nat.le_of_ble_eq_true rfl) rfl ?_
            refine z_getF 0 10 (x := 13) fX0_40 rfl dX0_readRanges_145 rfl rfl ?_
            refine z_iconst dX0_readRanges_148 rfl ?_
            refine z_callVb vX10_fail kX0_71 dX0_readRanges_149 rfl (zRo_d d) (as := [vi 1]) (rest := []) (Nat.le_of_ble_eq_true rfl) rfl rfl (zCb_mono (fun x15 h16 k => ?_) k)
            exact z_zreturn rfl (bi_01 _) dX0_readRanges_152 ⟨_, rfl, k⟩
        · have k := kb q
          refine z_aload_n 0 dX0_readRanges_123 rfl rfl (Nat.le_of_ble_eq_true rfl) rfl ?_
          refine z_getF 0 10 (x := 13) fX0_40 rfl dX0_readRanges_124 rfl rfl ?_
          refine z_callVv vX10_step kX0_108 dX0_readRanges_127 rfl (zRo_d d) (as := []) (rest := []) (Nat.le_of_ble_eq_true rfl) rfl rfl (zCv_mono (fun h18 k => ?_) k)
          refine z_iconst dX0_readRanges_130 rfl ?_
          exact z_zreturn rfl (Or.inr rfl) dX0_readRanges_131 ⟨true, rfl, k⟩
      · have k := kb q
        refine z_iconst dX0_readRanges_63 rfl ?_
        exact z_zreturn rfl (Or.inl rfl) dX0_readRanges_64 ⟨false, rfl, k⟩
    · have k := kb q
      refine z_aload_n 0 dX0_readRanges_35 rfl rfl (Nat.le_of_ble_eq_true rfl) rfl ?_
      refine z_getF 0 10 (x := 13) fX0_40 rfl dX0_readRanges_36 rfl rfl ?_
      refine z_getI 10 (x := (h6 13 5)) fX0_105 rfl dX0_readRanges_39 rfl rfl ?_
      refine z_iconst dX0_readRanges_42 rfl ?_
      obtain ⟨r1, ka, kb⟩ := k
      refine z_icmp_ne (tgt := 59) dX0_readRanges_43 rfl r1 ⟨by decide, by decide⟩ rfl ⟨fun q => ?_, fun q => ?_⟩
      · have k := ka q
        refine z_iload_n 3 dX0_readRanges_59 rfl rfl rfl ?_
        obtain ⟨r1, ka, kb⟩ := k
        refine z_if_ge (tgt := 65) dX0_readRanges_60 rfl r1 rfl ⟨fun q => ?_, fun q => ?_⟩
        · have k := ka q
          refine z_aload_n 0 dX0_readRanges_65 rfl rfl (Nat.le_of_ble_eq_true rfl) rfl ?_
          refine z_getF 0 3 (x := 22) fX0_30 rfl dX0_readRanges_66 rfl rfl ?_
          refine z_iload_n 2 dX0_readRanges_69 rfl rfl rfl ?_
          refine z_iload_n 3 dX0_readRanges_70 rfl rfl rfl ?_
          refine z_callVv vX3_become kX0_97 dX0_readRanges_71 rfl (zRo_d d) (as := [vi x5, vi x5]) (rest := []) (Nat.le_of_ble_eq_true rfl) rfl rfl (zCv_mono (fun h20 k => ?_) k)
          refine z_aload_n 0 dX0_readRanges_74 rfl rfl (Nat.le_of_ble_eq_true rfl) rfl ?_
          refine z_getR 0 3 (x := (h20 17 7)) fX0_37 rfl dX0_readRanges_75 rfl rfl ?_
          refine z_w (fun w21 => ?_)
          refine z_aload_n 0 dX0_readRanges_78 rfl rfl (Nat.le_of_ble_eq_true rfl) rfl ?_
          refine z_getR 0 3 (x := (h20 17 6)) fX0_34 rfl dX0_readRanges_79 rfl rfl ?_
          refine z_w (fun w22 => ?_)
          refine z_aload_n 0 dX0_readRanges_82 rfl rfl (Nat.le_of_ble_eq_true rfl) rfl ?_
          refine z_getF 0 3 (x := 22) fX0_30 rfl dX0_readRanges_83 rfl rfl ?_
          refine z_bipush dX0_readRanges_86 rfl rfl ?_
          refine z_callVv vX3_combine kX0_101 dX0_readRanges_88 rfl (zRo_d d) (as := [vr 3 (h20 17 6), vr 3 22, vi 14]) (rest := []) (Nat.le_of_ble_eq_true rfl) rfl rfl (zCv_mono (fun h24 k => ?_) k)
          refine z_aload_n 0 dX0_readRanges_91 rfl rfl (Nat.le_of_ble_eq_true rfl) rfl ?_
          refine z_getR 0 3 (x := (h24 17 6)) fX0_34 rfl dX0_readRanges_92 rfl rfl ?_
          refine z_w (fun w25 => ?_)
          refine z_astore dX0_readRanges_95 (Nat.le_of_ble_eq_true rfl) (Nat.le_of_ble_eq_true rfl) (L' := [some (vr 0 17), some (vi l1), some (vi x5), some (vi x5), some (vr 3 (h24 17 6))]) rfl rfl ?_
          refine z_aload_n 0 dX0_readRanges_97 rfl rfl (Nat.le_of_ble_eq_true rfl) rfl ?_
          refine z_aload_n 0 dX0_readRanges_98 rfl rfl (Nat.le_of_ble_eq_true rfl) rfl ?_
          refine z_getR 0 3 (x := (h24 17 7)) fX0_37 rfl dX0_readRanges_99 rfl rfl ?_
          refine z_w (fun w26 => ?_)
          refine z_putR 0 3 gX0_34 rfl (by decide) dX0_readRanges_102 rfl ?_
          refine z_aload_n 0 dX0_readRanges_105 rfl rfl (Nat.le_of_ble_eq_true rfl) rfl ?_
          refine z_aload dX0_readRanges_106 rfl (Nat.le_of_ble_eq_true rfl) rfl ?_
          refine z_putR 0 3 gX0_37 rfl (by decide) dX0_readRanges_108 rfl ?_
          refine z_aload_n 0 dX0_readRanges_111 rfl rfl (Nat.le_of_ble_eq_true rfl) rfl ?_
          refine z_getF 0 10 (x := 13) fX0_40 rfl dX0_readRanges_112 rfl rfl ?_
          refine z_getI 10 (x := (h24 13 5)) fX0_105 rfl dX0_readRanges_115 (by simp [zup]) rfl ?_
          refine z_bipush dX0_readRanges_118 rfl rfl ?_
          obtain ⟨r1, ka, kb⟩ := k
          refine z_icmp_ne (tgt := 132) dX0_readRanges_120 rfl r1 ⟨by decide, by decide⟩ rfl ⟨fun q => ?_, fun q => ?_⟩
          · have k := ka q
            refine z_aload_n 0 dX0_readRanges_132 rfl rfl (Nat.le_of_ble_eq_true rfl) rfl ?_
            refine z_getF 0 10 (x := 13) fX0_40 rfl dX0_readRanges_133 rfl rfl ?_
            refine z_getI 10 (x := (h24 13 5)) fX0_105 rfl dX0_readRanges_136 (by simp [zup]) rfl ?_
            refine z_bipush dX0_readRanges_139 rfl rfl ?_
            obtain ⟨r1, ka, kb⟩ := k
            refine z_icmp_eq (tgt := 153) dX0_readRanges_141 rfl r1 ⟨by decide, by decide⟩ rfl ⟨fun q => ?_, fun q => ?_⟩
            · have k := ka q
              refine z_iinc dX0_readRanges_153 rfl (Nat.le_of_ble_eq_true rfl) (L' := [some (vr 0 17), some (vi (l1 + 1)), some (vi x5), some (vi x5), some (vr 3 (h24 17 6))]) rfl rfl ?_
              refine z_goto (tgt := 9) dX0_readRanges_156 rfl ?_
              exact z_sub (L' := [some (vr 0 17), some (vi (l1 + 1)), none, none, none]) (And.intro rfl (And.intro rfl trivial)) k
            · have k := kb q
              refine z_aload_n 0 dX0_readRanges_144 rfl rfl (Nat.le_of_ble_eq_true rfl) rfl ?_
              refine z_getF 0 10 (x := 13) fX0_40 rfl dX0_readRanges_145 rfl rfl ?_
              refine z_iconst dX0_readRanges_148 rfl ?_
              refine z_callVb vX10_fail kX0_71 dX0_readRanges_149 rfl (zRo_d d) (as := [vi 1]) (rest := []) (Nat.le_of_ble_eq_true rfl) rfl rfl (zCb_mono (fun x27 h28 k => ?_) k)
              exact z_zreturn rfl (bi_01 _) dX0_readRanges_152 ⟨_, rfl, k⟩
          · have k := kb q
            refine z_aload_n 0 dX0_readRanges_123 rfl rfl (Nat.le_of_ble_eq_true rfl) rfl ?_
            refine z_getF 0 10 (x := 13) fX0_40 rfl dX0_readRanges_124 rfl rfl ?_
            refine z_callVv vX10_step kX0_108 dX0_readRanges_127 rfl (zRo_d d) (as := []) (rest := []) (Nat.le_of_ble_eq_true rfl) rfl rfl (zCv_mono (fun h30 k => ?_) k)
            refine z_iconst dX0_readRanges_130 rfl ?_
            exact z_zreturn rfl (Or.inr rfl) dX0_readRanges_131 ⟨true, rfl, k⟩
        · have k := kb q
          refine z_iconst dX0_readRanges_63 rfl ?_
          exact z_zreturn rfl (Or.inl rfl) dX0_readRanges_64 ⟨false, rfl, k⟩
      · have k := kb q
        refine z_aload_n 0 dX0_readRanges_46 rfl rfl (Nat.le_of_ble_eq_true rfl) rfl ?_
        refine z_getF 0 10 (x := 13) fX0_40 rfl dX0_readRanges_47 rfl rfl ?_
        refine z_callVv vX10_step kX0_108 dX0_readRanges_50 rfl (zRo_d d) (as := []) (rest := []) (Nat.le_of_ble_eq_true rfl) rfl rfl (zCv_mono (fun h32 k => ?_) k)
        refine z_aload_n 0 dX0_readRanges_53 rfl rfl (Nat.le_of_ble_eq_true rfl) rfl ?_
        refine z_iload_n 2 dX0_readRanges_54 rfl rfl rfl ?_
        refine z_callVi vX0_readBound kX0_133 dX0_readRanges_55 rfl (zRo_d d) (as := [vi x5]) (rest := []) (Nat.le_of_ble_eq_true rfl) rfl rfl (zCi_mono (fun x33 h34 k => ?_) k)
        refine z_istore_n 3 dX0_readRanges_58 rfl (Nat.le_of_ble_eq_true rfl) (L' := [some (vr 0 17), some (vi l1), some (vi x5), some (vi x33), none]) rfl rfl ?_
        refine z_iload_n 3 dX0_readRanges_59 rfl rfl rfl ?_
        obtain ⟨r1, ka, kb⟩ := k
        refine z_if_ge (tgt := 65) dX0_readRanges_60 rfl r1 rfl ⟨fun q => ?_, fun q => ?_⟩
        · have k := ka q
          refine z_aload_n 0 dX0_readRanges_65 rfl rfl (Nat.le_of_ble_eq_true rfl) rfl ?_
          refine z_getF 0 3 (x := 22) fX0_30 rfl dX0_readRanges_66 rfl rfl ?_
          refine z_iload_n 2 dX0_readRanges_69 rfl rfl rfl ?_
          refine z_iload_n 3 dX0_readRanges_70 rfl rfl rfl ?_
          refine z_callVv vX3_become kX0_97 dX0_readRanges_71 rfl (zRo_d d) (as := [vi x5, vi x33]) (rest := []) (Nat.le_of_ble_eq_true rfl) rfl rfl (zCv_mono (fun h36 k => ?_) k)
          refine z_aload_n 0 dX0_readRanges_74 rfl rfl (Nat.le_of_ble_eq_true rfl) rfl ?_
          refine z_getR 0 3 (x := (h36 17 7)) fX0_37 rfl dX0_readRanges_75 rfl rfl ?_
          refine z_w (fun w37 => ?_)
          refine z_aload_n 0 dX0_readRanges_78 rfl rfl (Nat.le_of_ble_eq_true rfl) rfl ?_
          refine z_getR 0 3 (x := (h36 17 6)) fX0_34 rfl dX0_readRanges_79 rfl rfl ?_
          refine z_w (fun w38 => ?_)
          refine z_aload_n 0 dX0_readRanges_82 rfl rfl (Nat.le_of_ble_eq_true rfl) rfl ?_
          refine z_getF 0 3 (x := 22) fX0_30 rfl dX0_readRanges_83 rfl rfl ?_
          refine z_bipush dX0_readRanges_86 rfl rfl ?_
          refine z_callVv vX3_combine kX0_101 dX0_readRanges_88 rfl (zRo_d d) (as := [vr 3 (h36 17 6), vr 3 22, vi 14]) (rest := []) (Nat.le_of_ble_eq_true rfl) rfl rfl (zCv_mono (fun h40 k => ?_) k)
          refine z_aload_n 0 dX0_readRanges_91 rfl rfl (Nat.le_of_ble_eq_true rfl) rfl ?_
          refine z_getR 0 3 (x := (h40 17 6)) fX0_34 rfl dX0_readRanges_92 rfl rfl ?_
          refine z_w (fun w41 => ?_)
          refine z_astore dX0_readRanges_95 (Nat.le_of_ble_eq_true rfl) (Nat.le_of_ble_eq_true rfl) (L' := [some (vr 0 17), some (vi l1), some (vi x5), some (vi x33), some (vr 3 (h40 17 6))]) rfl rfl ?_
          refine z_aload_n 0 dX0_readRanges_97 rfl rfl (Nat.le_of_ble_eq_true rfl) rfl ?_
          refine z_aload_n 0 dX0_readRanges_98 rfl rfl (Nat.le_of_ble_eq_true rfl) rfl ?_
          refine z_getR 0 3 (x := (h40 17 7)) fX0_37 rfl dX0_readRanges_99 rfl rfl ?_
          refine z_w (fun w42 => ?_)
          refine z_putR 0 3 gX0_34 rfl (by decide) dX0_readRanges_102 rfl ?_
          refine z_aload_n 0 dX0_readRanges_105 rfl rfl (Nat.le_of_ble_eq_true rfl) rfl ?_
          refine z_aload dX0_readRanges_106 rfl (Nat.le_of_ble_eq_true rfl) rfl ?_
          refine z_putR 0 3 gX0_37 rfl (by decide) dX0_readRanges_108 rfl ?_
          refine z_aload_n 0 dX0_readRanges_111 rfl rfl (Nat.le_of_ble_eq_true rfl) rfl ?_
          refine z_getF 0 10 (x := 13) fX0_40 rfl dX0_readRanges_112 rfl rfl ?_
          refine z_getI 10 (x := (h40 13 5)) fX0_105 rfl dX0_readRanges_115 (by simp [zup]) rfl ?_
          refine z_bipush dX0_readRanges_118 rfl rfl ?_
          obtain ⟨r1, ka, kb⟩ := k
          refine z_icmp_ne (tgt := 132) dX0_readRanges_120 rfl r1 ⟨by decide, by decide⟩ rfl ⟨fun q => ?_, fun q => ?_⟩
          · have k := ka q
            refine z_aload_n 0 dX0_readRanges_132 rfl rfl (Nat.le_of_ble_eq_true rfl) rfl ?_
            refine z_getF 0 10 (x := 13) fX0_40 rfl dX0_readRanges_133 rfl rfl ?_
            refine z_getI 10 (x := (h40 13 5)) fX0_105 rfl dX0_readRanges_136 (by simp [zup]) rfl ?_
            refine z_bipush dX0_readRanges_139 rfl rfl ?_
            obtain ⟨r1, ka, kb⟩ := k
            refine z_icmp_eq (tgt := 153) dX0_readRanges_141 rfl r1 ⟨by decide, by decide⟩ rfl ⟨fun q => ?_, fun q => ?_⟩
            · have k := ka q
              refine z_iinc dX0_readRanges_153 rfl (Nat.le_of_ble_eq_true rfl) (L' := [some (vr 0 17), some (vi (l1 + 1)), some (vi x5), some (vi x33), some (vr 3 (h40 17 6))]) rfl rfl ?_
              refine z_goto (tgt := 9) dX0_readRanges_156 rfl ?_
              exact z_sub (L' := [some (vr 0 17), some (vi (l1 + 1)), none, none, none]) (And.intro rfl (And.intro rfl trivial)) k
            · have k := kb q
              refine z_aload_n 0 dX0_readRanges_144 rfl rfl (Nat.le_of_ble_eq_true rfl) rfl ?_
              refine z_getF 0 10 (x := 13) fX0_40 rfl dX0_readRanges_145 rfl rfl ?_
              refine z_iconst dX0_readRanges_148 rfl ?_
              refine z_callVb vX10_fail kX0_71 dX0_readRanges_149 rfl (zRo_d d) (as := [vi 1]) (rest := []) (Nat.le_of_ble_eq_true rfl) rfl rfl (zCb_mono (fun x43 h44 k => ?_) k)
              exact z_zreturn rfl (bi_01 _) dX0_readRanges_152 ⟨_, rfl, k⟩
          · have k := kb q
            refine z_aload_n 0 dX0_readRanges_123 rfl rfl (Nat.le_of_ble_eq_true rfl) rfl ?_
            refine z_getF 0 10 (x := 13) fX0_40 rfl dX0_readRanges_124 rfl rfl ?_
            refine z_callVv vX10_step kX0_108 dX0_readRanges_127 rfl (zRo_d d) (as := []) (rest := []) (Nat.le_of_ble_eq_true rfl) rfl rfl (zCv_mono (fun h46 k => ?_) k)
            refine z_iconst dX0_readRanges_130 rfl ?_
            exact z_zreturn rfl (Or.inr rfl) dX0_readRanges_131 ⟨true, rfl, k⟩
        · have k := kb q
          refine z_iconst dX0_readRanges_63 rfl ?_
          exact z_zreturn rfl (Or.inl rfl) dX0_readRanges_64 ⟨false, rfl, k⟩
theorem eX0_readRanges {G : zG} {d : Nat} {K : Bool → zH → Prop} {h : zH} (k : tX0_readRanges_0 G d K h) : zCb G (d + 1) mX0_readRanges [vr 0 17] h K := z_entry (by decide +kernel) (Nat.le_of_ble_eq_true rfl) rfl k
def tX0_readBound_0 (G : zG) (d : Nat) (K : Int → zH → Prop) (l1 : Int) (h : zH) : Prop := zTi G (d + 1) mX0_readBound K 0 [some (vr 0 17), some (vi l1), none, none] [] h
theorem bX0_readBound_0 {G : zG} {d : Nat} {K : Int → zH → Prop} {l1 : Int} {h : zH} (k : zR (h 13 5) ∧ ((h 13 5) = 3 → (0 ≤ (zcmp (h 13 7) 65536) → zCb G d mX10_fail [vr 10 13, vi 4] h (fun x1 h2 => K (-1) h2)) ∧ (¬ 0 ≤ (zcmp (h 13 7) 65536) → zR l1 ∧ (0 ≤ (zcmp (h 13 7) l1) → zCv G d mX10_step [vr 10 13] h (fun h4 => zRL (h 13 7) ∧ K (h 13 7) h4)) ∧ (¬ 0 ≤ (zcmp (h 13 7) l1) → zCb G d mX10_fail [vr 10 13, vi 4] h (fun x5 h6 => K (-1) h6)))) ∧ (¬ (h 13 5) = 3 → zCb G d mX10_fail [vr 10 13, vi 1] h (fun x7 h8 => K (-1) h8))) : tX0_readBound_0 G d K l1 h := by
  unfold tX0_readBound_0
  refine z_aload_n 0 dX0_readBound_0 rfl rfl (Nat.le_of_ble_eq_true rfl) rfl ?_
  refine z_getF 0 10 (x := 13) fX0_40 rfl dX0_readBound_1 rfl rfl ?_
  refine z_getI 10 (x := (h 13 5)) fX0_105 rfl dX0_readBound_4 rfl rfl ?_
  refine z_iconst dX0_readBound_7 rfl ?_
  obtain ⟨r1, ka, kb⟩ := k
  refine z_icmp_eq (tgt := 22) dX0_readBound_8 rfl r1 ⟨by decide, by decide⟩ rfl ⟨fun q => ?_, fun q => ?_⟩
  · have k := ka q
    refine z_aload_n 0 dX0_readBound_22 rfl rfl (Nat.le_of_ble_eq_true rfl) rfl ?_
    refine z_getF 0 10 (x := 13) fX0_40 rfl dX0_readBound_23 rfl rfl ?_
    refine z_getL 10 (x := (h 13 7)) fX0_120 rfl dX0_readBound_26 rfl rfl ?_
    refine z_lstore_n 2 dX0_readBound_29 rfl (Nat.le_of_ble_eq_true rfl) (L' := [some (vr 0 17), some (vi l1), some (vl (h 13 7)), none]) rfl rfl ?_
    refine z_lload_n 2 dX0_readBound_30 rfl rfl rfl ?_
    refine z_ldc2 (x := 65536) cX0_137 rfl dX0_readBound_31 rfl ?_
    refine z_lcmp dX0_readBound_34 rfl ?_
    obtain ⟨ka, kb⟩ := k
    refine z_if_ge (tgt := 45) dX0_readBound_35 rfl (zcmp_R _ _) rfl ⟨fun q => ?_, fun q => ?_⟩
    · have k := ka q
      refine z_aload_n 0 dX0_readBound_45 rfl rfl (Nat.le_of_ble_eq_true rfl) rfl ?_
      refine z_getF 0 10 (x := 13) fX0_40 rfl dX0_readBound_46 rfl rfl ?_
      refine z_iconst dX0_readBound_49 rfl ?_
      refine z_callVb vX10_fail kX0_71 dX0_readBound_50 rfl (zRo_d d) (as := [vi 4]) (rest := []) (Nat.le_of_ble_eq_true rfl) rfl rfl (zCb_mono (fun x1 h2 k => ?_) k)
      refine z_pop dX0_readBound_53 (fun q => by cases q) rfl ?_
      refine z_iconst dX0_readBound_54 rfl ?_
      exact z_ireturn rfl dX0_readBound_55 ⟨_, rfl, k⟩
    · have k := kb q
      refine z_lload_n 2 dX0_readBound_38 rfl rfl rfl ?_
      refine z_iload_n 1 dX0_readBound_39 rfl rfl rfl ?_
      obtain ⟨r9, k⟩ := k
      refine z_i2l dX0_readBound_40 r9 rfl ?_
      refine z_lcmp dX0_readBound_41 rfl ?_
      obtain ⟨ka, kb⟩ := k
      refine z_if_ge (tgt := 56) dX0_readBound_42 rfl (zcmp_R _ _) rfl ⟨fun q => ?_, fun q => ?_⟩
      · have k := ka q
        refine z_aload_n 0 dX0_readBound_56 rfl rfl (Nat.le_of_ble_eq_true rfl) rfl ?_
        refine z_getF 0 10 (x := 13) fX0_40 rfl dX0_readBound_57 rfl rfl ?_
        refine z_callVv vX10_step kX0_108 dX0_readBound_60 rfl (zRo_d d) (as := []) (rest := []) (Nat.le_of_ble_eq_true rfl) rfl rfl (zCv_mono (fun h4 k => ?_) k)
        refine z_lload_n 2 dX0_readBound_63 rfl rfl rfl ?_
        obtain ⟨r9, k⟩ := k
        refine z_l2i dX0_readBound_64 r9 rfl ?_
        exact z_ireturn rfl dX0_readBound_65 ⟨_, rfl, k⟩
      · have k := kb q
        refine z_aload_n 0 dX0_readBound_45 rfl rfl (Nat.le_of_ble_eq_true rfl) rfl ?_
        refine z_getF 0 10 (x := 13) fX0_40 rfl dX0_readBound_46 rfl rfl ?_
        refine z_iconst dX0_readBound_49 rfl ?_
        refine z_callVb vX10_fail kX0_71 dX0_readBound_50 rfl (zRo_d d) (as := [vi 4]) (rest := []) (Nat.le_of_ble_eq_true rfl) rfl rfl (zCb_mono (fun x5 h6 k => ?_) k)
        refine z_pop dX0_readBound_53 (fun q => by cases q) rfl ?_
        refine z_iconst dX0_readBound_54 rfl ?_
        exact z_ireturn rfl dX0_readBound_55 ⟨_, rfl, k⟩
  · have k := kb q
    refine z_aload_n 0 dX0_readBound_11 rfl rfl (Nat.le_of_ble_eq_true rfl) rfl ?_
    refine z_getF 0 10 (x := 13) fX0_40 rfl dX0_readBound_12 rfl rfl ?_
    refine z_iconst dX0_readBound_15 rfl ?_
    refine z_callVb vX10_fail kX0_71 dX0_readBound_16 rfl (zRo_d d) (as := [vi 1]) (rest := []) (Nat.le_of_ble_eq_true rfl) rfl rfl (zCb_mono (fun x7 h8 k => ?_) k)
    refine z_pop dX0_readBound_19 (fun q => by cases q) rfl ?_
    refine z_iconst dX0_readBound_20 rfl ?_
    exact z_ireturn rfl dX0_readBound_21 ⟨_, rfl, k⟩
theorem eX0_readBound {G : zG} {d : Nat} {K : Int → zH → Prop} {l1 : Int} {h : zH} (k : tX0_readBound_0 G d K l1 h) : zCi G (d + 1) mX0_readBound [vr 0 17, vi l1] h K := z_entry (by decide +kernel) (Nat.le_of_ble_eq_true rfl) rfl k
def tX0_readSign_0 (G : zG) (d : Nat) (K : Bool → zH → Prop) (h : zH) : Prop := zTb G (d + 1) mX0_readSign K 0 [some (vr 0 17), none] [] h
theorem bX0_readSign_0 {G : zG} {d : Nat} {K : Bool → zH → Prop} {h : zH} (k : zR (h 13 5) ∧ (¬ (h 13 5) = 124 → zR (h 13 5) ∧ ((h 13 5) = 38 → zR (h 13 5) ∧ (¬ (h 13 5) = 38 → ((0 : Int) ≤ (h 17 8) ∧ (h 17 8) < 13) ∧ zCv G d mX10_step [vr 10 13] (zup (zup h 20 (h 17 8) 2) 17 10 1) (fun h2 => K true h2)) ∧ ((h 13 5) = 38 → ((0 : Int) ≤ (h 17 8) ∧ (h 17 8) < 13) ∧ zCv G d mX10_step [vr 10 13] (zup (zup h 20 (h 17 8) 8) 17 10 1) (fun h4 => K true h4))) ∧ (¬ (h 13 5) = 38 → zR (h 13 5) ∧ (¬ (h 13 5) = 45 → zR (h 13 5) ∧ (¬ (h 13 5) = 41 → K false h) ∧ ((h 13 5) = 41 → zR (h 17 8) ∧ ((h 17 8) ≤ 0 → K false h) ∧ (¬ (h 17 8) ≤ 0 → zCv G d mX0_closeMeet [vr 0 17] h (fun h6 => ((0 : Int) ≤ (((h6 17 8) - 1) + 1) ∧ (((h6 17 8) - 1) + 1) < 13) ∧ zCv G d mX0_closePart [vr 0 17, vr 3 (h6 18 (((h6 17 8) - 1) + 1))] (zup (zup h6 17 8 ((h6 17 8) - 1)) 17 9 ((h6 17 9) - 1)) (fun h9 => zCv G d mX10_step [vr 10 13] h9 (fun h11 => K true h11)))))) ∧ ((h 13 5) = 45 → zR (h 13 5) ∧ (¬ (h 13 5) = 38 → ((0 : Int) ≤ (h 17 8) ∧ (h 17 8) < 13) ∧ zCv G d mX10_step [vr 10 13] (zup (zup h 20 (h 17 8) 2) 17 10 1) (fun h13 => K true h13)) ∧ ((h 13 5) = 38 → ((0 : Int) ≤ (h 17 8) ∧ (h 17 8) < 13) ∧ zCv G d mX10_step [vr 10 13] (zup (zup h 20 (h 17 8) 8) 17 10 1) (fun h15 => K true h15))))) ∧ ((h 13 5) = 124 → zCv G d mX0_closeMeet [vr 0 17] h (fun h17 => zCv G d mX0_openMeet [vr 0 17] h17 (fun h19 => zCv G d mX10_step [vr 10 13] h19 (fun h21 => K true h21))))) : tX0_readSign_0 G d K h := by
  unfold tX0_readSign_0
  refine z_aload_n 0 dX0_readSign_0 rfl rfl (Nat.le_of_ble_eq_true rfl) rfl ?_
  refine z_getF 0 10 (x := 13) fX0_40 rfl dX0_readSign_1 rfl rfl ?_
  refine z_getI 10 (x := (h 13 5)) fX0_105 rfl dX0_readSign_4 rfl rfl ?_
  refine z_istore_n 1 dX0_readSign_7 rfl (Nat.le_of_ble_eq_true rfl) (L' := [some (vr 0 17), some (vi (h 13 5))]) rfl rfl ?_
  refine z_iload_n 1 dX0_readSign_8 rfl rfl rfl ?_
  refine z_bipush dX0_readSign_9 rfl rfl ?_
  obtain ⟨r1, ka, kb⟩ := k
  refine z_icmp_ne (tgt := 25) dX0_readSign_11 rfl r1 ⟨by decide, by decide⟩ rfl ⟨fun q => ?_, fun q => ?_⟩
  · have k := ka q
    refine z_iload_n 1 dX0_readSign_25 rfl rfl rfl ?_
    refine z_bipush dX0_readSign_26 rfl rfl ?_
    obtain ⟨r1, ka, kb⟩ := k
    refine z_icmp_eq (tgt := 37) dX0_readSign_28 rfl r1 ⟨by decide, by decide⟩ rfl ⟨fun q => ?_, fun q => ?_⟩
    · have k := ka q
      refine z_aload_n 0 dX0_readSign_37 rfl rfl (Nat.le_of_ble_eq_true rfl) rfl ?_
      refine z_getF 0 13 (x := 20) fX0_20 rfl dX0_readSign_38 rfl rfl ?_
      refine z_aload_n 0 dX0_readSign_41 rfl rfl (Nat.le_of_ble_eq_true rfl) rfl ?_
      refine z_getI 0 (x := (h 17 8)) fX0_50 rfl dX0_readSign_42 rfl rfl ?_
      refine z_iload_n 1 dX0_readSign_45 rfl rfl rfl ?_
      refine z_bipush dX0_readSign_46 rfl rfl ?_
      obtain ⟨r1, ka, kb⟩ := k
      refine z_icmp_ne (tgt := 56) dX0_readSign_48 rfl r1 ⟨by decide, by decide⟩ rfl ⟨fun q => ?_, fun q => ?_⟩
      · have k := ka q
        refine z_iconst dX0_readSign_56 rfl ?_
        obtain ⟨i9, k⟩ := k
        refine z_iast dX0_readSign_57 (by rw [zl_20]; exact i9) rfl ?_
        refine z_aload_n 0 dX0_readSign_58 rfl rfl (Nat.le_of_ble_eq_true rfl) rfl ?_
        refine z_iconst dX0_readSign_59 rfl ?_
        refine z_putZ 0 gX0_59 (Or.inr rfl) dX0_readSign_60 rfl ?_
        refine z_goto (tgt := 123) dX0_readSign_63 rfl ?_
        refine z_aload_n 0 dX0_readSign_123 rfl rfl (Nat.le_of_ble_eq_true rfl) rfl ?_
        refine z_getF 0 10 (x := 13) fX0_40 rfl dX0_readSign_124 rfl rfl ?_
        refine z_callVv vX10_step kX0_108 dX0_readSign_127 rfl (zRo_d d) (as := []) (rest := []) (Nat.le_of_ble_eq_true rfl) rfl rfl (zCv_mono (fun h2 k => ?_) k)
        refine z_iconst dX0_readSign_130 rfl ?_
        exact z_zreturn rfl (Or.inr rfl) dX0_readSign_131 ⟨true, rfl, k⟩
      · have k := kb q
        refine z_bipush dX0_readSign_51 rfl rfl ?_
        refine z_goto (tgt := 57) dX0_readSign_53 rfl ?_
        obtain ⟨i9, k⟩ := k
        refine z_iast dX0_readSign_57 (by rw [zl_20]; exact i9) rfl ?_
        refine z_aload_n 0 dX0_readSign_58 rfl rfl (Nat.le_of_ble_eq_true rfl) rfl ?_
        refine z_iconst dX0_readSign_59 rfl ?_
        refine z_putZ 0 gX0_59 (Or.inr rfl) dX0_readSign_60 rfl ?_
        refine z_goto (tgt := 123) dX0_readSign_63 rfl ?_
        refine z_aload_n 0 dX0_readSign_123 rfl rfl (Nat.le_of_ble_eq_true rfl) rfl ?_
        refine z_getF 0 10 (x := 13) fX0_40 rfl dX0_readSign_124 rfl rfl ?_
        refine z_callVv vX10_step kX0_108 dX0_readSign_127 rfl (zRo_d d) (as := []) (rest := []) (Nat.le_of_ble_eq_true rfl) rfl rfl (zCv_mono (fun h4 k => ?_) k)
        refine z_iconst dX0_readSign_130 rfl ?_
        exact z_zreturn rfl (Or.inr rfl) dX0_readSign_131 ⟨true, rfl, k⟩
    · have k := kb q
      refine z_iload_n 1 dX0_readSign_31 rfl rfl rfl ?_
      refine z_bipush dX0_readSign_32 rfl rfl ?_
      obtain ⟨r1, ka, kb⟩ := k
      refine z_icmp_ne (tgt := 66) dX0_readSign_34 rfl r1 ⟨by decide, by decide⟩ rfl ⟨fun q => ?_, fun q => ?_⟩
      · have k := ka q
        refine z_iload_n 1 dX0_readSign_66 rfl rfl rfl ?_
        refine z_bipush dX0_readSign_67 rfl rfl ?_
        obtain ⟨r1, ka, kb⟩ := k
        refine z_icmp_ne (tgt := 121) dX0_readSign_69 rfl r1 ⟨by decide, by decide⟩ rfl ⟨fun q => ?_, fun q => ?_⟩
        · have k := ka q
          refine z_iconst dX0_readSign_121 rfl ?_
          exact z_zreturn rfl (Or.inl rfl) dX0_readSign_122 ⟨false, rfl, k⟩
        · have k := kb q
          refine z_aload_n 0 dX0_readSign_72 rfl rfl (Nat.le_of_ble_eq_true rfl) rfl ?_
          refine z_getI 0 (x := (h 17 8)) fX0_50 rfl dX0_readSign_73 rfl rfl ?_
          obtain ⟨r1, ka, kb⟩ := k
          refine z_if_le (tgt := 121) dX0_readSign_76 rfl r1 rfl ⟨fun q => ?_, fun q => ?_⟩
          · have k := ka q
            refine z_iconst dX0_readSign_121 rfl ?_
            exact z_zreturn rfl (Or.inl rfl) dX0_readSign_122 ⟨false, rfl, k⟩
          · have k := kb q
            refine z_aload_n 0 dX0_readSign_79 rfl rfl (Nat.le_of_ble_eq_true rfl) rfl ?_
            refine z_callVv vX0_closeMeet kX0_75 dX0_readSign_80 rfl (zRo_d d) (as := []) (rest := []) (Nat.le_of_ble_eq_true rfl) rfl rfl (zCv_mono (fun h6 k => ?_) k)
            refine z_aload_n 0 dX0_readSign_83 rfl rfl (Nat.le_of_ble_eq_true rfl) rfl ?_
            refine z_dup dX0_readSign_84 (fun q => by cases q) rfl ?_
            refine z_getI 0 (x := (h6 17 8)) fX0_50 rfl dX0_readSign_85 rfl rfl ?_
            refine z_iconst dX0_readSign_88 rfl ?_
            refine z_isub dX0_readSign_89 rfl ?_
            refine z_putI 0 gX0_50 dX0_readSign_90 rfl ?_
            refine z_aload_n 0 dX0_readSign_93 rfl rfl (Nat.le_of_ble_eq_true rfl) rfl ?_
            refine z_dup dX0_readSign_94 (fun q => by cases q) rfl ?_
            refine z_getI 0 (x := (h6 17 9)) fX0_53 rfl dX0_readSign_95 (by simp [zup]) rfl ?_
            refine z_iconst dX0_readSign_98 rfl ?_
            refine z_isub dX0_readSign_99 rfl ?_
            refine z_putI 0 gX0_53 dX0_readSign_100 rfl ?_
            refine z_aload_n 0 dX0_readSign_103 rfl rfl (Nat.le_of_ble_eq_true rfl) rfl ?_
            refine z_aload_n 0 dX0_readSign_104 rfl rfl (Nat.le_of_ble_eq_true rfl) rfl ?_
            refine z_getF 0 16 (x := 18) fX0_13 rfl dX0_readSign_105 rfl rfl ?_
            refine z_aload_n 0 dX0_readSign_108 rfl rfl (Nat.le_of_ble_eq_true rfl) rfl ?_
            refine z_getI 0 (x := ((h6 17 8) - 1)) fX0_50 rfl dX0_readSign_109 (by simp [zup]) rfl ?_
            refine z_iconst dX0_readSign_112 rfl ?_
            refine z_iadd dX0_readSign_113 rfl ?_
            obtain ⟨i9, k⟩ := k
            refine z_aald16 (x := (h6 18 (((h6 17 8) - 1) + 1))) dX0_readSign_114 (by rw [zl_18]; exact i9) (by simp [zup]) rfl ?_
            refine z_w (fun w7 => ?_)
            refine z_callVv vX0_closePart kX0_117 dX0_readSign_115 rfl (zRo_d d) (as := [vr 3 (h6 18 (((h6 17 8) - 1) + 1))]) (rest := []) (Nat.le_of_ble_eq_true rfl) rfl rfl (zCv_mono (fun h9 k => ?_) k)
            refine z_goto (tgt := 123) dX0_readSign_118 rfl ?_
            refine z_aload_n 0 dX0_readSign_123 rfl rfl (Nat.le_of_ble_eq_true rfl) rfl ?_
            refine z_getF 0 10 (x := 13) fX0_40 rfl dX0_readSign_124 rfl rfl ?_
            refine z_callVv vX10_step kX0_108 dX0_readSign_127 rfl (zRo_d d) (as := []) (rest := []) (Nat.le_of_ble_eq_true rfl) rfl rfl (zCv_mono (fun h11 k => ?_) k)
            refine z_iconst dX0_readSign_130 rfl ?_
            exact z_zreturn rfl (Or.inr rfl) dX0_readSign_131 ⟨true, rfl, k⟩
      · have k := kb q
        refine z_aload_n 0 dX0_readSign_37 rfl rfl (Nat.le_of_ble_eq_true rfl) rfl ?_
        refine z_getF 0 13 (x := 20) fX0_20 rfl dX0_readSign_38 rfl rfl ?_
        refine z_aload_n 0 dX0_readSign_41 rfl rfl (Nat.le_of_ble_eq_true rfl) rfl ?_
        refine z_getI 0 (x := (h 17 8)) fX0_50 rfl dX0_readSign_42 rfl rfl ?_
        refine z_iload_n 1 dX0_readSign_45 rfl rfl rfl ?_
        refine z_bipush dX0_readSign_46 rfl rfl ?_
        obtain ⟨r1, ka, kb⟩ := k
        refine z_icmp_ne (tgt := 56) dX0_readSign_48 rfl r1 ⟨by decide, by decide⟩ rfl ⟨fun q => ?_, fun q => ?_⟩
        · have k := ka q
          refine z_iconst dX0_readSign_56 rfl ?_
          obtain ⟨i9, k⟩ := k
          refine z_iast dX0_readSign_57 (by rw [zl_20]; exact i9) rfl ?_
          refine z_aload_n 0 dX0_readSign_58 rfl rfl (Nat.le_of_ble_eq_true rfl) rfl ?_
          refine z_iconst dX0_readSign_59 rfl ?_
          refine z_putZ 0 gX0_59 (Or.inr rfl) dX0_readSign_60 rfl ?_
          refine z_goto (tgt := 123) dX0_readSign_63 rfl ?_
          refine z_aload_n 0 dX0_readSign_123 rfl rfl (Nat.le_of_ble_eq_true rfl) rfl ?_
          refine z_getF 0 10 (x := 13) fX0_40 rfl dX0_readSign_124 rfl rfl ?_
          refine z_callVv vX10_step kX0_108 dX0_readSign_127 rfl (zRo_d d) (as := []) (rest := []) (Nat.le_of_ble_eq_true rfl) rfl rfl (zCv_mono (fun h13 k => ?_) k)
          refine z_iconst dX0_readSign_130 rfl ?_
          exact z_zreturn rfl (Or.inr rfl) dX0_readSign_131 ⟨true, rfl, k⟩
        · have k := kb q
          refine z_bipush dX0_readSign_51 rfl rfl ?_
          refine z_goto (tgt := 57) dX0_readSign_53 rfl ?_
          obtain ⟨i9, k⟩ := k
          refine z_iast dX0_readSign_57 (by rw [zl_20]; exact i9) rfl ?_
          refine z_aload_n 0 dX0_readSign_58 rfl rfl (Nat.le_of_ble_eq_true rfl) rfl ?_
          refine z_iconst dX0_readSign_59 rfl ?_
          refine z_putZ 0 gX0_59 (Or.inr rfl) dX0_readSign_60 rfl ?_
          refine z_goto (tgt := 123) dX0_readSign_63 rfl ?_
          refine z_aload_n 0 dX0_readSign_123 rfl rfl (Nat.le_of_ble_eq_true rfl) rfl ?_
          refine z_getF 0 10 (x := 13) fX0_40 rfl dX0_readSign_124 rfl rfl ?_
          refine z_callVv vX10_step kX0_108 dX0_readSign_127 rfl (zRo_d d) (as := []) (rest := []) (Nat.le_of_ble_eq_true rfl) rfl rfl (zCv_mono (fun h15 k => ?_) k)
          refine z_iconst dX0_readSign_130 rfl ?_
          exact z_zreturn rfl (Or.inr rfl) dX0_readSign_131 ⟨true, rfl, k⟩
  · have k := kb q
    refine z_aload_n 0 dX0_readSign_14 rfl rfl (Nat.le_of_ble_eq_true rfl) rfl ?_
    refine z_callVv vX0_closeMeet kX0_75 dX0_readSign_15 rfl (zRo_d d) (as := []) (rest := []) (Nat.le_of_ble_eq_true rfl) rfl rfl (zCv_mono (fun h17 k => ?_) k)
    refine z_aload_n 0 dX0_readSign_18 rfl rfl (Nat.le_of_ble_eq_true rfl) rfl ?_
    refine z_callVv vX0_openMeet kX0_93 dX0_readSign_19 rfl (zRo_d d) (as := []) (rest := []) (Nat.le_of_ble_eq_true rfl) rfl rfl (zCv_mono (fun h19 k => ?_) k)
    refine z_goto (tgt := 123) dX0_readSign_22 rfl ?_
    refine z_aload_n 0 dX0_readSign_123 rfl rfl (Nat.le_of_ble_eq_true rfl) rfl ?_
    refine z_getF 0 10 (x := 13) fX0_40 rfl dX0_readSign_124 rfl rfl ?_
    refine z_callVv vX10_step kX0_108 dX0_readSign_127 rfl (zRo_d d) (as := []) (rest := []) (Nat.le_of_ble_eq_true rfl) rfl rfl (zCv_mono (fun h21 k => ?_) k)
    refine z_iconst dX0_readSign_130 rfl ?_
    exact z_zreturn rfl (Or.inr rfl) dX0_readSign_131 ⟨true, rfl, k⟩
theorem eX0_readSign {G : zG} {d : Nat} {K : Bool → zH → Prop} {h : zH} (k : tX0_readSign_0 G d K h) : zCb G (d + 1) mX0_readSign [vr 0 17] h K := z_entry (by decide +kernel) (Nat.le_of_ble_eq_true rfl) rfl k
def tX8_readBench_0 (G : zG) (d : Nat) (K : Bool → zH → Prop) (l1 : Int) (l2 : Int) (h : zH) : Prop := zTb G (d + 1) mX8_readBench K 0 [some (vr 8 12), some (vr 15 l1), some (vi l2), none, none, none] [] h
def tX8_readBench_32 (G : zG) (d : Nat) (K : Bool → zH → Prop) (l3 : Int) (l4 : Int) (h : zH) : Prop := zTb G (d + 1) mX8_readBench K 32 [some (vr 8 12), none, none, some (vi l3), some (vi l4), none] [] h
def tX8_readBench_60 (G : zG) (d : Nat) (K : Bool → zH → Prop) (l4 : Int) (h : zH) : Prop := zTb G (d + 1) mX8_readBench K 60 [some (vr 8 12), none, none, none, some (vi l4), none] [] h
def tX8_readBench_155 (G : zG) (d : Nat) (K : Bool → zH → Prop) (l4 : Int) (l5 : Int) (h : zH) : Prop := zTb G (d + 1) mX8_readBench K 155 [some (vr 8 12), none, none, none, some (vi l4), some (vi l5)] [] h
def tX8_readBench_191 (G : zG) (d : Nat) (K : Bool → zH → Prop) (l3 : Int) (l4 : Int) (h : zH) : Prop := zTb G (d + 1) mX8_readBench K 191 [some (vr 8 12), none, none, some (vi l3), some (vi l4), none] [] h
def tX8_readBench_197 (G : zG) (d : Nat) (K : Bool → zH → Prop) (h : zH) : Prop := zTb G (d + 1) mX8_readBench K 197 [some (vr 8 12), none, none, none, none, none] [] h
def tX8_readBench_256 (G : zG) (d : Nat) (K : Bool → zH → Prop) (h : zH) : Prop := zTb G (d + 1) mX8_readBench K 256 [none, none, none, none, none, none] [] h
theorem bX8_readBench_0 {G : zG} {d : Nat} {K : Bool → zH → Prop} {l1 : Int} {l2 : Int} {h : zH} (k : zCv G d mX10_split [vr 10 13, vr 15 l1, vi l2] h (fun h2 => tX8_readBench_32 G d K 1 0 (zup (zup (zup h2 (h2 12 5) 2 0) 12 6 0) 12 7 0))) : tX8_readBench_0 G d K l1 l2 h := by
  unfold tX8_readBench_0
  refine z_aload_n 0 dX8_readBench_0 rfl rfl (Nat.le_of_ble_eq_true rfl) rfl ?_
  refine z_getF 8 10 (x := 13) fX8_12 rfl dX8_readBench_1 rfl rfl ?_
  refine z_aload_n 1 dX8_readBench_4 rfl rfl (Nat.le_of_ble_eq_true rfl) rfl ?_
  refine z_iload_n 2 dX8_readBench_5 rfl rfl rfl ?_
  refine z_callVv vX10_split kX8_54 dX8_readBench_6 rfl (zRo_d d) (as := [vr 15 l1, vi l2]) (rest := []) (Nat.le_of_ble_eq_true rfl) rfl rfl (zCv_mono (fun h2 k => ?_) k)
  refine z_aload_n 0 dX8_readBench_9 rfl rfl (Nat.le_of_ble_eq_true rfl) rfl ?_
  refine z_getR 8 9 (x := (h2 12 5)) fX8_42 rfl dX8_readBench_10 rfl rfl ?_
  refine z_w (fun w3 => ?_)
  refine z_iconst dX8_readBench_13 rfl ?_
  refine z_putI 9 gX8_58 dX8_readBench_14 rfl ?_
  refine z_aload_n 0 dX8_readBench_17 rfl rfl (Nat.le_of_ble_eq_true rfl) rfl ?_
  refine z_iconst dX8_readBench_18 rfl ?_
  refine z_putI 8 gX8_62 dX8_readBench_19 rfl ?_
  refine z_aload_n 0 dX8_readBench_22 rfl rfl (Nat.le_of_ble_eq_true rfl) rfl ?_
  refine z_iconst dX8_readBench_23 rfl ?_
  refine z_putZ 8 gX8_65 (Or.inl rfl) dX8_readBench_24 rfl ?_
  refine z_iconst dX8_readBench_27 rfl ?_
  refine z_istore_n 3 dX8_readBench_28 rfl (Nat.le_of_ble_eq_true rfl) (L' := [some (vr 8 12), some (vr 15 l1), some (vi l2), some (vi 1), none, none]) rfl rfl ?_
  refine z_iconst dX8_readBench_29 rfl ?_
  refine z_istore dX8_readBench_30 (Nat.le_of_ble_eq_true rfl) (L' := [some (vr 8 12), some (vr 15 l1), some (vi l2), some (vi 1), some (vi 0), none]) rfl rfl ?_
  exact z_sub (L' := [some (vr 8 12), none, none, some (vi 1), some (vi 0), none]) (And.intro rfl (And.intro rfl (And.intro rfl trivial))) k
theorem bX8_readBench_32 {G : zG} {d : Nat} {K : Bool → zH → Prop} {l3 : Int} {l4 : Int} {h : zH} (k : zR l3 ∧ (l3 = 0 → tX8_readBench_197 G d K h) ∧ (¬ l3 = 0 → zR l4 ∧ (900 < l4 → tX8_readBench_197 G d K h) ∧ (¬ 900 < l4 → zR (h 13 5) ∧ (¬ (h 13 5) = 6 → tX8_readBench_60 G d K l4 h) ∧ ((h 13 5) = 6 → zCv G d mX8_closeMachine [vr 8 12] h (fun h2 => tX8_readBench_60 G d K l4 h2))))) : tX8_readBench_32 G d K l3 l4 h := by
  unfold tX8_readBench_32
  refine z_iload_n 3 dX8_readBench_32 rfl rfl rfl ?_
  obtain ⟨r1, ka, kb⟩ := k
  refine z_if_eq (tgt := 197) dX8_readBench_33 rfl r1 rfl ⟨fun q => ?_, fun q => ?_⟩
  · have k := ka q
    exact z_sub (L' := [some (vr 8 12), none, none, none, none, none]) (And.intro rfl trivial) k
  · have k := kb q
    refine z_iload dX8_readBench_36 rfl rfl ?_
    refine z_sipush dX8_readBench_38 rfl rfl ?_
    obtain ⟨r1, ka, kb⟩ := k
    refine z_icmp_gt (tgt := 197) dX8_readBench_41 rfl r1 ⟨by decide, by decide⟩ rfl ⟨fun q => ?_, fun q => ?_⟩
    · have k := ka q
      exact z_sub (L' := [some (vr 8 12), none, none, none, none, none]) (And.intro rfl trivial) k
    · have k := kb q
      refine z_aload_n 0 dX8_readBench_44 rfl rfl (Nat.le_of_ble_eq_true rfl) rfl ?_
      refine z_getF 8 10 (x := 13) fX8_12 rfl dX8_readBench_45 rfl rfl ?_
      refine z_getI 10 (x := (h 13 5)) fX8_69 rfl dX8_readBench_48 rfl rfl ?_
      refine z_bipush dX8_readBench_51 rfl rfl ?_
      obtain ⟨r1, ka, kb⟩ := k
      refine z_icmp_ne (tgt := 60) dX8_readBench_53 rfl r1 ⟨by decide, by decide⟩ rfl ⟨fun q => ?_, fun q => ?_⟩
      · have k := ka q
        exact z_sub (L' := [some (vr 8 12), none, none, none, some (vi l4), none]) (And.intro rfl (And.intro rfl trivial)) k
      · have k := kb q
        refine z_aload_n 0 dX8_readBench_56 rfl rfl (Nat.le_of_ble_eq_true rfl) rfl ?_
        refine z_callVv vX8_closeMachine kX8_72 dX8_readBench_57 rfl (zRo_d d) (as := []) (rest := []) (Nat.le_of_ble_eq_true rfl) rfl rfl (zCv_mono (fun h2 k => ?_) k)
        exact z_sub (L' := [some (vr 8 12), none, none, none, some (vi l4), none]) (And.intro rfl (And.intro rfl trivial)) k
theorem bX8_readBench_60 {G : zG} {d : Nat} {K : Bool → zH → Prop} {l4 : Int} {h : zH} (k : zR (h 13 5) ∧ ((h 13 5) < 5 ∨ 9 < (h 13 5) → zCb G d mX10_fail [vr 10 13, vi 1] h (fun x1 h2 => tX8_readBench_155 G d K l4 (bi x1) h2)) ∧ ((h 13 5) = 5 → zCb G d mX8_readSet [vr 8 12] h (fun x3 h4 => tX8_readBench_155 G d K l4 (bi x3) h4)) ∧ ((h 13 5) = 6 → zCb G d mX8_readMachine [vr 8 12] h (fun x5 h6 => tX8_readBench_155 G d K l4 (bi x5) h6)) ∧ ((h 13 5) = 7 → zCb G d mX8_readEdge [vr 8 12] h (fun x7 h8 => tX8_readBench_155 G d K l4 (bi x7) h8)) ∧ ((h 13 5) = 8 → zCb G d mX8_readFree [vr 8 12] h (fun x9 h10 => tX8_readBench_155 G d K l4 (bi x9) h10)) ∧ ((h 13 5) = 9 → zCb G d mX8_readEnd [vr 8 12] h (fun x11 h12 => tX8_readBench_155 G d K l4 (bi x11) h12))) : tX8_readBench_60 G d K l4 h := by
  unfold tX8_readBench_60
  refine z_aload_n 0 dX8_readBench_60 rfl rfl (Nat.le_of_ble_eq_true rfl) rfl ?_
  refine z_getF 8 10 (x := 13) fX8_12 rfl dX8_readBench_61 rfl rfl ?_
  refine z_getI 10 (x := (h 13 5)) fX8_69 rfl dX8_readBench_64 rfl rfl ?_
  obtain ⟨r1, kd, k_0, k_1, k_2, k_3, k_4⟩ := k
  refine z_table (dt := 145) (ts := [100, 109, 118, 127, 136]) dX8_readBench_67 r1 rfl rfl rfl ⟨fun q => ?_, fun i t hi q => ?_⟩
  · have k := kd q
    refine z_aload_n 0 dX8_readBench_145 rfl rfl (Nat.le_of_ble_eq_true rfl) rfl ?_
    refine z_getF 8 10 (x := 13) fX8_12 rfl dX8_readBench_146 rfl rfl ?_
    refine z_iconst dX8_readBench_149 rfl ?_
    refine z_callVb vX10_fail kX8_91 dX8_readBench_150 rfl (zRo_d d) (as := [vi 1]) (rest := []) (Nat.le_of_ble_eq_true rfl) rfl rfl (zCb_mono (fun x1 h2 k => ?_) k)
    refine z_istore dX8_readBench_153 (Nat.le_of_ble_eq_true rfl) (L' := [some (vr 8 12), none, none, none, some (vi l4), some (vi (bi x1))]) rfl rfl ?_
    exact z_sub (L' := [some (vr 8 12), none, none, none, some (vi l4), some (vi (bi x1))]) (And.intro rfl (And.intro rfl (And.intro rfl trivial))) k
  · match i, hi, q with
    | 0, hi, q =>
      cases hi
      have k := k_0 (by omega)
      refine z_aload_n 0 dX8_readBench_100 rfl rfl (Nat.le_of_ble_eq_true rfl) rfl ?_
      refine z_callVb vX8_readSet kX8_75 dX8_readBench_101 rfl (zRo_d d) (as := []) (rest := []) (Nat.le_of_ble_eq_true rfl) rfl rfl (zCb_mono (fun x3 h4 k => ?_) k)
      refine z_istore dX8_readBench_104 (Nat.le_of_ble_eq_true rfl) (L' := [some (vr 8 12), none, none, none, some (vi l4), some (vi (bi x3))]) rfl rfl ?_
      refine z_goto (tgt := 155) dX8_readBench_106 rfl ?_
      exact z_sub (L' := [some (vr 8 12), none, none, none, some (vi l4), some (vi (bi x3))]) (And.intro rfl (And.intro rfl (And.intro rfl trivial))) k
    | 1, hi, q =>
      cases hi
      have k := k_1 (by omega)
      refine z_aload_n 0 dX8_readBench_109 rfl rfl (Nat.le_of_ble_eq_true rfl) rfl ?_
      refine z_callVb vX8_readMachine kX8_79 dX8_readBench_110 rfl (zRo_d d) (as := []) (rest := []) (Nat.le_of_ble_eq_true rfl) rfl rfl (zCb_mono (fun x5 h6 k => ?_) k)
      refine z_istore dX8_readBench_113 (Nat.le_of_ble_eq_true rfl) (L' := [some (vr 8 12), none, none, none, some (vi l4), some (vi (bi x5))]) rfl rfl ?_
      refine z_goto (tgt := 155) dX8_readBench_115 rfl ?_
      exact z_sub (L' := [some (vr 8 12), none, none, none, some (vi l4), some (vi (bi x5))]) (And.intro rfl (And.intro rfl (And.intro rfl trivial))) k
    | 2, hi, q =>
      cases hi
      have k := k_2 (by omega)
      refine z_aload_n 0 dX8_readBench_118 rfl rfl (Nat.le_of_ble_eq_true rfl) rfl ?_
      refine z_callVb vX8_readEdge kX8_82 dX8_readBench_119 rfl (zRo_d d) (as := []) (rest := []) (Nat.le_of_ble_eq_true rfl) rfl rfl (zCb_mono (fun x7 h8 k => ?_) k)
      refine z_istore dX8_readBench_122 (Nat.le_of_ble_eq_true rfl) (L' := [some (vr 8 12), none, none, none, some (vi l4), some (vi (bi x7))]) rfl rfl ?_
      refine z_goto (tgt := 155) dX8_readBench_124 rfl ?_
      exact z_sub (L' := [some (vr 8 12), none, none, none, some (vi l4), some (vi (bi x7))]) (And.intro rfl (And.intro rfl (And.intro rfl trivial))) k
    | 3, hi, q =>
      cases hi
      have k := k_3 (by omega)
      refine z_aload_n 0 dX8_readBench_127 rfl rfl (Nat.le_of_ble_eq_true rfl) rfl ?_
      refine z_callVb vX8_readFree kX8_85 dX8_readBench_128 rfl (zRo_d d) (as := []) (rest := []) (Nat.le_of_ble_eq_true rfl) rfl rfl (zCb_mono (fun x9 h10 k => ?_) k)
      refine z_istore dX8_readBench_131 (Nat.le_of_ble_eq_true rfl) (L' := [some (vr 8 12), none, none, none, some (vi l4), some (vi (bi x9))]) rfl rfl ?_
      refine z_goto (tgt := 155) dX8_readBench_133 rfl ?_
      exact z_sub (L' := [some (vr 8 12), none, none, none, some (vi l4), some (vi (bi x9))]) (And.intro rfl (And.intro rfl (And.intro rfl trivial))) k
    | 4, hi, q =>
      cases hi
      have k := k_4 (by omega)
      refine z_aload_n 0 dX8_readBench_136 rfl rfl (Nat.le_of_ble_eq_true rfl) rfl ?_
      refine z_callVb vX8_readEnd kX8_88 dX8_readBench_137 rfl (zRo_d d) (as := []) (rest := []) (Nat.le_of_ble_eq_true rfl) rfl rfl (zCb_mono (fun x11 h12 k => ?_) k)
      refine z_istore dX8_readBench_140 (Nat.le_of_ble_eq_true rfl) (L' := [some (vr 8 12), none, none, none, some (vi l4), some (vi (bi x11))]) rfl rfl ?_
      refine z_goto (tgt := 155) dX8_readBench_142 rfl ?_
      exact z_sub (L' := [some (vr 8 12), none, none, none, some (vi l4), some (vi (bi x11))]) (And.intro rfl (And.intro rfl (And.intro rfl trivial))) k
    | i + 5, hi, q =>
      exact absurd hi (by simp)
theorem bX8_readBench_155 {G : zG} {d : Nat} {K : Bool → zH → Prop} {l4 : Int} {l5 : Int} {h : zH} (k : zR l5 ∧ (¬ l5 = 0 → zR (h 13 5) ∧ (¬ (h 13 5) = 59 → tX8_readBench_191 G d K 0 l4 h) ∧ ((h 13 5) = 59 → zCv G d mX10_step [vr 10 13] h (fun h2 => tX8_readBench_191 G d K 1 l4 h2))) ∧ (l5 = 0 → K false h)) : tX8_readBench_155 G d K l4 l5 h := by
  unfold tX8_readBench_155
  refine z_iload dX8_readBench_155 rfl rfl ?_
  obtain ⟨r1, ka, kb⟩ := k
  refine z_if_ne (tgt := 162) dX8_readBench_157 rfl r1 rfl ⟨fun q => ?_, fun q => ?_⟩
  · have k := ka q
    refine z_aload_n 0 dX8_readBench_162 rfl rfl (Nat.le_of_ble_eq_true rfl) rfl ?_
    refine z_getF 8 10 (x := 13) fX8_12 rfl dX8_readBench_163 rfl rfl ?_
    refine z_getI 10 (x := (h 13 5)) fX8_69 rfl dX8_readBench_166 rfl rfl ?_
    refine z_bipush dX8_readBench_169 rfl rfl ?_
    obtain ⟨r1, ka, kb⟩ := k
    refine z_icmp_ne (tgt := 178) dX8_readBench_171 rfl r1 ⟨by decide, by decide⟩ rfl ⟨fun q => ?_, fun q => ?_⟩
    · have k := ka q
      refine z_iconst dX8_readBench_178 rfl ?_
      refine z_istore_n 3 dX8_readBench_179 rfl (Nat.le_of_ble_eq_true rfl) (L' := [some (vr 8 12), none, none, some (vi 0), some (vi l4), some (vi l5)]) rfl rfl ?_
      refine z_iload_n 3 dX8_readBench_180 rfl rfl rfl ?_
      refine z_if_eq (tgt := 191) dX8_readBench_181 rfl ⟨by decide, by decide⟩ rfl ⟨fun _ => ?_, fun q => absurd q (by decide)⟩
      exact z_sub (L' := [some (vr 8 12), none, none, some (vi 0), some (vi l4), none]) (And.intro rfl (And.intro rfl (And.intro rfl trivial))) k
    · have k := kb q
      refine z_iconst dX8_readBench_174 rfl ?_
      refine z_goto (tgt := 179) dX8_readBench_175 rfl ?_
      refine z_istore_n 3 dX8_readBench_179 rfl (Nat.le_of_ble_eq_true rfl) (L' := [some (vr 8 12), none, none, some (vi 1), some (vi l4), some (vi l5)]) rfl rfl ?_
      refine z_iload_n 3 dX8_readBench_180 rfl rfl rfl ?_
      refine z_if_eq (tgt := 191) dX8_readBench_181 rfl ⟨by decide, by decide⟩ rfl ⟨fun q => absurd q (by decide), fun _ => ?_⟩
      refine z_aload_n 0 dX8_readBench_184 rfl rfl (Nat.le_of_ble_eq_true rfl) rfl ?_
      refine z_getF 8 10 (x := 13) fX8_12 rfl dX8_readBench_185 rfl rfl ?_
      refine z_callVv vX10_step kX8_95 dX8_readBench_188 rfl (zRo_d d) (as := []) (rest := []) (Nat.le_of_ble_eq_true rfl) rfl rfl (zCv_mono (fun h2 k => ?_) k)
      exact z_sub (L' := [some (vr 8 12), none, none, some (vi 1), some (vi l4), none]) (And.intro rfl (And.intro rfl (And.intro rfl trivial))) k
  · have k := kb q
    refine z_iconst dX8_readBench_160 rfl ?_
    exact z_zreturn rfl (Or.inl rfl) dX8_readBench_161 ⟨false, rfl, k⟩
theorem bX8_readBench_191 {G : zG} {d : Nat} {K : Bool → zH → Prop} {l3 : Int} {l4 : Int} {h : zH} (k : tX8_readBench_32 G d K l3 (l4 + 1) h) : tX8_readBench_191 G d K l3 l4 h := by
  unfold tX8_readBench_191
  refine z_iinc dX8_readBench_191 rfl (Nat.le_of_ble_eq_true rfl) (L' := [some (vr 8 12), none, none, some (vi l3), some (vi (l4 + 1)), none]) rfl rfl ?_
  refine z_goto (tgt := 32) dX8_readBench_194 rfl ?_
  exact z_sub (L' := [some (vr 8 12), none, none, some (vi l3), some (vi (l4 + 1)), none]) (And.intro rfl (And.intro rfl (And.intro rfl trivial))) k
theorem bX8_readBench_197 {G : zG} {d : Nat} {K : Bool → zH → Prop} {h : zH} (k : zR (h 13 5) ∧ ((h 13 5) = 0 → zR (h 12 6) ∧ (¬ (h 12 6) = 0 → zCv G d mX8_closeMachine [vr 8 12] h (fun h2 => zR (h2 12 7) ∧ ((h2 12 7) = 0 → tX8_readBench_256 G d K h2) ∧ (¬ (h2 12 7) = 0 → zCb G d mX10_fail [vr 10 13, vi 8] h2 (fun x3 h4 => (x3 = false → K false h4) ∧ (x3 = true → tX8_readBench_256 G d K h4))))) ∧ ((h 12 6) = 0 → zCb G d mX10_fail [vr 10 13, vi 7] h (fun x5 h6 => K x5 h6))) ∧ (¬ (h 13 5) = 0 → zCb G d mX10_fail [vr 10 13, vi 1] h (fun x7 h8 => K x7 h8))) : tX8_readBench_197 G d K h := by
  unfold tX8_readBench_197
  refine z_aload_n 0 dX8_readBench_197 rfl rfl (Nat.le_of_ble_eq_true rfl) rfl ?_
  refine z_getF 8 10 (x := 13) fX8_12 rfl dX8_readBench_198 rfl rfl ?_
  refine z_getI 10 (x := (h 13 5)) fX8_69 rfl dX8_readBench_201 rfl rfl ?_
  obtain ⟨r1, ka, kb⟩ := k
  refine z_if_eq (tgt := 216) dX8_readBench_204 rfl r1 rfl ⟨fun q => ?_, fun q => ?_⟩
  · have k := ka q
    refine z_aload_n 0 dX8_readBench_216 rfl rfl (Nat.le_of_ble_eq_true rfl) rfl ?_
    refine z_getI 8 (x := (h 12 6)) fX8_62 rfl dX8_readBench_217 rfl rfl ?_
    obtain ⟨r1, ka, kb⟩ := k
    refine z_if_ne (tgt := 233) dX8_readBench_220 rfl r1 rfl ⟨fun q => ?_, fun q => ?_⟩
    · have k := ka q
      refine z_aload_n 0 dX8_readBench_233 rfl rfl (Nat.le_of_ble_eq_true rfl) rfl ?_
      refine z_callVv vX8_closeMachine kX8_72 dX8_readBench_234 rfl (zRo_d d) (as := []) (rest := []) (Nat.le_of_ble_eq_true rfl) rfl rfl (zCv_mono (fun h2 k => ?_) k)
      refine z_aload_n 0 dX8_readBench_237 rfl rfl (Nat.le_of_ble_eq_true rfl) rfl ?_
      refine z_getZ 8 (x := (h2 12 7)) fX8_65 rfl dX8_readBench_238 rfl rfl ?_
      obtain ⟨r1, ka, kb⟩ := k
      refine z_if_eq (tgt := 256) dX8_readBench_241 rfl r1 rfl ⟨fun q => ?_, fun q => ?_⟩
      · have k := ka q
        exact z_sub (L' := [none, none, none, none, none, none]) trivial k
      · have k := kb q
        refine z_aload_n 0 dX8_readBench_244 rfl rfl (Nat.le_of_ble_eq_true rfl) rfl ?_
        refine z_getF 8 10 (x := 13) fX8_12 rfl dX8_readBench_245 rfl rfl ?_
        refine z_bipush dX8_readBench_248 rfl rfl ?_
        refine z_callVb vX10_fail kX8_91 dX8_readBench_250 rfl (zRo_d d) (as := [vi 8]) (rest := []) (Nat.le_of_ble_eq_true rfl) rfl rfl (zCb_mono (fun x3 h4 k => ?_) k)
        obtain ⟨ka, kb⟩ := k
        refine z_ifb_eq (tgt := 260) dX8_readBench_253 rfl rfl ⟨fun q => ?_, fun q => ?_⟩
        · have k := ka q
          refine z_iconst dX8_readBench_260 rfl ?_
          exact z_zreturn rfl (Or.inl rfl) dX8_readBench_261 ⟨false, rfl, k⟩
        · have k := kb q
          exact z_sub (L' := [none, none, none, none, none, none]) trivial k
    · have k := kb q
      refine z_aload_n 0 dX8_readBench_223 rfl rfl (Nat.le_of_ble_eq_true rfl) rfl ?_
      refine z_getF 8 10 (x := 13) fX8_12 rfl dX8_readBench_224 rfl rfl ?_
      refine z_bipush dX8_readBench_227 rfl rfl ?_
      refine z_callVb vX10_fail kX8_91 dX8_readBench_229 rfl (zRo_d d) (as := [vi 7]) (rest := []) (Nat.le_of_ble_eq_true rfl) rfl rfl (zCb_mono (fun x5 h6 k => ?_) k)
      exact z_zreturn rfl (bi_01 _) dX8_readBench_232 ⟨_, rfl, k⟩
  · have k := kb q
    refine z_aload_n 0 dX8_readBench_207 rfl rfl (Nat.le_of_ble_eq_true rfl) rfl ?_
    refine z_getF 8 10 (x := 13) fX8_12 rfl dX8_readBench_208 rfl rfl ?_
    refine z_iconst dX8_readBench_211 rfl ?_
    refine z_callVb vX10_fail kX8_91 dX8_readBench_212 rfl (zRo_d d) (as := [vi 1]) (rest := []) (Nat.le_of_ble_eq_true rfl) rfl rfl (zCb_mono (fun x7 h8 k => ?_) k)
    exact z_zreturn rfl (bi_01 _) dX8_readBench_215 ⟨_, rfl, k⟩
theorem bX8_readBench_256 {G : zG} {d : Nat} {K : Bool → zH → Prop} {h : zH} (k : K true h) : tX8_readBench_256 G d K h := by
  unfold tX8_readBench_256
  refine z_iconst dX8_readBench_256 rfl ?_
  refine z_goto (tgt := 261) dX8_readBench_257 rfl ?_
  exact z_zreturn rfl (Or.inr rfl) dX8_readBench_261 ⟨true, rfl, k⟩
theorem eX8_readBench {G : zG} {d : Nat} {K : Bool → zH → Prop} {l1 : Int} {l2 : Int} {h : zH} (k : tX8_readBench_0 G d K l1 l2 h) : zCb G (d + 1) mX8_readBench [vr 8 12, vr 15 l1, vi l2] h K := z_entry (by decide +kernel) (Nat.le_of_ble_eq_true rfl) rfl k
def tX8_readSet_0 (G : zG) (d : Nat) (K : Bool → zH → Prop) (h : zH) : Prop := zTb G (d + 1) mX8_readSet K 0 [some (vr 8 12), none, none] [] h
theorem bX8_readSet_0 {G : zG} {d : Nat} {K : Bool → zH → Prop} {h : zH} (k : zR (h (h 12 5) 2) ∧ ((h (h 12 5) 2) < 12 → zCv G d mX10_step [vr 10 13] h (fun h3 => zR (h3 13 5) ∧ ((h3 13 5) = 2 → zCi G d mX9_numberOf [vr 9 (h3 12 5), vl (h3 13 7)] h3 (fun x5 h6 => zR x5 ∧ (x5 = (-1) → zCv G d mX10_step [vr 10 13] h6 (fun h8 => ((0 : Int) ≤ (h8 (h8 12 5) 2) ∧ (h8 (h8 12 5) 2) < 12) ∧ zCb G d mX0_readBody [vr 0 17, vr 9 (h8 12 5), vr 3 (h8 ((h8 12 5) + 1) (h8 (h8 12 5) 2))] h8 (fun x13 h14 => (x13 = true → ((0 : Int) ≤ (h14 (h14 12 5) 2) ∧ (h14 (h14 12 5) 2) < 12) ∧ K true (zup (zup h14 ((h14 12 5) + 2) (h14 (h14 12 5) 2) (h3 13 7)) ((zup h14 ((h14 12 5) + 2) (h14 (h14 12 5) 2) (h3 13 7)) 12 5) 2 (((zup h14 ((h14 12 5) + 2) (h14 (h14 12 5) 2) (h3 13 7)) ((zup h14 ((h14 12 5) + 2) (h14 (h14 12 5) 2) (h3 13 7)) 12 5) 2) + 1))) ∧ (x13 = false → K false h14)))) ∧ (¬ x5 = (-1) → zCb G d mX10_fail [vr 10 13, vi 3] h6 (fun x18 h19 => K x18 h19)))) ∧ (¬ (h3 13 5) = 2 → zCb G d mX10_fail [vr 10 13, vi 1] h3 (fun x20 h21 => K x20 h21)))) ∧ (¬ (h (h 12 5) 2) < 12 → zCb G d mX10_fail [vr 10 13, vi 5] h (fun x22 h23 => K x22 h23))) : tX8_readSet_0 G d K h := by
  unfold tX8_readSet_0
  refine z_aload_n 0 dX8_readSet_0 rfl rfl (Nat.le_of_ble_eq_true rfl) rfl ?_
  refine z_getR 8 9 (x := (h 12 5)) fX8_42 rfl dX8_readSet_1 rfl rfl ?_
  refine z_w (fun w1 => ?_)
  refine z_getI 9 (x := (h (h 12 5) 2)) fX8_58 rfl dX8_readSet_4 rfl rfl ?_
  refine z_bipush dX8_readSet_7 rfl rfl ?_
  obtain ⟨r1, ka, kb⟩ := k
  refine z_icmp_lt (tgt := 21) dX8_readSet_9 rfl r1 ⟨by decide, by decide⟩ rfl ⟨fun q => ?_, fun q => ?_⟩
  · have k := ka q
    refine z_aload_n 0 dX8_readSet_21 rfl rfl (Nat.le_of_ble_eq_true rfl) rfl ?_
    refine z_getF 8 10 (x := 13) fX8_12 rfl dX8_readSet_22 rfl rfl ?_
    refine z_callVv vX10_step kX8_95 dX8_readSet_25 rfl (zRo_d d) (as := []) (rest := []) (Nat.le_of_ble_eq_true rfl) rfl rfl (zCv_mono (fun h3 k => ?_) k)
    refine z_aload_n 0 dX8_readSet_28 rfl rfl (Nat.le_of_ble_eq_true rfl) rfl ?_
    refine z_getF 8 10 (x := 13) fX8_12 rfl dX8_readSet_29 rfl rfl ?_
    refine z_getI 10 (x := (h3 13 5)) fX8_69 rfl dX8_readSet_32 rfl rfl ?_
    refine z_iconst dX8_readSet_35 rfl ?_
    obtain ⟨r1, ka, kb⟩ := k
    refine z_icmp_eq (tgt := 48) dX8_readSet_36 rfl r1 ⟨by decide, by decide⟩ rfl ⟨fun q => ?_, fun q => ?_⟩
    · have k := ka q
      refine z_aload_n 0 dX8_readSet_48 rfl rfl (Nat.le_of_ble_eq_true rfl) rfl ?_
      refine z_getF 8 10 (x := 13) fX8_12 rfl dX8_readSet_49 rfl rfl ?_
      refine z_getL 10 (x := (h3 13 7)) fX8_98 rfl dX8_readSet_52 rfl rfl ?_
      refine z_lstore_n 1 dX8_readSet_55 rfl (Nat.le_of_ble_eq_true rfl) (L' := [some (vr 8 12), some (vl (h3 13 7)), none]) rfl rfl ?_
      refine z_aload_n 0 dX8_readSet_56 rfl rfl (Nat.le_of_ble_eq_true rfl) rfl ?_
      refine z_getR 8 9 (x := (h3 12 5)) fX8_42 rfl dX8_readSet_57 rfl rfl ?_
      refine z_w (fun w4 => ?_)
      refine z_lload_n 1 dX8_readSet_60 rfl rfl rfl ?_
      refine z_callVi vX9_numberOf kX8_102 dX8_readSet_61 rfl (zRo_d d) (as := [vl (h3 13 7)]) (rest := []) (Nat.le_of_ble_eq_true rfl) rfl rfl (zCi_mono (fun x5 h6 k => ?_) k)
      refine z_iconst dX8_readSet_64 rfl ?_
      obtain ⟨r1, ka, kb⟩ := k
      refine z_icmp_eq (tgt := 77) dX8_readSet_65 rfl r1 ⟨by decide, by decide⟩ rfl ⟨fun q => ?_, fun q => ?_⟩
      · have k := ka q
        refine z_aload_n 0 dX8_readSet_77 rfl rfl (Nat.le_of_ble_eq_true rfl) rfl ?_
        refine z_getF 8 10 (x := 13) fX8_12 rfl dX8_readSet_78 rfl rfl ?_
        refine z_callVv vX10_step kX8_95 dX8_readSet_81 rfl (zRo_d d) (as := []) (rest := []) (Nat.le_of_ble_eq_true rfl) rfl rfl (zCv_mono (fun h8 k => ?_) k)
        refine z_aload_n 0 dX8_readSet_84 rfl rfl (Nat.le_of_ble_eq_true rfl) rfl ?_
        refine z_getF 8 0 (x := 17) fX8_23 rfl dX8_readSet_85 rfl rfl ?_
        refine z_aload_n 0 dX8_readSet_88 rfl rfl (Nat.le_of_ble_eq_true rfl) rfl ?_
        refine z_getR 8 9 (x := (h8 12 5)) fX8_42 rfl dX8_readSet_89 rfl rfl ?_
        refine z_w (fun w9 => ?_)
        refine z_aload_n 0 dX8_readSet_92 rfl rfl (Nat.le_of_ble_eq_true rfl) rfl ?_
        refine z_getR 8 9 (x := (h8 12 5)) fX8_42 rfl dX8_readSet_93 rfl rfl ?_
        refine z_w (fun w10 => ?_)
        refine z_getF 9 16 (x := ((h8 12 5) + 1)) fX8_106 rfl dX8_readSet_96 (by omega) rfl ?_
        refine z_aload_n 0 dX8_readSet_99 rfl rfl (Nat.le_of_ble_eq_true rfl) rfl ?_
        refine z_getR 8 9 (x := (h8 12 5)) fX8_42 rfl dX8_readSet_100 rfl rfl ?_
        refine z_w (fun w11 => ?_)
        refine z_getI 9 (x := (h8 (h8 12 5) 2)) fX8_58 rfl dX8_readSet_103 rfl rfl ?_
        obtain ⟨i9, k⟩ := k
        refine z_aald16 (x := (h8 ((h8 12 5) + 1) (h8 (h8 12 5) 2))) dX8_readSet_106 (by rw [zl9_1 w11]; exact i9) rfl rfl ?_
        refine z_w (fun w12 => ?_)
        refine z_callVb vX0_readBody kX8_108 dX8_readSet_107 rfl (zRo_d d) (as := [vr 9 (h8 12 5), vr 3 (h8 ((h8 12 5) + 1) (h8 (h8 12 5) 2))]) (rest := []) (Nat.le_of_ble_eq_true rfl) rfl rfl (zCb_mono (fun x13 h14 k => ?_) k)
        obtain ⟨ka, kb⟩ := k
        refine z_ifb_ne (tgt := 115) dX8_readSet_110 rfl rfl ⟨fun q => ?_, fun q => ?_⟩
        · have k := ka q
          refine z_aload_n 0 dX8_readSet_115 rfl rfl (Nat.le_of_ble_eq_true rfl) rfl ?_
          refine z_getR 8 9 (x := (h14 12 5)) fX8_42 rfl dX8_readSet_116 rfl rfl ?_
          refine z_w (fun w15 => ?_)
          refine z_getF 9 14 (x := ((h14 12 5) + 2)) fX8_112 rfl dX8_readSet_119 (by omega) rfl ?_
          refine z_aload_n 0 dX8_readSet_122 rfl rfl (Nat.le_of_ble_eq_true rfl) rfl ?_
          refine z_getR 8 9 (x := (h14 12 5)) fX8_42 rfl dX8_readSet_123 rfl rfl ?_
          refine z_w (fun w16 => ?_)
          refine z_getI 9 (x := (h14 (h14 12 5) 2)) fX8_58 rfl dX8_readSet_126 rfl rfl ?_
          refine z_lload_n 1 dX8_readSet_129 rfl rfl rfl ?_
          obtain ⟨i9, k⟩ := k
          refine z_last dX8_readSet_130 (by rw [zl9_2 w16]; exact i9) rfl ?_
          refine z_aload_n 0 dX8_readSet_131 rfl rfl (Nat.le_of_ble_eq_true rfl) rfl ?_
          refine z_getR 8 9 (x := ((zup h14 ((h14 12 5) + 2) (h14 (h14 12 5) 2) (h3 13 7)) 12 5)) fX8_42 rfl dX8_readSet_132 rfl rfl ?_
          refine z_w (fun w17 => ?_)
          refine z_dup dX8_readSet_135 (fun q => by cases q) rfl ?_
          refine z_getI 9 (x := ((zup h14 ((h14 12 5) + 2) (h14 (h14 12 5) 2) (h3 13 7)) ((zup h14 ((h14 12 5) + 2) (h14 (h14 12 5) 2) (h3 13 7)) 12 5) 2)) fX8_58 rfl dX8_readSet_136 rfl rfl ?_
          refine z_iconst dX8_readSet_139 rfl ?_
          refine z_iadd dX8_readSet_140 rfl ?_
          refine z_putI 9 gX8_58 dX8_readSet_141 rfl ?_
          refine z_iconst dX8_readSet_144 rfl ?_
          exact z_zreturn rfl (Or.inr rfl) dX8_readSet_145 ⟨true, rfl, k⟩
        · have k := kb q
          refine z_iconst dX8_readSet_113 rfl ?_
          exact z_zreturn rfl (Or.inl rfl) dX8_readSet_114 ⟨false, rfl, k⟩
      · have k := kb q
        refine z_aload_n 0 dX8_readSet_68 rfl rfl (Nat.le_of_ble_eq_true rfl) rfl ?_
        refine z_getF 8 10 (x := 13) fX8_12 rfl dX8_readSet_69 rfl rfl ?_
        refine z_iconst dX8_readSet_72 rfl ?_
        refine z_callVb vX10_fail kX8_91 dX8_readSet_73 rfl (zRo_d d) (as := [vi 3]) (rest := []) (Nat.le_of_ble_eq_true rfl) rfl rfl (zCb_mono (fun x18 h19 k => ?_) k)
        exact z_zreturn rfl (bi_01 _) dX8_readSet_76 ⟨_, rfl, k⟩
    · have k := kb q
      refine z_aload_n 0 dX8_readSet_39 rfl rfl (Nat.le_of_ble_eq_true rfl) rfl ?_
      refine z_getF 8 10 (x := 13) fX8_12 rfl dX8_readSet_40 rfl rfl ?_
      refine z_iconst dX8_readSet_43 rfl ?_
      refine z_callVb vX10_fail kX8_91 dX8_readSet_44 rfl (zRo_d d) (as := [vi 1]) (rest := []) (Nat.le_of_ble_eq_true rfl) rfl rfl (zCb_mono (fun x20 h21 k => ?_) k)
      exact z_zreturn rfl (bi_01 _) dX8_readSet_47 ⟨_, rfl, k⟩
  · have k := kb q
    refine z_aload_n 0 dX8_readSet_12 rfl rfl (Nat.le_of_ble_eq_true rfl) rfl ?_
    refine z_getF 8 10 (x := 13) fX8_12 rfl dX8_readSet_13 rfl rfl ?_
    refine z_iconst dX8_readSet_16 rfl ?_
    refine z_callVb vX10_fail kX8_91 dX8_readSet_17 rfl (zRo_d d) (as := [vi 5]) (rest := []) (Nat.le_of_ble_eq_true rfl) rfl rfl (zCb_mono (fun x22 h23 k => ?_) k)
    exact z_zreturn rfl (bi_01 _) dX8_readSet_20 ⟨_, rfl, k⟩
theorem eX8_readSet {G : zG} {d : Nat} {K : Bool → zH → Prop} {h : zH} (k : tX8_readSet_0 G d K h) : zCb G (d + 1) mX8_readSet [vr 8 12] h K := z_entry (by decide +kernel) (Nat.le_of_ble_eq_true rfl) rfl k
def tX8_readMachine_0 (G : zG) (d : Nat) (K : Bool → zH → Prop) (h : zH) : Prop := zTb G (d + 1) mX8_readMachine K 0 [some (vr 8 12), none, none] [] h
theorem bX8_readMachine_0 {G : zG} {d : Nat} {K : Bool → zH → Prop} {h : zH} (k : zR (h 12 6) ∧ ((h 12 6) < 4 → zCv G d mX10_step [vr 10 13] h (fun h2 => zR (h2 13 5) ∧ ((h2 13 5) = 3 → ((zcmp (h2 13 7) 1) < 0 → zCb G d mX10_fail [vr 10 13, vi 4] h2 (fun x3 h4 => K x3 h4)) ∧ (¬ (zcmp (h2 13 7) 1) < 0 → ((zcmp (h2 13 7) 12) ≤ 0 → zCv G d mX10_step [vr 10 13] h2 (fun h6 => zRL (h2 13 7) ∧ zCv G d mX2_begin [vr 2 4, vi (h2 13 7)] h6 (fun h8 => K true (zup h8 12 6 ((h8 12 6) + 1))))) ∧ (¬ (zcmp (h2 13 7) 12) ≤ 0 → zCb G d mX10_fail [vr 10 13, vi 4] h2 (fun x9 h10 => K x9 h10)))) ∧ (¬ (h2 13 5) = 3 → zCb G d mX10_fail [vr 10 13, vi 1] h2 (fun x11 h12 => K x11 h12)))) ∧ (¬ (h 12 6) < 4 → zCb G d mX10_fail [vr 10 13, vi 5] h (fun x13 h14 => K x13 h14))) : tX8_readMachine_0 G d K h := by
  unfold tX8_readMachine_0
  refine z_aload_n 0 dX8_readMachine_0 rfl rfl (Nat.le_of_ble_eq_true rfl) rfl ?_
  refine z_getI 8 (x := (h 12 6)) fX8_62 rfl dX8_readMachine_1 rfl rfl ?_
  refine z_iconst dX8_readMachine_4 rfl ?_
  obtain ⟨r1, ka, kb⟩ := k
  refine z_icmp_lt (tgt := 17) dX8_readMachine_5 rfl r1 ⟨by decide, by decide⟩ rfl ⟨fun q => ?_, fun q => ?_⟩
  · have k := ka q
    refine z_aload_n 0 dX8_readMachine_17 rfl rfl (Nat.le_of_ble_eq_true rfl) rfl ?_
    refine z_getF 8 10 (x := 13) fX8_12 rfl dX8_readMachine_18 rfl rfl ?_
    refine z_callVv vX10_step kX8_95 dX8_readMachine_21 rfl (zRo_d d) (as := []) (rest := []) (Nat.le_of_ble_eq_true rfl) rfl rfl (zCv_mono (fun h2 k => ?_) k)
    refine z_aload_n 0 dX8_readMachine_24 rfl rfl (Nat.le_of_ble_eq_true rfl) rfl ?_
    refine z_getF 8 10 (x := 13) fX8_12 rfl dX8_readMachine_25 rfl rfl ?_
    refine z_getI 10 (x := (h2 13 5)) fX8_69 rfl dX8_readMachine_28 rfl rfl ?_
    refine z_iconst dX8_readMachine_31 rfl ?_
    obtain ⟨r1, ka, kb⟩ := k
    refine z_icmp_eq (tgt := 44) dX8_readMachine_32 rfl r1 ⟨by decide, by decide⟩ rfl ⟨fun q => ?_, fun q => ?_⟩
    · have k := ka q
      refine z_aload_n 0 dX8_readMachine_44 rfl rfl (Nat.le_of_ble_eq_true rfl) rfl ?_
      refine z_getF 8 10 (x := 13) fX8_12 rfl dX8_readMachine_45 rfl rfl ?_
      refine z_getL 10 (x := (h2 13 7)) fX8_98 rfl dX8_readMachine_48 rfl rfl ?_
      refine z_lstore_n 1 dX8_readMachine_51 rfl (Nat.le_of_ble_eq_true rfl) (L' := [some (vr 8 12), some (vl (h2 13 7)), none]) rfl rfl ?_
      refine z_lload_n 1 dX8_readMachine_52 rfl rfl rfl ?_
      refine z_lconst (x := 1) dX8_readMachine_53 rfl rfl ?_
      refine z_lcmp dX8_readMachine_54 rfl ?_
      obtain ⟨ka, kb⟩ := k
      refine z_if_lt (tgt := 66) dX8_readMachine_55 rfl (zcmp_R _ _) rfl ⟨fun q => ?_, fun q => ?_⟩
      · have k := ka q
        refine z_aload_n 0 dX8_readMachine_66 rfl rfl (Nat.le_of_ble_eq_true rfl) rfl ?_
        refine z_getF 8 10 (x := 13) fX8_12 rfl dX8_readMachine_67 rfl rfl ?_
        refine z_iconst dX8_readMachine_70 rfl ?_
        refine z_callVb vX10_fail kX8_91 dX8_readMachine_71 rfl (zRo_d d) (as := [vi 4]) (rest := []) (Nat.le_of_ble_eq_true rfl) rfl rfl (zCb_mono (fun x3 h4 k => ?_) k)
        exact z_zreturn rfl (bi_01 _) dX8_readMachine_74 ⟨_, rfl, k⟩
      · have k := kb q
        refine z_lload_n 1 dX8_readMachine_58 rfl rfl rfl ?_
        refine z_ldc2 (x := 12) cX8_116 rfl dX8_readMachine_59 rfl ?_
        refine z_lcmp dX8_readMachine_62 rfl ?_
        obtain ⟨ka, kb⟩ := k
        refine z_if_le (tgt := 75) dX8_readMachine_63 rfl (zcmp_R _ _) rfl ⟨fun q => ?_, fun q => ?_⟩
        · have k := ka q
          refine z_aload_n 0 dX8_readMachine_75 rfl rfl (Nat.le_of_ble_eq_true rfl) rfl ?_
          refine z_getF 8 10 (x := 13) fX8_12 rfl dX8_readMachine_76 rfl rfl ?_
          refine z_callVv vX10_step kX8_95 dX8_readMachine_79 rfl (zRo_d d) (as := []) (rest := []) (Nat.le_of_ble_eq_true rfl) rfl rfl (zCv_mono (fun h6 k => ?_) k)
          refine z_aload_n 0 dX8_readMachine_82 rfl rfl (Nat.le_of_ble_eq_true rfl) rfl ?_
          refine z_getF 8 2 (x := 4) fX8_46 rfl dX8_readMachine_83 rfl rfl ?_
          refine z_lload_n 1 dX8_readMachine_86 rfl rfl rfl ?_
          obtain ⟨r9, k⟩ := k
          refine z_l2i dX8_readMachine_87 r9 rfl ?_
          refine z_callVv vX2_begin kX8_118 dX8_readMachine_88 rfl (zRo_d d) (as := [vi (h2 13 7)]) (rest := []) (Nat.le_of_ble_eq_true rfl) rfl rfl (zCv_mono (fun h8 k => ?_) k)
          refine z_aload_n 0 dX8_readMachine_91 rfl rfl (Nat.le_of_ble_eq_true rfl) rfl ?_
          refine z_dup dX8_readMachine_92 (fun q => by cases q) rfl ?_
          refine z_getI 8 (x := (h8 12 6)) fX8_62 rfl dX8_readMachine_93 rfl rfl ?_
          refine z_iconst dX8_readMachine_96 rfl ?_
          refine z_iadd dX8_readMachine_97 rfl ?_
          refine z_putI 8 gX8_62 dX8_readMachine_98 rfl ?_
          refine z_iconst dX8_readMachine_101 rfl ?_
          exact z_zreturn rfl (Or.inr rfl) dX8_readMachine_102 ⟨true, rfl, k⟩
        · have k := kb q
          refine z_aload_n 0 dX8_readMachine_66 rfl rfl (Nat.le_of_ble_eq_true rfl) rfl ?_
          refine z_getF 8 10 (x := 13) fX8_12 rfl dX8_readMachine_67 rfl rfl ?_
          refine z_iconst dX8_readMachine_70 rfl ?_
          refine z_callVb vX10_fail kX8_91 dX8_readMachine_71 rfl (zRo_d d) (as := [vi 4]) (rest := []) (Nat.le_of_ble_eq_true rfl) rfl rfl (zCb_mono (fun x9 h10 k => ?_) k)
          exact z_zreturn rfl (bi_01 _) dX8_readMachine_74 ⟨_, rfl, k⟩
    · have k := kb q
      refine z_aload_n 0 dX8_readMachine_35 rfl rfl (Nat.le_of_ble_eq_true rfl) rfl ?_
      refine z_getF 8 10 (x := 13) fX8_12 rfl dX8_readMachine_36 rfl rfl ?_
      refine z_iconst dX8_readMachine_39 rfl ?_
      refine z_callVb vX10_fail kX8_91 dX8_readMachine_40 rfl (zRo_d d) (as := [vi 1]) (rest := []) (Nat.le_of_ble_eq_true rfl) rfl rfl (zCb_mono (fun x11 h12 k => ?_) k)
      exact z_zreturn rfl (bi_01 _) dX8_readMachine_43 ⟨_, rfl, k⟩
  · have k := kb q
    refine z_aload_n 0 dX8_readMachine_8 rfl rfl (Nat.le_of_ble_eq_true rfl) rfl ?_
    refine z_getF 8 10 (x := 13) fX8_12 rfl dX8_readMachine_9 rfl rfl ?_
    refine z_iconst dX8_readMachine_12 rfl ?_
    refine z_callVb vX10_fail kX8_91 dX8_readMachine_13 rfl (zRo_d d) (as := [vi 5]) (rest := []) (Nat.le_of_ble_eq_true rfl) rfl rfl (zCb_mono (fun x13 h14 k => ?_) k)
    exact z_zreturn rfl (bi_01 _) dX8_readMachine_16 ⟨_, rfl, k⟩
theorem eX8_readMachine {G : zG} {d : Nat} {K : Bool → zH → Prop} {h : zH} (k : tX8_readMachine_0 G d K h) : zCb G (d + 1) mX8_readMachine [vr 8 12] h K := z_entry (by decide +kernel) (Nat.le_of_ble_eq_true rfl) rfl k
def tX8_readEdge_0 (G : zG) (d : Nat) (K : Bool → zH → Prop) (h : zH) : Prop := zTb G (d + 1) mX8_readEdge K 0 [some (vr 8 12), none, none] [] h
theorem bX8_readEdge_0 {G : zG} {d : Nat} {K : Bool → zH → Prop} {h : zH} (k : zR (h 12 6) ∧ (¬ (h 12 6) = 0 → zR (h 4 9) ∧ ((h 4 9) < 24 → zCv G d mX10_step [vr 10 13] h (fun h2 => zCi G d mX8_readState [vr 8 12] h2 (fun x3 h4 => zR x3 ∧ (0 ≤ x3 → zCi G d mX8_readState [vr 8 12] h4 (fun x5 h6 => zR x5 ∧ (x5 < 0 → K false h6) ∧ (¬ x5 < 0 → ((0 : Int) ≤ (h6 4 9) ∧ (h6 4 9) < 24) ∧ zCb G d mX0_readBody [vr 0 17, vr 9 (h6 12 5), vr 3 (h6 80 (h6 4 9))] h6 (fun x9 h10 => (x9 = true → zCi G d mX2_addEdge [vr 2 4, vi x3, vi x5] h10 (fun x11 h12 => K true h12)) ∧ (x9 = false → K false h10))))) ∧ (¬ 0 ≤ x3 → K false h4)))) ∧ (¬ (h 4 9) < 24 → zCb G d mX10_fail [vr 10 13, vi 5] h (fun x13 h14 => K x13 h14))) ∧ ((h 12 6) = 0 → zCb G d mX10_fail [vr 10 13, vi 7] h (fun x15 h16 => K x15 h16))) : tX8_readEdge_0 G d K h := by
  unfold tX8_readEdge_0
  refine z_aload_n 0 dX8_readEdge_0 rfl rfl (Nat.le_of_ble_eq_true rfl) rfl ?_
  refine z_getI 8 (x := (h 12 6)) fX8_62 rfl dX8_readEdge_1 rfl rfl ?_
  obtain ⟨r1, ka, kb⟩ := k
  refine z_if_ne (tgt := 17) dX8_readEdge_4 rfl r1 rfl ⟨fun q => ?_, fun q => ?_⟩
  · have k := ka q
    refine z_aload_n 0 dX8_readEdge_17 rfl rfl (Nat.le_of_ble_eq_true rfl) rfl ?_
    refine z_getF 8 2 (x := 4) fX8_46 rfl dX8_readEdge_18 rfl rfl ?_
    refine z_getI 2 (x := (h 4 9)) fX8_123 rfl dX8_readEdge_21 rfl rfl ?_
    refine z_bipush dX8_readEdge_24 rfl rfl ?_
    obtain ⟨r1, ka, kb⟩ := k
    refine z_icmp_lt (tgt := 38) dX8_readEdge_26 rfl r1 ⟨by decide, by decide⟩ rfl ⟨fun q => ?_, fun q => ?_⟩
    · have k := ka q
      refine z_aload_n 0 dX8_readEdge_38 rfl rfl (Nat.le_of_ble_eq_true rfl) rfl ?_
      refine z_getF 8 10 (x := 13) fX8_12 rfl dX8_readEdge_39 rfl rfl ?_
      refine z_callVv vX10_step kX8_95 dX8_readEdge_42 rfl (zRo_d d) (as := []) (rest := []) (Nat.le_of_ble_eq_true rfl) rfl rfl (zCv_mono (fun h2 k => ?_) k)
      refine z_aload_n 0 dX8_readEdge_45 rfl rfl (Nat.le_of_ble_eq_true rfl) rfl ?_
      refine z_callVi vX8_readState kX8_126 dX8_readEdge_46 rfl (zRo_d d) (as := []) (rest := []) (Nat.le_of_ble_eq_true rfl) rfl rfl (zCi_mono (fun x3 h4 k => ?_) k)
      refine z_istore_n 1 dX8_readEdge_49 rfl (Nat.le_of_ble_eq_true rfl) (L' := [some (vr 8 12), some (vi x3), none]) rfl rfl ?_
      refine z_iload_n 1 dX8_readEdge_50 rfl rfl rfl ?_
      obtain ⟨r1, ka, kb⟩ := k
      refine z_if_ge (tgt := 58) dX8_readEdge_51 rfl r1 rfl ⟨fun q => ?_, fun q => ?_⟩
      · have k := ka q
        refine z_aload_n 0 dX8_readEdge_58 rfl rfl (Nat.le_of_ble_eq_true rfl) rfl ?_
        refine z_callVi vX8_readState kX8_126 dX8_readEdge_59 rfl (zRo_d d) (as := []) (rest := []) (Nat.le_of_ble_eq_true rfl) rfl rfl (zCi_mono (fun x5 h6 k => ?_) k)
        refine z_istore_n 2 dX8_readEdge_62 rfl (Nat.le_of_ble_eq_true rfl) (L' := [some (vr 8 12), some (vi x3), some (vi x5)]) rfl rfl ?_
        refine z_iload_n 2 dX8_readEdge_63 rfl rfl rfl ?_
        obtain ⟨r1, ka, kb⟩ := k
        refine z_if_lt (tgt := 93) dX8_readEdge_64 rfl r1 rfl ⟨fun q => ?_, fun q => ?_⟩
        · have k := ka q
          refine z_iconst dX8_readEdge_93 rfl ?_
          exact z_zreturn rfl (Or.inl rfl) dX8_readEdge_94 ⟨false, rfl, k⟩
        · have k := kb q
          refine z_aload_n 0 dX8_readEdge_67 rfl rfl (Nat.le_of_ble_eq_true rfl) rfl ?_
          refine z_getF 8 0 (x := 17) fX8_23 rfl dX8_readEdge_68 rfl rfl ?_
          refine z_aload_n 0 dX8_readEdge_71 rfl rfl (Nat.le_of_ble_eq_true rfl) rfl ?_
          refine z_getR 8 9 (x := (h6 12 5)) fX8_42 rfl dX8_readEdge_72 rfl rfl ?_
          refine z_w (fun w7 => ?_)
          refine z_aload_n 0 dX8_readEdge_75 rfl rfl (Nat.le_of_ble_eq_true rfl) rfl ?_
          refine z_getF 8 16 (x := 80) fX8_29 rfl dX8_readEdge_76 rfl rfl ?_
          refine z_aload_n 0 dX8_readEdge_79 rfl rfl (Nat.le_of_ble_eq_true rfl) rfl ?_
          refine z_getF 8 2 (x := 4) fX8_46 rfl dX8_readEdge_80 rfl rfl ?_
          refine z_getI 2 (x := (h6 4 9)) fX8_123 rfl dX8_readEdge_83 rfl rfl ?_
          obtain ⟨i9, k⟩ := k
          refine z_aald16 (x := (h6 80 (h6 4 9))) dX8_readEdge_86 (by rw [zl_80]; exact i9) rfl rfl ?_
          refine z_w (fun w8 => ?_)
          refine z_callVb vX0_readBody kX8_108 dX8_readEdge_87 rfl (zRo_d d) (as := [vr 9 (h6 12 5), vr 3 (h6 80 (h6 4 9))]) (rest := []) (Nat.le_of_ble_eq_true rfl) rfl rfl (zCb_mono (fun x9 h10 k => ?_) k)
          obtain ⟨ka, kb⟩ := k
          refine z_ifb_ne (tgt := 95) dX8_readEdge_90 rfl rfl ⟨fun q => ?_, fun q => ?_⟩
          · have k := ka q
            refine z_aload_n 0 dX8_readEdge_95 rfl rfl (Nat.le_of_ble_eq_true rfl) rfl ?_
            refine z_getF 8 2 (x := 4) fX8_46 rfl dX8_readEdge_96 rfl rfl ?_
            refine z_iload_n 1 dX8_readEdge_99 rfl rfl rfl ?_
            refine z_iload_n 2 dX8_readEdge_100 rfl rfl rfl ?_
            refine z_callVi vX2_addEdge kX8_130 dX8_readEdge_101 rfl (zRo_d d) (as := [vi x3, vi x5]) (rest := []) (Nat.le_of_ble_eq_true rfl) rfl rfl (zCi_mono (fun x11 h12 k => ?_) k)
            refine z_pop dX8_readEdge_104 (fun q => by cases q) rfl ?_
            refine z_iconst dX8_readEdge_105 rfl ?_
            exact z_zreturn rfl (Or.inr rfl) dX8_readEdge_106 ⟨true, rfl, k⟩
          · have k := kb q
            refine z_iconst dX8_readEdge_93 rfl ?_
            exact z_zreturn rfl (Or.inl rfl) dX8_readEdge_94 ⟨false, rfl, k⟩
      · have k := kb q
        refine z_iconst dX8_readEdge_54 rfl ?_
        refine z_goto (tgt := 62) dX8_readEdge_55 rfl ?_
        refine z_istore_n 2 dX8_readEdge_62 rfl (Nat.le_of_ble_eq_true rfl) (L' := [some (vr 8 12), some (vi x3), some (vi (-1))]) rfl rfl ?_
        refine z_iload_n 2 dX8_readEdge_63 rfl rfl rfl ?_
        refine z_if_lt (tgt := 93) dX8_readEdge_64 rfl ⟨by decide, by decide⟩ rfl ⟨fun _ => ?_, fun q => absurd q (by decide)⟩
        refine z_iconst dX8_readEdge_93 rfl ?_
        exact z_zreturn rfl (Or.inl rfl) dX8_readEdge_94 ⟨false, rfl, k⟩
    · have k := kb q
      refine z_aload_n 0 dX8_readEdge_29 rfl rfl (Nat.le_of_ble_eq_true rfl) rfl ?_
      refine z_getF 8 10 (x := 13) fX8_12 rfl dX8_readEdge_30 rfl rfl ?_
      refine z_iconst dX8_readEdge_33 rfl ?_
      refine z_callVb vX10_fail kX8_91 dX8_readEdge_34 rfl (zRo_d d) (as := [vi 5]) (rest := []) (Nat.le_of_ble_eq_true rfl) rfl rfl (zCb_mono (fun x13 h14 k => ?_) k)
      exact z_zreturn rfl (bi_01 _) dX8_readEdge_37 ⟨_, rfl, k⟩
  · have k := kb q
    refine z_aload_n 0 dX8_readEdge_7 rfl rfl (Nat.le_of_ble_eq_true rfl) rfl ?_
    refine z_getF 8 10 (x := 13) fX8_12 rfl dX8_readEdge_8 rfl rfl ?_
    refine z_bipush dX8_readEdge_11 rfl rfl ?_
    refine z_callVb vX10_fail kX8_91 dX8_readEdge_13 rfl (zRo_d d) (as := [vi 7]) (rest := []) (Nat.le_of_ble_eq_true rfl) rfl rfl (zCb_mono (fun x15 h16 k => ?_) k)
    exact z_zreturn rfl (bi_01 _) dX8_readEdge_16 ⟨_, rfl, k⟩
theorem eX8_readEdge {G : zG} {d : Nat} {K : Bool → zH → Prop} {h : zH} (k : tX8_readEdge_0 G d K h) : zCb G (d + 1) mX8_readEdge [vr 8 12] h K := z_entry (by decide +kernel) (Nat.le_of_ble_eq_true rfl) rfl k
def tX8_readFree_0 (G : zG) (d : Nat) (K : Bool → zH → Prop) (h : zH) : Prop := zTb G (d + 1) mX8_readFree K 0 [some (vr 8 12), none, none] [] h
theorem bX8_readFree_0 {G : zG} {d : Nat} {K : Bool → zH → Prop} {h : zH} (k : zR (h 12 6) ∧ (¬ (h 12 6) = 0 → zR (h 4 10) ∧ ((h 4 10) < 8 → zCv G d mX10_step [vr 10 13] h (fun h2 => zCi G d mX8_readState [vr 8 12] h2 (fun x3 h4 => zR x3 ∧ (0 ≤ x3 → zCi G d mX8_readState [vr 8 12] h4 (fun x5 h6 => zR x5 ∧ (0 ≤ x5 → zCv G d mX2_addFree [vr 2 4, vi x3, vi x5] h6 (fun h8 => K true h8)) ∧ (¬ 0 ≤ x5 → K false h6))) ∧ (¬ 0 ≤ x3 → K false h4)))) ∧ (¬ (h 4 10) < 8 → zCb G d mX10_fail [vr 10 13, vi 5] h (fun x9 h10 => K x9 h10))) ∧ ((h 12 6) = 0 → zCb G d mX10_fail [vr 10 13, vi 7] h (fun x11 h12 => K x11 h12))) : tX8_readFree_0 G d K h := by
  unfold tX8_readFree_0
  refine z_aload_n 0 dX8_readFree_0 rfl rfl (Nat.le_of_ble_eq_true rfl) rfl ?_
  refine z_getI 8 (x := (h 12 6)) fX8_62 rfl dX8_readFree_1 rfl rfl ?_
  obtain ⟨r1, ka, kb⟩ := k
  refine z_if_ne (tgt := 17) dX8_readFree_4 rfl r1 rfl ⟨fun q => ?_, fun q => ?_⟩
  · have k := ka q
    refine z_aload_n 0 dX8_readFree_17 rfl rfl (Nat.le_of_ble_eq_true rfl) rfl ?_
    refine z_getF 8 2 (x := 4) fX8_46 rfl dX8_readFree_18 rfl rfl ?_
    refine z_getI 2 (x := (h 4 10)) fX8_134 rfl dX8_readFree_21 rfl rfl ?_
    refine z_bipush dX8_readFree_24 rfl rfl ?_
    obtain ⟨r1, ka, kb⟩ := k
    refine z_icmp_lt (tgt := 38) dX8_readFree_26 rfl r1 ⟨by decide, by decide⟩ rfl ⟨fun q => ?_, fun q => ?_⟩
    · have k := ka q
      refine z_aload_n 0 dX8_readFree_38 rfl rfl (Nat.le_of_ble_eq_true rfl) rfl ?_
      refine z_getF 8 10 (x := 13) fX8_12 rfl dX8_readFree_39 rfl rfl ?_
      refine z_callVv vX10_step kX8_95 dX8_readFree_42 rfl (zRo_d d) (as := []) (rest := []) (Nat.le_of_ble_eq_true rfl) rfl rfl (zCv_mono (fun h2 k => ?_) k)
      refine z_aload_n 0 dX8_readFree_45 rfl rfl (Nat.le_of_ble_eq_true rfl) rfl ?_
      refine z_callVi vX8_readState kX8_126 dX8_readFree_46 rfl (zRo_d d) (as := []) (rest := []) (Nat.le_of_ble_eq_true rfl) rfl rfl (zCi_mono (fun x3 h4 k => ?_) k)
      refine z_istore_n 1 dX8_readFree_49 rfl (Nat.le_of_ble_eq_true rfl) (L' := [some (vr 8 12), some (vi x3), none]) rfl rfl ?_
      refine z_iload_n 1 dX8_readFree_50 rfl rfl rfl ?_
      obtain ⟨r1, ka, kb⟩ := k
      refine z_if_ge (tgt := 58) dX8_readFree_51 rfl r1 rfl ⟨fun q => ?_, fun q => ?_⟩
      · have k := ka q
        refine z_aload_n 0 dX8_readFree_58 rfl rfl (Nat.le_of_ble_eq_true rfl) rfl ?_
        refine z_callVi vX8_readState kX8_126 dX8_readFree_59 rfl (zRo_d d) (as := []) (rest := []) (Nat.le_of_ble_eq_true rfl) rfl rfl (zCi_mono (fun x5 h6 k => ?_) k)
        refine z_istore_n 2 dX8_readFree_62 rfl (Nat.le_of_ble_eq_true rfl) (L' := [some (vr 8 12), some (vi x3), some (vi x5)]) rfl rfl ?_
        refine z_iload_n 2 dX8_readFree_63 rfl rfl rfl ?_
        obtain ⟨r1, ka, kb⟩ := k
        refine z_if_ge (tgt := 69) dX8_readFree_64 rfl r1 rfl ⟨fun q => ?_, fun q => ?_⟩
        · have k := ka q
          refine z_aload_n 0 dX8_readFree_69 rfl rfl (Nat.le_of_ble_eq_true rfl) rfl ?_
          refine z_getF 8 2 (x := 4) fX8_46 rfl dX8_readFree_70 rfl rfl ?_
          refine z_iload_n 1 dX8_readFree_73 rfl rfl rfl ?_
          refine z_iload_n 2 dX8_readFree_74 rfl rfl rfl ?_
          refine z_callVv vX2_addFree kX8_137 dX8_readFree_75 rfl (zRo_d d) (as := [vi x3, vi x5]) (rest := []) (Nat.le_of_ble_eq_true rfl) rfl rfl (zCv_mono (fun h8 k => ?_) k)
          refine z_iconst dX8_readFree_78 rfl ?_
          exact z_zreturn rfl (Or.inr rfl) dX8_readFree_79 ⟨true, rfl, k⟩
        · have k := kb q
          refine z_iconst dX8_readFree_67 rfl ?_
          exact z_zreturn rfl (Or.inl rfl) dX8_readFree_68 ⟨false, rfl, k⟩
      · have k := kb q
        refine z_iconst dX8_readFree_54 rfl ?_
        refine z_goto (tgt := 62) dX8_readFree_55 rfl ?_
        refine z_istore_n 2 dX8_readFree_62 rfl (Nat.le_of_ble_eq_true rfl) (L' := [some (vr 8 12), some (vi x3), some (vi (-1))]) rfl rfl ?_
        refine z_iload_n 2 dX8_readFree_63 rfl rfl rfl ?_
        refine z_if_ge (tgt := 69) dX8_readFree_64 rfl ⟨by decide, by decide⟩ rfl ⟨fun q => absurd q (by decide), fun _ => ?_⟩
        refine z_iconst dX8_readFree_67 rfl ?_
        exact z_zreturn rfl (Or.inl rfl) dX8_readFree_68 ⟨false, rfl, k⟩
    · have k := kb q
      refine z_aload_n 0 dX8_readFree_29 rfl rfl (Nat.le_of_ble_eq_true rfl) rfl ?_
      refine z_getF 8 10 (x := 13) fX8_12 rfl dX8_readFree_30 rfl rfl ?_
      refine z_iconst dX8_readFree_33 rfl ?_
      refine z_callVb vX10_fail kX8_91 dX8_readFree_34 rfl (zRo_d d) (as := [vi 5]) (rest := []) (Nat.le_of_ble_eq_true rfl) rfl rfl (zCb_mono (fun x9 h10 k => ?_) k)
      exact z_zreturn rfl (bi_01 _) dX8_readFree_37 ⟨_, rfl, k⟩
  · have k := kb q
    refine z_aload_n 0 dX8_readFree_7 rfl rfl (Nat.le_of_ble_eq_true rfl) rfl ?_
    refine z_getF 8 10 (x := 13) fX8_12 rfl dX8_readFree_8 rfl rfl ?_
    refine z_bipush dX8_readFree_11 rfl rfl ?_
    refine z_callVb vX10_fail kX8_91 dX8_readFree_13 rfl (zRo_d d) (as := [vi 7]) (rest := []) (Nat.le_of_ble_eq_true rfl) rfl rfl (zCb_mono (fun x11 h12 k => ?_) k)
    exact z_zreturn rfl (bi_01 _) dX8_readFree_16 ⟨_, rfl, k⟩
theorem eX8_readFree {G : zG} {d : Nat} {K : Bool → zH → Prop} {h : zH} (k : tX8_readFree_0 G d K h) : zCb G (d + 1) mX8_readFree [vr 8 12] h K := z_entry (by decide +kernel) (Nat.le_of_ble_eq_true rfl) rfl k
def tX8_readEnd_0 (G : zG) (d : Nat) (K : Bool → zH → Prop) (h : zH) : Prop := zTb G (d + 1) mX8_readEnd K 0 [some (vr 8 12), none, none] [] h
theorem bX8_readEnd_0 {G : zG} {d : Nat} {K : Bool → zH → Prop} {h : zH} (k : zR (h 12 6) ∧ (¬ (h 12 6) = 0 → zCv G d mX10_step [vr 10 13] h (fun h2 => zCi G d mX8_readState [vr 8 12] h2 (fun x3 h4 => zR x3 ∧ (0 ≤ x3 → (¬ (zcmp (zland (zlushr (h4 4 8) x3) 1) 1) = 0 → K true (zup h4 4 8 (zlor (h4 4 8) (zlshl 1 x3)))) ∧ ((zcmp (zland (zlushr (h4 4 8) x3) 1) 1) = 0 → zCb G d mX10_failAt [vr 10 13, vi 3, vi (h2 13 6)] h4 (fun x5 h6 => K x5 h6))) ∧ (¬ 0 ≤ x3 → K false h4)))) ∧ ((h 12 6) = 0 → zCb G d mX10_fail [vr 10 13, vi 7] h (fun x7 h8 => K x7 h8))) : tX8_readEnd_0 G d K h := by
  unfold tX8_readEnd_0
  refine z_aload_n 0 dX8_readEnd_0 rfl rfl (Nat.le_of_ble_eq_true rfl) rfl ?_
  refine z_getI 8 (x := (h 12 6)) fX8_62 rfl dX8_readEnd_1 rfl rfl ?_
  obtain ⟨r1, ka, kb⟩ := k
  refine z_if_ne (tgt := 17) dX8_readEnd_4 rfl r1 rfl ⟨fun q => ?_, fun q => ?_⟩
  · have k := ka q
    refine z_aload_n 0 dX8_readEnd_17 rfl rfl (Nat.le_of_ble_eq_true rfl) rfl ?_
    refine z_getF 8 10 (x := 13) fX8_12 rfl dX8_readEnd_18 rfl rfl ?_
    refine z_callVv vX10_step kX8_95 dX8_readEnd_21 rfl (zRo_d d) (as := []) (rest := []) (Nat.le_of_ble_eq_true rfl) rfl rfl (zCv_mono (fun h2 k => ?_) k)
    refine z_aload_n 0 dX8_readEnd_24 rfl rfl (Nat.le_of_ble_eq_true rfl) rfl ?_
    refine z_getF 8 10 (x := 13) fX8_12 rfl dX8_readEnd_25 rfl rfl ?_
    refine z_getI 10 (x := (h2 13 6)) fX8_141 rfl dX8_readEnd_28 rfl rfl ?_
    refine z_istore_n 1 dX8_readEnd_31 rfl (Nat.le_of_ble_eq_true rfl) (L' := [some (vr 8 12), some (vi (h2 13 6)), none]) rfl rfl ?_
    refine z_aload_n 0 dX8_readEnd_32 rfl rfl (Nat.le_of_ble_eq_true rfl) rfl ?_
    refine z_callVi vX8_readState kX8_126 dX8_readEnd_33 rfl (zRo_d d) (as := []) (rest := []) (Nat.le_of_ble_eq_true rfl) rfl rfl (zCi_mono (fun x3 h4 k => ?_) k)
    refine z_istore_n 2 dX8_readEnd_36 rfl (Nat.le_of_ble_eq_true rfl) (L' := [some (vr 8 12), some (vi (h2 13 6)), some (vi x3)]) rfl rfl ?_
    refine z_iload_n 2 dX8_readEnd_37 rfl rfl rfl ?_
    obtain ⟨r1, ka, kb⟩ := k
    refine z_if_ge (tgt := 43) dX8_readEnd_38 rfl r1 rfl ⟨fun q => ?_, fun q => ?_⟩
    · have k := ka q
      refine z_aload_n 0 dX8_readEnd_43 rfl rfl (Nat.le_of_ble_eq_true rfl) rfl ?_
      refine z_getF 8 2 (x := 4) fX8_46 rfl dX8_readEnd_44 rfl rfl ?_
      refine z_getL 2 (x := (h4 4 8)) fX8_144 rfl dX8_readEnd_47 rfl rfl ?_
      refine z_iload_n 2 dX8_readEnd_50 rfl rfl rfl ?_
      refine z_lushr dX8_readEnd_51 rfl ?_
      refine z_lconst (x := 1) dX8_readEnd_52 rfl rfl ?_
      refine z_land dX8_readEnd_53 rfl ?_
      refine z_lconst (x := 1) dX8_readEnd_54 rfl rfl ?_
      refine z_lcmp dX8_readEnd_55 rfl ?_
      obtain ⟨ka, kb⟩ := k
      refine z_if_ne (tgt := 69) dX8_readEnd_56 rfl (zcmp_R _ _) rfl ⟨fun q => ?_, fun q => ?_⟩
      · have k := ka q
        refine z_aload_n 0 dX8_readEnd_69 rfl rfl (Nat.le_of_ble_eq_true rfl) rfl ?_
        refine z_getF 8 2 (x := 4) fX8_46 rfl dX8_readEnd_70 rfl rfl ?_
        refine z_dup dX8_readEnd_73 (fun q => by cases q) rfl ?_
        refine z_getL 2 (x := (h4 4 8)) fX8_144 rfl dX8_readEnd_74 rfl rfl ?_
        refine z_lconst (x := 1) dX8_readEnd_77 rfl rfl ?_
        refine z_iload_n 2 dX8_readEnd_78 rfl rfl rfl ?_
        refine z_lshl dX8_readEnd_79 rfl ?_
        refine z_lor dX8_readEnd_80 rfl ?_
        refine z_putL 2 gX8_144 dX8_readEnd_81 rfl ?_
        refine z_iconst dX8_readEnd_84 rfl ?_
        exact z_zreturn rfl (Or.inr rfl) dX8_readEnd_85 ⟨true, rfl, k⟩
      · have k := kb q
        refine z_aload_n 0 dX8_readEnd_59 rfl rfl (Nat.le_of_ble_eq_true rfl) rfl ?_
        refine z_getF 8 10 (x := 13) fX8_12 rfl dX8_readEnd_60 rfl rfl ?_
        refine z_iconst dX8_readEnd_63 rfl ?_
        refine z_iload_n 1 dX8_readEnd_64 rfl rfl rfl ?_
        refine z_callVb vX10_failAt kX8_147 dX8_readEnd_65 rfl (zRo_d d) (as := [vi 3, vi (h2 13 6)]) (rest := []) (Nat.le_of_ble_eq_true rfl) rfl rfl (zCb_mono (fun x5 h6 k => ?_) k)
        exact z_zreturn rfl (bi_01 _) dX8_readEnd_68 ⟨_, rfl, k⟩
    · have k := kb q
      refine z_iconst dX8_readEnd_41 rfl ?_
      exact z_zreturn rfl (Or.inl rfl) dX8_readEnd_42 ⟨false, rfl, k⟩
  · have k := kb q
    refine z_aload_n 0 dX8_readEnd_7 rfl rfl (Nat.le_of_ble_eq_true rfl) rfl ?_
    refine z_getF 8 10 (x := 13) fX8_12 rfl dX8_readEnd_8 rfl rfl ?_
    refine z_bipush dX8_readEnd_11 rfl rfl ?_
    refine z_callVb vX10_fail kX8_91 dX8_readEnd_13 rfl (zRo_d d) (as := [vi 7]) (rest := []) (Nat.le_of_ble_eq_true rfl) rfl rfl (zCb_mono (fun x7 h8 k => ?_) k)
    exact z_zreturn rfl (bi_01 _) dX8_readEnd_16 ⟨_, rfl, k⟩
theorem eX8_readEnd {G : zG} {d : Nat} {K : Bool → zH → Prop} {h : zH} (k : tX8_readEnd_0 G d K h) : zCb G (d + 1) mX8_readEnd [vr 8 12] h K := z_entry (by decide +kernel) (Nat.le_of_ble_eq_true rfl) rfl k
def tX8_readState_0 (G : zG) (d : Nat) (K : Int → zH → Prop) (h : zH) : Prop := zTi G (d + 1) mX8_readState K 0 [some (vr 8 12), none, none] [] h
theorem bX8_readState_0 {G : zG} {d : Nat} {K : Int → zH → Prop} {h : zH} (k : zR (h 13 5) ∧ ((h 13 5) = 3 → zR (h 4 7) ∧ ((zcmp (h 13 7) (h 4 7)) < 0 → zCv G d mX10_step [vr 10 13] h (fun h2 => zRL (h 13 7) ∧ K (h 13 7) h2)) ∧ (¬ (zcmp (h 13 7) (h 4 7)) < 0 → zCb G d mX10_fail [vr 10 13, vi 2] h (fun x3 h4 => K (-1) h4))) ∧ (¬ (h 13 5) = 3 → zCb G d mX10_fail [vr 10 13, vi 1] h (fun x5 h6 => K (-1) h6))) : tX8_readState_0 G d K h := by
  unfold tX8_readState_0
  refine z_aload_n 0 dX8_readState_0 rfl rfl (Nat.le_of_ble_eq_true rfl) rfl ?_
  refine z_getF 8 10 (x := 13) fX8_12 rfl dX8_readState_1 rfl rfl ?_
  refine z_getI 10 (x := (h 13 5)) fX8_69 rfl dX8_readState_4 rfl rfl ?_
  refine z_iconst dX8_readState_7 rfl ?_
  obtain ⟨r1, ka, kb⟩ := k
  refine z_icmp_eq (tgt := 22) dX8_readState_8 rfl r1 ⟨by decide, by decide⟩ rfl ⟨fun q => ?_, fun q => ?_⟩
  · have k := ka q
    refine z_aload_n 0 dX8_readState_22 rfl rfl (Nat.le_of_ble_eq_true rfl) rfl ?_
    refine z_getF 8 10 (x := 13) fX8_12 rfl dX8_readState_23 rfl rfl ?_
    refine z_getL 10 (x := (h 13 7)) fX8_98 rfl dX8_readState_26 rfl rfl ?_
    refine z_lstore_n 1 dX8_readState_29 rfl (Nat.le_of_ble_eq_true rfl) (L' := [some (vr 8 12), some (vl (h 13 7)), none]) rfl rfl ?_
    refine z_lload_n 1 dX8_readState_30 rfl rfl rfl ?_
    refine z_aload_n 0 dX8_readState_31 rfl rfl (Nat.le_of_ble_eq_true rfl) rfl ?_
    refine z_getF 8 2 (x := 4) fX8_46 rfl dX8_readState_32 rfl rfl ?_
    refine z_getI 2 (x := (h 4 7)) fX8_151 rfl dX8_readState_35 rfl rfl ?_
    obtain ⟨r9, k⟩ := k
    refine z_i2l dX8_readState_38 r9 rfl ?_
    refine z_lcmp dX8_readState_39 rfl ?_
    obtain ⟨ka, kb⟩ := k
    refine z_if_lt (tgt := 54) dX8_readState_40 rfl (zcmp_R _ _) rfl ⟨fun q => ?_, fun q => ?_⟩
    · have k := ka q
      refine z_aload_n 0 dX8_readState_54 rfl rfl (Nat.le_of_ble_eq_true rfl) rfl ?_
      refine z_getF 8 10 (x := 13) fX8_12 rfl dX8_readState_55 rfl rfl ?_
      refine z_callVv vX10_step kX8_95 dX8_readState_58 rfl (zRo_d d) (as := []) (rest := []) (Nat.le_of_ble_eq_true rfl) rfl rfl (zCv_mono (fun h2 k => ?_) k)
      refine z_lload_n 1 dX8_readState_61 rfl rfl rfl ?_
      obtain ⟨r9, k⟩ := k
      refine z_l2i dX8_readState_62 r9 rfl ?_
      exact z_ireturn rfl dX8_readState_63 ⟨_, rfl, k⟩
    · have k := kb q
      refine z_aload_n 0 dX8_readState_43 rfl rfl (Nat.le_of_ble_eq_true rfl) rfl ?_
      refine z_getF 8 10 (x := 13) fX8_12 rfl dX8_readState_44 rfl rfl ?_
      refine z_iconst dX8_readState_47 rfl ?_
      refine z_callVb vX10_fail kX8_91 dX8_readState_48 rfl (zRo_d d) (as := [vi 2]) (rest := []) (Nat.le_of_ble_eq_true rfl) rfl rfl (zCb_mono (fun x3 h4 k => ?_) k)
      refine z_pop dX8_readState_51 (fun q => by cases q) rfl ?_
      refine z_iconst dX8_readState_52 rfl ?_
      exact z_ireturn rfl dX8_readState_53 ⟨_, rfl, k⟩
  · have k := kb q
    refine z_aload_n 0 dX8_readState_11 rfl rfl (Nat.le_of_ble_eq_true rfl) rfl ?_
    refine z_getF 8 10 (x := 13) fX8_12 rfl dX8_readState_12 rfl rfl ?_
    refine z_iconst dX8_readState_15 rfl ?_
    refine z_callVb vX10_fail kX8_91 dX8_readState_16 rfl (zRo_d d) (as := [vi 1]) (rest := []) (Nat.le_of_ble_eq_true rfl) rfl rfl (zCb_mono (fun x5 h6 k => ?_) k)
    refine z_pop dX8_readState_19 (fun q => by cases q) rfl ?_
    refine z_iconst dX8_readState_20 rfl ?_
    exact z_ireturn rfl dX8_readState_21 ⟨_, rfl, k⟩
theorem eX8_readState {G : zG} {d : Nat} {K : Int → zH → Prop} {h : zH} (k : tX8_readState_0 G d K h) : zCi G (d + 1) mX8_readState [vr 8 12] h K := z_entry (by decide +kernel) (Nat.le_of_ble_eq_true rfl) rfl k
def tX8_closeMachine_0 (G : zG) (d : Nat) (K : zH → Prop) (h : zH) : Prop := zTv G (d + 1) mX8_closeMachine K 0 [some (vr 8 12), none, none, none] [] h
def tX8_closeMachine_31 (G : zG) (d : Nat) (K : zH → Prop) (l1 : Int) (l2 : Int) (l3 : Int) (h : zH) : Prop := zTv G (d + 1) mX8_closeMachine K 31 [some (vr 8 12), some (vi l1), some (vi l2), some (vi l3)] [] h
def tX8_closeMachine_57 (G : zG) (d : Nat) (K : zH → Prop) (l1 : Int) (l2 : Int) (l3 : Int) (h : zH) : Prop := zTv G (d + 1) mX8_closeMachine K 57 [some (vr 8 12), some (vi l1), some (vi l2), some (vi l3)] [] h
theorem bX8_closeMachine_0 {G : zG} {d : Nat} {K : zH → Prop} {h : zH} (k : zCb G d mX11_isIn [vi ((h 12 6) - 1), vi 4] h (fun x1 h2 => (x1 = true → zR (h2 4 9) ∧ tX8_closeMachine_31 G d K ((h 12 6) - 1) (min (h2 4 9) 24) 0 h2) ∧ (x1 = false → K h2))) : tX8_closeMachine_0 G d K h := by
  unfold tX8_closeMachine_0
  refine z_aload_n 0 dX8_closeMachine_0 rfl rfl (Nat.le_of_ble_eq_true rfl) rfl ?_
  refine z_getI 8 (x := (h 12 6)) fX8_62 rfl dX8_closeMachine_1 rfl rfl ?_
  refine z_iconst dX8_closeMachine_4 rfl ?_
  refine z_isub dX8_closeMachine_5 rfl ?_
  refine z_istore_n 1 dX8_closeMachine_6 rfl (Nat.le_of_ble_eq_true rfl) (L' := [some (vr 8 12), some (vi ((h 12 6) - 1)), none, none]) rfl rfl ?_
  refine z_iload_n 1 dX8_closeMachine_7 rfl rfl rfl ?_
  refine z_iconst dX8_closeMachine_8 rfl ?_
  refine z_callSNb (host := "RangedMachines") sX11_isIn (by decide +kernel) dX8_closeMachine_9 rfl (zRo_d d) (as := [vi ((h 12 6) - 1), vi 4]) (rest := []) (Nat.le_of_ble_eq_true rfl) rfl rfl (zCb_mono (fun x1 h2 k => ?_) k)
  obtain ⟨ka, kb⟩ := k
  refine z_ifb_ne (tgt := 16) dX8_closeMachine_12 rfl rfl ⟨fun q => ?_, fun q => ?_⟩
  · have k := ka q
    refine z_aload_n 0 dX8_closeMachine_16 rfl rfl (Nat.le_of_ble_eq_true rfl) rfl ?_
    refine z_getF 8 2 (x := 4) fX8_46 rfl dX8_closeMachine_17 rfl rfl ?_
    refine z_getI 2 (x := (h2 4 9)) fX8_123 rfl dX8_closeMachine_20 rfl rfl ?_
    refine z_bipush dX8_closeMachine_23 rfl rfl ?_
    obtain ⟨r1, k⟩ := k
    refine z_mmin (z := (min (h2 4 9) 24)) kX8_157 kmin.1 kmin.2.1 kmin.2.2 dX8_closeMachine_25 r1 ⟨by decide, by decide⟩ ⟨Nat.le_add_left 1 d, (by show _ ≤ 64 * (d + 1); rw [show zcat _ = 0 from rfl]; omega), Nat.le_refl _, Nat.le_refl _⟩ rfl rfl ?_
    refine z_istore_n 2 dX8_closeMachine_28 rfl (Nat.le_of_ble_eq_true rfl) (L' := [some (vr 8 12), some (vi ((h 12 6) - 1)), some (vi (min (h2 4 9) 24)), none]) rfl rfl ?_
    refine z_iconst dX8_closeMachine_29 rfl ?_
    refine z_istore_n 3 dX8_closeMachine_30 rfl (Nat.le_of_ble_eq_true rfl) (L' := [some (vr 8 12), some (vi ((h 12 6) - 1)), some (vi (min (h2 4 9) 24)), some (vi 0)]) rfl rfl ?_
    exact z_sub (L' := [some (vr 8 12), some (vi ((h 12 6) - 1)), some (vi (min (h2 4 9) 24)), some (vi 0)]) (And.intro rfl (And.intro rfl (And.intro rfl (And.intro rfl trivial)))) k
  · have k := kb q
    exact z_return rfl dX8_closeMachine_15 ⟨rfl, k⟩
theorem bX8_closeMachine_31 {G : zG} {d : Nat} {K : zH → Prop} {l1 : Int} {l2 : Int} {l3 : Int} {h : zH} (k : zR l3 ∧ zR l2 ∧ (l2 ≤ l3 → tX8_closeMachine_57 G d K l1 l2 0 h) ∧ (¬ l2 ≤ l3 → ((0 : Int) ≤ l3 ∧ l3 < 24) ∧ zCv G d mX2_cutBy [vr 2 4, vr 3 (h 80 l3)] h (fun h3 => tX8_closeMachine_31 G d K l1 l2 (l3 + 1) h3))) : tX8_closeMachine_31 G d K l1 l2 l3 h := by
  unfold tX8_closeMachine_31
  refine z_iload_n 3 dX8_closeMachine_31 rfl rfl rfl ?_
  refine z_iload_n 2 dX8_closeMachine_32 rfl rfl rfl ?_
  obtain ⟨r1, r2, ka, kb⟩ := k
  refine z_icmp_ge (tgt := 55) dX8_closeMachine_33 rfl r1 r2 rfl ⟨fun q => ?_, fun q => ?_⟩
  · have k := ka q
    refine z_iconst dX8_closeMachine_55 rfl ?_
    refine z_istore_n 3 dX8_closeMachine_56 rfl (Nat.le_of_ble_eq_true rfl) (L' := [some (vr 8 12), some (vi l1), some (vi l2), some (vi 0)]) rfl rfl ?_
    exact z_sub (L' := [some (vr 8 12), some (vi l1), some (vi l2), some (vi 0)]) (And.intro rfl (And.intro rfl (And.intro rfl (And.intro rfl trivial)))) k
  · have k := kb q
    refine z_aload_n 0 dX8_closeMachine_36 rfl rfl (Nat.le_of_ble_eq_true rfl) rfl ?_
    refine z_getF 8 2 (x := 4) fX8_46 rfl dX8_closeMachine_37 rfl rfl ?_
    refine z_aload_n 0 dX8_closeMachine_40 rfl rfl (Nat.le_of_ble_eq_true rfl) rfl ?_
    refine z_getF 8 16 (x := 80) fX8_29 rfl dX8_closeMachine_41 rfl rfl ?_
    refine z_iload_n 3 dX8_closeMachine_44 rfl rfl rfl ?_
    obtain ⟨i9, k⟩ := k
    refine z_aald16 (x := (h 80 l3)) dX8_closeMachine_45 (by rw [zl_80]; exact i9) rfl rfl ?_
    refine z_w (fun w1 => ?_)
    refine z_callVv vX2_cutBy kX8_162 dX8_closeMachine_46 rfl (zRo_d d) (as := [vr 3 (h 80 l3)]) (rest := []) (Nat.le_of_ble_eq_true rfl) rfl rfl (zCv_mono (fun h3 k => ?_) k)
    refine z_iinc dX8_closeMachine_49 rfl (Nat.le_of_ble_eq_true rfl) (L' := [some (vr 8 12), some (vi l1), some (vi l2), some (vi (l3 + 1))]) rfl rfl ?_
    refine z_goto (tgt := 31) dX8_closeMachine_52 rfl ?_
    exact z_sub (L' := [some (vr 8 12), some (vi l1), some (vi l2), some (vi (l3 + 1))]) (And.intro rfl (And.intro rfl (And.intro rfl (And.intro rfl trivial)))) k
theorem bX8_closeMachine_57 {G : zG} {d : Nat} {K : zH → Prop} {l1 : Int} {l2 : Int} {l3 : Int} {h : zH} (k : zR l3 ∧ zR l2 ∧ (l2 ≤ l3 → ((0 : Int) ≤ l1 ∧ l1 < 4) ∧ zCb G d mX4_settle [vr 4 (h 81 l1), vr 2 4] h (fun x2 h3 => (x2 = true → K h3) ∧ (x2 = false → K (zup h3 12 7 1)))) ∧ (¬ l2 ≤ l3 → ((0 : Int) ≤ l3 ∧ l3 < 24) ∧ zCv G d mX2_markSet [vr 2 4, vi l3, vr 3 (h 80 l3)] h (fun h6 => tX8_closeMachine_57 G d K l1 l2 (l3 + 1) h6))) : tX8_closeMachine_57 G d K l1 l2 l3 h := by
  unfold tX8_closeMachine_57
  refine z_iload_n 3 dX8_closeMachine_57 rfl rfl rfl ?_
  refine z_iload_n 2 dX8_closeMachine_58 rfl rfl rfl ?_
  obtain ⟨r1, r2, ka, kb⟩ := k
  refine z_icmp_ge (tgt := 82) dX8_closeMachine_59 rfl r1 r2 rfl ⟨fun q => ?_, fun q => ?_⟩
  · have k := ka q
    refine z_aload_n 0 dX8_closeMachine_82 rfl rfl (Nat.le_of_ble_eq_true rfl) rfl ?_
    refine z_getF 8 17 (x := 81) fX8_35 rfl dX8_closeMachine_83 rfl rfl ?_
    refine z_iload_n 1 dX8_closeMachine_86 rfl rfl rfl ?_
    obtain ⟨i9, k⟩ := k
    refine z_aald17 (x := (h 81 l1)) dX8_closeMachine_87 (by rw [zl_81]; exact i9) rfl rfl ?_
    refine z_w (fun w1 => ?_)
    refine z_aload_n 0 dX8_closeMachine_88 rfl rfl (Nat.le_of_ble_eq_true rfl) rfl ?_
    refine z_getF 8 2 (x := 4) fX8_46 rfl dX8_closeMachine_89 rfl rfl ?_
    refine z_callVb vX4_settle kX8_170 dX8_closeMachine_92 rfl (zRo_d d) (as := [vr 2 4]) (rest := []) (Nat.le_of_ble_eq_true rfl) rfl rfl (zCb_mono (fun x2 h3 k => ?_) k)
    obtain ⟨ka, kb⟩ := k
    refine z_ifb_ne (tgt := 103) dX8_closeMachine_95 rfl rfl ⟨fun q => ?_, fun q => ?_⟩
    · have k := ka q
      exact z_return rfl dX8_closeMachine_103 ⟨rfl, k⟩
    · have k := kb q
      refine z_aload_n 0 dX8_closeMachine_98 rfl rfl (Nat.le_of_ble_eq_true rfl) rfl ?_
      refine z_iconst dX8_closeMachine_99 rfl ?_
      refine z_putZ 8 gX8_65 (Or.inr rfl) dX8_closeMachine_100 rfl ?_
      exact z_return rfl dX8_closeMachine_103 ⟨rfl, k⟩
  · have k := kb q
    refine z_aload_n 0 dX8_closeMachine_62 rfl rfl (Nat.le_of_ble_eq_true rfl) rfl ?_
    refine z_getF 8 2 (x := 4) fX8_46 rfl dX8_closeMachine_63 rfl rfl ?_
    refine z_iload_n 3 dX8_closeMachine_66 rfl rfl rfl ?_
    refine z_aload_n 0 dX8_closeMachine_67 rfl rfl (Nat.le_of_ble_eq_true rfl) rfl ?_
    refine z_getF 8 16 (x := 80) fX8_29 rfl dX8_closeMachine_68 rfl rfl ?_
    refine z_iload_n 3 dX8_closeMachine_71 rfl rfl rfl ?_
    obtain ⟨i9, k⟩ := k
    refine z_aald16 (x := (h 80 l3)) dX8_closeMachine_72 (by rw [zl_80]; exact i9) rfl rfl ?_
    refine z_w (fun w4 => ?_)
    refine z_callVv vX2_markSet kX8_166 dX8_closeMachine_73 rfl (zRo_d d) (as := [vi l3, vr 3 (h 80 l3)]) (rest := []) (Nat.le_of_ble_eq_true rfl) rfl rfl (zCv_mono (fun h6 k => ?_) k)
    refine z_iinc dX8_closeMachine_76 rfl (Nat.le_of_ble_eq_true rfl) (L' := [some (vr 8 12), some (vi l1), some (vi l2), some (vi (l3 + 1))]) rfl rfl ?_
    refine z_goto (tgt := 57) dX8_closeMachine_79 rfl ?_
    exact z_sub (L' := [some (vr 8 12), some (vi l1), some (vi l2), some (vi (l3 + 1))]) (And.intro rfl (And.intro rfl (And.intro rfl (And.intro rfl trivial)))) k
theorem eX8_closeMachine {G : zG} {d : Nat} {K : zH → Prop} {h : zH} (k : tX8_closeMachine_0 G d K h) : zCv G (d + 1) mX8_closeMachine [vr 8 12] h K := z_entry (by decide +kernel) (Nat.le_of_ble_eq_true rfl) rfl k
def tX11_feed_0 (G : zG) (d : Nat) (K : Int → zH → Prop) (l1 : Int) (l2 : Int) (l3 : Int) (l4 : Int) (l5 : Int) (h : zH) : Prop := zTi G (d + 1) mX11_feed K 0 [some (vr 11 0), some (vi l1), some (vi l2), some (vi l3), some (vi l4), some (vi l5)] [] h
theorem bX11_feed_0 {G : zG} {d : Nat} {K : Int → zH → Prop} {l1 : Int} {l2 : Int} {l3 : Int} {l4 : Int} {l5 : Int} {h : zH} (k : zR (h 0 10) ∧ ((h 0 10) ≤ 880 → zCv G d mX11_putFour [vr 11 0, vi l1] h (fun h2 => zCv G d mX11_putFour [vr 11 0, vi l2] h2 (fun h4 => zCv G d mX11_putFour [vr 11 0, vi l3] h4 (fun h6 => zCv G d mX11_putFour [vr 11 0, vi l4] h6 (fun h8 => zCv G d mX11_putFour [vr 11 0, vi l5] h8 (fun h10 => K (h10 0 10) h10)))))) ∧ (¬ (h 0 10) ≤ 880 → K (-1) h)) : tX11_feed_0 G d K l1 l2 l3 l4 l5 h := by
  unfold tX11_feed_0
  refine z_aload_n 0 dX11_feed_0 rfl rfl (Nat.le_of_ble_eq_true rfl) rfl ?_
  refine z_getI 11 (x := (h 0 10)) fX11_77 rfl dX11_feed_1 rfl rfl ?_
  refine z_sipush dX11_feed_4 rfl rfl ?_
  obtain ⟨r1, ka, kb⟩ := k
  refine z_icmp_le (tgt := 12) dX11_feed_7 rfl r1 ⟨by decide, by decide⟩ rfl ⟨fun q => ?_, fun q => ?_⟩
  · have k := ka q
    refine z_aload_n 0 dX11_feed_12 rfl rfl (Nat.le_of_ble_eq_true rfl) rfl ?_
    refine z_iload_n 1 dX11_feed_13 rfl rfl rfl ?_
    refine z_callVv vX11_putFour kX11_81 dX11_feed_14 rfl (zRo_d d) (as := [vi l1]) (rest := []) (Nat.le_of_ble_eq_true rfl) rfl rfl (zCv_mono (fun h2 k => ?_) k)
    refine z_aload_n 0 dX11_feed_17 rfl rfl (Nat.le_of_ble_eq_true rfl) rfl ?_
    refine z_iload_n 2 dX11_feed_18 rfl rfl rfl ?_
    refine z_callVv vX11_putFour kX11_81 dX11_feed_19 rfl (zRo_d d) (as := [vi l2]) (rest := []) (Nat.le_of_ble_eq_true rfl) rfl rfl (zCv_mono (fun h4 k => ?_) k)
    refine z_aload_n 0 dX11_feed_22 rfl rfl (Nat.le_of_ble_eq_true rfl) rfl ?_
    refine z_iload_n 3 dX11_feed_23 rfl rfl rfl ?_
    refine z_callVv vX11_putFour kX11_81 dX11_feed_24 rfl (zRo_d d) (as := [vi l3]) (rest := []) (Nat.le_of_ble_eq_true rfl) rfl rfl (zCv_mono (fun h6 k => ?_) k)
    refine z_aload_n 0 dX11_feed_27 rfl rfl (Nat.le_of_ble_eq_true rfl) rfl ?_
    refine z_iload dX11_feed_28 rfl rfl ?_
    refine z_callVv vX11_putFour kX11_81 dX11_feed_30 rfl (zRo_d d) (as := [vi l4]) (rest := []) (Nat.le_of_ble_eq_true rfl) rfl rfl (zCv_mono (fun h8 k => ?_) k)
    refine z_aload_n 0 dX11_feed_33 rfl rfl (Nat.le_of_ble_eq_true rfl) rfl ?_
    refine z_iload dX11_feed_34 rfl rfl ?_
    refine z_callVv vX11_putFour kX11_81 dX11_feed_36 rfl (zRo_d d) (as := [vi l5]) (rest := []) (Nat.le_of_ble_eq_true rfl) rfl rfl (zCv_mono (fun h10 k => ?_) k)
    refine z_aload_n 0 dX11_feed_39 rfl rfl (Nat.le_of_ble_eq_true rfl) rfl ?_
    refine z_getI 11 (x := (h10 0 10)) fX11_77 rfl dX11_feed_40 rfl rfl ?_
    exact z_ireturn rfl dX11_feed_43 ⟨_, rfl, k⟩
  · have k := kb q
    refine z_iconst dX11_feed_10 rfl ?_
    exact z_ireturn rfl dX11_feed_11 ⟨_, rfl, k⟩
theorem eX11_feed {G : zG} {d : Nat} {K : Int → zH → Prop} {l1 : Int} {l2 : Int} {l3 : Int} {l4 : Int} {l5 : Int} {h : zH} (k : tX11_feed_0 G d K l1 l2 l3 l4 l5 h) : zCi G (d + 1) mX11_feed [vr 11 0, vi l1, vi l2, vi l3, vi l4, vi l5] h K := z_entry (by decide +kernel) (Nat.le_of_ble_eq_true rfl) rfl k
def tX11_bench_0 (G : zG) (d : Nat) (K : Int → zH → Prop) (l1 : Int) (h : zH) : Prop := zTi G (d + 1) mX11_bench K 0 [some (vr 11 0), some (vi l1), none] [] h
theorem bX11_bench_0 {G : zG} {d : Nat} {K : Int → zH → Prop} {l1 : Int} {h : zH} (k : zR l1 ∧ (l1 < 0 → zCi G d mX11_refused [vr 11 0, vi 2] h (fun x1 h2 => K x1 h2)) ∧ (¬ l1 < 0 → zR l1 ∧ zR (h 0 10) ∧ (l1 ≤ (h 0 10) → zCb G d mX8_readBench [vr 8 12, vr 15 1, vi l1] (zup h 0 10 0) (fun x3 h4 => (x3 = true → zCv G d mX11_takeBench [vr 11 0] (zup (zup h4 0 15 (h4 13 8)) 0 16 (h4 13 9)) (fun h6 => zCi G d mX11_granted [vr 11 0, vi (h6 0 13)] h6 (fun x7 h8 => K x7 h8))) ∧ (x3 = false → zCi G d mX11_refused [vr 11 0, vi 4] (zup (zup h4 0 15 (h4 13 8)) 0 16 (h4 13 9)) (fun x9 h10 => K x9 h10)))) ∧ (¬ l1 ≤ (h 0 10) → zCi G d mX11_refused [vr 11 0, vi 2] h (fun x11 h12 => K x11 h12)))) : tX11_bench_0 G d K l1 h := by
  unfold tX11_bench_0
  refine z_iload_n 1 dX11_bench_0 rfl rfl rfl ?_
  obtain ⟨r1, ka, kb⟩ := k
  refine z_if_lt (tgt := 12) dX11_bench_1 rfl r1 rfl ⟨fun q => ?_, fun q => ?_⟩
  · have k := ka q
    refine z_aload_n 0 dX11_bench_12 rfl rfl (Nat.le_of_ble_eq_true rfl) rfl ?_
    refine z_iconst dX11_bench_13 rfl ?_
    refine z_callVi vX11_refused kX11_84 dX11_bench_14 rfl (zRo_d d) (as := [vi 2]) (rest := []) (Nat.le_of_ble_eq_true rfl) rfl rfl (zCi_mono (fun x1 h2 k => ?_) k)
    exact z_ireturn rfl dX11_bench_17 ⟨_, rfl, k⟩
  · have k := kb q
    refine z_iload_n 1 dX11_bench_4 rfl rfl rfl ?_
    refine z_aload_n 0 dX11_bench_5 rfl rfl (Nat.le_of_ble_eq_true rfl) rfl ?_
    refine z_getI 11 (x := (h 0 10)) fX11_77 rfl dX11_bench_6 rfl rfl ?_
    obtain ⟨r1, r2, ka, kb⟩ := k
    refine z_icmp_le (tgt := 18) dX11_bench_9 rfl r1 r2 rfl ⟨fun q => ?_, fun q => ?_⟩
    · have k := ka q
      refine z_aload_n 0 dX11_bench_18 rfl rfl (Nat.le_of_ble_eq_true rfl) rfl ?_
      refine z_iconst dX11_bench_19 rfl ?_
      refine z_putI 11 gX11_77 dX11_bench_20 rfl ?_
      refine z_aload_n 0 dX11_bench_23 rfl rfl (Nat.le_of_ble_eq_true rfl) rfl ?_
      refine z_getF 11 8 (x := 12) fX11_35 rfl dX11_bench_24 rfl rfl ?_
      refine z_aload_n 0 dX11_bench_27 rfl rfl (Nat.le_of_ble_eq_true rfl) rfl ?_
      refine z_getF 11 15 (x := 1) fX11_9 rfl dX11_bench_28 rfl rfl ?_
      refine z_iload_n 1 dX11_bench_31 rfl rfl rfl ?_
      refine z_callVb vX8_readBench kX11_88 dX11_bench_32 rfl (zRo_d d) (as := [vr 15 1, vi l1]) (rest := []) (Nat.le_of_ble_eq_true rfl) rfl rfl (zCb_mono (fun x3 h4 k => ?_) k)
      refine z_istore_n 2 dX11_bench_35 rfl (Nat.le_of_ble_eq_true rfl) (L' := [some (vr 11 0), some (vi l1), some (vi (bi x3))]) rfl rfl ?_
      refine z_aload_n 0 dX11_bench_36 rfl rfl (Nat.le_of_ble_eq_true rfl) rfl ?_
      refine z_aload_n 0 dX11_bench_37 rfl rfl (Nat.le_of_ble_eq_true rfl) rfl ?_
      refine z_getF 11 8 (x := 12) fX11_35 rfl dX11_bench_38 rfl rfl ?_
      refine z_getF 8 10 (x := 13) fX11_92 rfl dX11_bench_41 rfl rfl ?_
      refine z_getI 10 (x := (h4 13 8)) fX11_96 rfl dX11_bench_44 rfl rfl ?_
      refine z_putI 11 gX11_101 dX11_bench_47 rfl ?_
      refine z_aload_n 0 dX11_bench_50 rfl rfl (Nat.le_of_ble_eq_true rfl) rfl ?_
      refine z_aload_n 0 dX11_bench_51 rfl rfl (Nat.le_of_ble_eq_true rfl) rfl ?_
      refine z_getF 11 8 (x := 12) fX11_35 rfl dX11_bench_52 rfl rfl ?_
      refine z_getF 8 10 (x := 13) fX11_92 rfl dX11_bench_55 rfl rfl ?_
      refine z_getI 10 (x := (h4 13 9)) fX11_104 rfl dX11_bench_58 (by simp [zup]) rfl ?_
      refine z_putI 11 gX11_107 dX11_bench_61 rfl ?_
      refine z_iload_n 2 dX11_bench_64 rfl rfl rfl ?_
      obtain ⟨ka, kb⟩ := k
      refine z_ifb_ne (tgt := 74) dX11_bench_65 rfl rfl ⟨fun q => ?_, fun q => ?_⟩
      · have k := ka q
        refine z_aload_n 0 dX11_bench_74 rfl rfl (Nat.le_of_ble_eq_true rfl) rfl ?_
        refine z_callVv vX11_takeBench kX11_110 dX11_bench_75 rfl (zRo_d d) (as := []) (rest := []) (Nat.le_of_ble_eq_true rfl) rfl rfl (zCv_mono (fun h6 k => ?_) k)
        refine z_aload_n 0 dX11_bench_78 rfl rfl (Nat.le_of_ble_eq_true rfl) rfl ?_
        refine z_aload_n 0 dX11_bench_79 rfl rfl (Nat.le_of_ble_eq_true rfl) rfl ?_
        refine z_getI 11 (x := (h6 0 13)) fX11_113 rfl dX11_bench_80 rfl rfl ?_
        refine z_callVi vX11_granted kX11_116 dX11_bench_83 rfl (zRo_d d) (as := [vi (h6 0 13)]) (rest := []) (Nat.le_of_ble_eq_true rfl) rfl rfl (zCi_mono (fun x7 h8 k => ?_) k)
        exact z_ireturn rfl dX11_bench_86 ⟨_, rfl, k⟩
      · have k := kb q
        refine z_aload_n 0 dX11_bench_68 rfl rfl (Nat.le_of_ble_eq_true rfl) rfl ?_
        refine z_iconst dX11_bench_69 rfl ?_
        refine z_callVi vX11_refused kX11_84 dX11_bench_70 rfl (zRo_d d) (as := [vi 4]) (rest := []) (Nat.le_of_ble_eq_true rfl) rfl rfl (zCi_mono (fun x9 h10 k => ?_) k)
        exact z_ireturn rfl dX11_bench_73 ⟨_, rfl, k⟩
    · have k := kb q
      refine z_aload_n 0 dX11_bench_12 rfl rfl (Nat.le_of_ble_eq_true rfl) rfl ?_
      refine z_iconst dX11_bench_13 rfl ?_
      refine z_callVi vX11_refused kX11_84 dX11_bench_14 rfl (zRo_d d) (as := [vi 2]) (rest := []) (Nat.le_of_ble_eq_true rfl) rfl rfl (zCi_mono (fun x11 h12 k => ?_) k)
      exact z_ireturn rfl dX11_bench_17 ⟨_, rfl, k⟩
theorem eX11_bench {G : zG} {d : Nat} {K : Int → zH → Prop} {l1 : Int} {h : zH} (k : tX11_bench_0 G d K l1 h) : zCi G (d + 1) mX11_bench [vr 11 0, vi l1] h K := z_entry (by decide +kernel) (Nat.le_of_ble_eq_true rfl) rfl k
def tX11_fault_0 (G : zG) (d : Nat) (K : Int → zH → Prop) (h : zH) : Prop := zTi G d mX11_fault K 0 [some (vr 11 0)] [] h
theorem bX11_fault_0 {G : zG} {d : Nat} {K : Int → zH → Prop} {h : zH} (k : K (h 0 15) h) : tX11_fault_0 G d K h := by
  unfold tX11_fault_0
  refine z_aload_n 0 dX11_fault_0 rfl rfl (Nat.le_of_ble_eq_true rfl) rfl ?_
  refine z_getI 11 (x := (h 0 15)) fX11_101 rfl dX11_fault_1 rfl rfl ?_
  exact z_ireturn rfl dX11_fault_4 ⟨_, rfl, k⟩
theorem eX11_fault {G : zG} {d : Nat} {K : Int → zH → Prop} {h : zH} (k : tX11_fault_0 G d K h) : zCi G d mX11_fault [vr 11 0] h K := z_entry (by decide +kernel) (Nat.le_of_ble_eq_true rfl) rfl k
def tX11_where_0 (G : zG) (d : Nat) (K : Int → zH → Prop) (h : zH) : Prop := zTi G d mX11_where K 0 [some (vr 11 0)] [] h
theorem bX11_where_0 {G : zG} {d : Nat} {K : Int → zH → Prop} {h : zH} (k : zR (h 0 14) ∧ (¬ (h 0 14) = 4 → K (-1) h) ∧ ((h 0 14) = 4 → K (h 0 16) h)) : tX11_where_0 G d K h := by
  unfold tX11_where_0
  refine z_aload_n 0 dX11_where_0 rfl rfl (Nat.le_of_ble_eq_true rfl) rfl ?_
  refine z_getI 11 (x := (h 0 14)) fX11_119 rfl dX11_where_1 rfl rfl ?_
  refine z_iconst dX11_where_4 rfl ?_
  obtain ⟨r1, ka, kb⟩ := k
  refine z_icmp_ne (tgt := 15) dX11_where_5 rfl r1 ⟨by decide, by decide⟩ rfl ⟨fun q => ?_, fun q => ?_⟩
  · have k := ka q
    refine z_iconst dX11_where_15 rfl ?_
    exact z_ireturn rfl dX11_where_16 ⟨_, rfl, k⟩
  · have k := kb q
    refine z_aload_n 0 dX11_where_8 rfl rfl (Nat.le_of_ble_eq_true rfl) rfl ?_
    refine z_getI 11 (x := (h 0 16)) fX11_107 rfl dX11_where_9 rfl rfl ?_
    refine z_goto (tgt := 16) dX11_where_12 rfl ?_
    exact z_ireturn rfl dX11_where_16 ⟨_, rfl, k⟩
theorem eX11_where {G : zG} {d : Nat} {K : Int → zH → Prop} {h : zH} (k : tX11_where_0 G d K h) : zCi G d mX11_where [vr 11 0] h K := z_entry (by decide +kernel) (Nat.le_of_ble_eq_true rfl) rfl k
def tX11_ranges_0 (G : zG) (d : Nat) (K : Int → zH → Prop) (l1 : Int) (h : zH) : Prop := zTi G (d + 1) mX11_ranges K 0 [some (vr 11 0), some (vi l1)] [] h
theorem bX11_ranges_0 {G : zG} {d : Nat} {K : Int → zH → Prop} {l1 : Int} {h : zH} (k : zCb G d mX11_isSet [vr 11 0, vi l1] h (fun x1 h2 => (x1 = true → ((0 : Int) ≤ l1 ∧ l1 < 12) ∧ zCi G d mX3_rangeCount [vr 3 (h2 ((h2 0 9) + 1) l1)] h2 (fun x5 h6 => zCi G d mX11_granted [vr 11 0, vi x5] h6 (fun x7 h8 => K x7 h8))) ∧ (x1 = false → zCi G d mX11_refused [vr 11 0, vi 1] h2 (fun x9 h10 => K x9 h10)))) : tX11_ranges_0 G d K l1 h := by
  unfold tX11_ranges_0
  refine z_aload_n 0 dX11_ranges_0 rfl rfl (Nat.le_of_ble_eq_true rfl) rfl ?_
  refine z_iload_n 1 dX11_ranges_1 rfl rfl rfl ?_
  refine z_callVb vX11_isSet kX11_122 dX11_ranges_2 rfl (zRo_d d) (as := [vi l1]) (rest := []) (Nat.le_of_ble_eq_true rfl) rfl rfl (zCb_mono (fun x1 h2 k => ?_) k)
  obtain ⟨ka, kb⟩ := k
  refine z_ifb_ne (tgt := 14) dX11_ranges_5 rfl rfl ⟨fun q => ?_, fun q => ?_⟩
  · have k := ka q
    refine z_aload_n 0 dX11_ranges_14 rfl rfl (Nat.le_of_ble_eq_true rfl) rfl ?_
    refine z_aload_n 0 dX11_ranges_15 rfl rfl (Nat.le_of_ble_eq_true rfl) rfl ?_
    refine z_getR 11 9 (x := (h2 0 9)) fX11_72 rfl dX11_ranges_16 rfl rfl ?_
    refine z_w (fun w3 => ?_)
    refine z_getF 9 16 (x := ((h2 0 9) + 1)) fX11_126 rfl dX11_ranges_19 (by omega) rfl ?_
    refine z_iload_n 1 dX11_ranges_22 rfl rfl rfl ?_
    obtain ⟨i9, k⟩ := k
    refine z_aald16 (x := (h2 ((h2 0 9) + 1) l1)) dX11_ranges_23 (by rw [zl9_1 w3]; exact i9) rfl rfl ?_
    refine z_w (fun w4 => ?_)
    refine z_callVi vX3_rangeCount kX11_129 dX11_ranges_24 rfl (zRo_d d) (as := []) (rest := [vr 11 0]) (Nat.le_of_ble_eq_true rfl) rfl rfl (zCi_mono (fun x5 h6 k => ?_) k)
    refine z_callVi vX11_granted kX11_116 dX11_ranges_27 rfl (zRo_d d) (as := [vi x5]) (rest := []) (Nat.le_of_ble_eq_true rfl) rfl rfl (zCi_mono (fun x7 h8 k => ?_) k)
    exact z_ireturn rfl dX11_ranges_30 ⟨_, rfl, k⟩
  · have k := kb q
    refine z_aload_n 0 dX11_ranges_8 rfl rfl (Nat.le_of_ble_eq_true rfl) rfl ?_
    refine z_iconst dX11_ranges_9 rfl ?_
    refine z_callVi vX11_refused kX11_84 dX11_ranges_10 rfl (zRo_d d) (as := [vi 1]) (rest := []) (Nat.le_of_ble_eq_true rfl) rfl rfl (zCi_mono (fun x9 h10 k => ?_) k)
    exact z_ireturn rfl dX11_ranges_13 ⟨_, rfl, k⟩
theorem eX11_ranges {G : zG} {d : Nat} {K : Int → zH → Prop} {l1 : Int} {h : zH} (k : tX11_ranges_0 G d K l1 h) : zCi G (d + 1) mX11_ranges [vr 11 0, vi l1] h K := z_entry (by decide +kernel) (Nat.le_of_ble_eq_true rfl) rfl k
def tX11_range_0 (G : zG) (d : Nat) (K : Int → zH → Prop) (l1 : Int) (l2 : Int) (l3 : Bool) (h : zH) : Prop := zTi G (d + 1) mX11_range K 0 [some (vr 11 0), some (vi l1), some (vi l2), some (vi (bi l3))] [] h
theorem bX11_range_0 {G : zG} {d : Nat} {K : Int → zH → Prop} {l1 : Int} {l2 : Int} {l3 : Bool} {h : zH} (k : zCb G d mX11_isSet [vr 11 0, vi l1] h (fun x1 h2 => (x1 = false → zCi G d mX11_refused [vr 11 0, vi 1] h2 (fun x3 h4 => K x3 h4)) ∧ (x1 = true → ((0 : Int) ≤ l1 ∧ l1 < 12) ∧ zCi G d mX3_rangeCount [vr 3 (h2 ((h2 0 9) + 1) l1)] h2 (fun x7 h8 => zCb G d mX11_isIn [vi l2, vi x7] h8 (fun x9 h10 => (x9 = true → ((0 : Int) ≤ l1 ∧ l1 < 12) ∧ zCi G d mX3_bound [vr 3 (h10 ((h10 0 9) + 1) l1), vi l2, vi (bi l3)] h10 (fun x13 h14 => zCi G d mX11_granted [vr 11 0, vi x13] h14 (fun x15 h16 => K x15 h16))) ∧ (x9 = false → zCi G d mX11_refused [vr 11 0, vi 1] h10 (fun x17 h18 => K x17 h18))))))) : tX11_range_0 G d K l1 l2 l3 h := by
  unfold tX11_range_0
  refine z_aload_n 0 dX11_range_0 rfl rfl (Nat.le_of_ble_eq_true rfl) rfl ?_
  refine z_iload_n 1 dX11_range_1 rfl rfl rfl ?_
  refine z_callVb vX11_isSet kX11_122 dX11_range_2 rfl (zRo_d d) (as := [vi l1]) (rest := []) (Nat.le_of_ble_eq_true rfl) rfl rfl (zCb_mono (fun x1 h2 k => ?_) k)
  obtain ⟨ka, kb⟩ := k
  refine z_ifb_eq (tgt := 27) dX11_range_5 rfl rfl ⟨fun q => ?_, fun q => ?_⟩
  · have k := ka q
    refine z_aload_n 0 dX11_range_27 rfl rfl (Nat.le_of_ble_eq_true rfl) rfl ?_
    refine z_iconst dX11_range_28 rfl ?_
    refine z_callVi vX11_refused kX11_84 dX11_range_29 rfl (zRo_d d) (as := [vi 1]) (rest := []) (Nat.le_of_ble_eq_true rfl) rfl rfl (zCi_mono (fun x3 h4 k => ?_) k)
    exact z_ireturn rfl dX11_range_32 ⟨_, rfl, k⟩
  · have k := kb q
    refine z_iload_n 2 dX11_range_8 rfl rfl rfl ?_
    refine z_aload_n 0 dX11_range_9 rfl rfl (Nat.le_of_ble_eq_true rfl) rfl ?_
    refine z_getR 11 9 (x := (h2 0 9)) fX11_72 rfl dX11_range_10 rfl rfl ?_
    refine z_w (fun w5 => ?_)
    refine z_getF 9 16 (x := ((h2 0 9) + 1)) fX11_126 rfl dX11_range_13 (by omega) rfl ?_
    refine z_iload_n 1 dX11_range_16 rfl rfl rfl ?_
    obtain ⟨i9, k⟩ := k
    refine z_aald16 (x := (h2 ((h2 0 9) + 1) l1)) dX11_range_17 (by rw [zl9_1 w5]; exact i9) rfl rfl ?_
    refine z_w (fun w6 => ?_)
    refine z_callVi vX3_rangeCount kX11_129 dX11_range_18 rfl (zRo_d d) (as := []) (rest := [vi l2]) (Nat.le_of_ble_eq_true rfl) rfl rfl (zCi_mono (fun x7 h8 k => ?_) k)
    refine z_callSb sX11_isIn kX11_133 dX11_range_21 rfl (zRo_d d) (as := [vi l2, vi x7]) (rest := []) (Nat.le_of_ble_eq_true rfl) rfl rfl (zCb_mono (fun x9 h10 k => ?_) k)
    obtain ⟨ka, kb⟩ := k
    refine z_ifb_ne (tgt := 33) dX11_range_24 rfl rfl ⟨fun q => ?_, fun q => ?_⟩
    · have k := ka q
      refine z_aload_n 0 dX11_range_33 rfl rfl (Nat.le_of_ble_eq_true rfl) rfl ?_
      refine z_aload_n 0 dX11_range_34 rfl rfl (Nat.le_of_ble_eq_true rfl) rfl ?_
      refine z_getR 11 9 (x := (h10 0 9)) fX11_72 rfl dX11_range_35 rfl rfl ?_
      refine z_w (fun w11 => ?_)
      refine z_getF 9 16 (x := ((h10 0 9) + 1)) fX11_126 rfl dX11_range_38 (by omega) rfl ?_
      refine z_iload_n 1 dX11_range_41 rfl rfl rfl ?_
      obtain ⟨i9, k⟩ := k
      refine z_aald16 (x := (h10 ((h10 0 9) + 1) l1)) dX11_range_42 (by rw [zl9_1 w11]; exact i9) rfl rfl ?_
      refine z_w (fun w12 => ?_)
      refine z_iload_n 2 dX11_range_43 rfl rfl rfl ?_
      refine z_iload_n 3 dX11_range_44 rfl rfl rfl ?_
      refine z_callVi vX3_bound kX11_137 dX11_range_45 rfl (zRo_d d) (as := [vi l2, vi (bi l3)]) (rest := [vr 11 0]) (Nat.le_of_ble_eq_true rfl) rfl rfl (zCi_mono (fun x13 h14 k => ?_) k)
      refine z_callVi vX11_granted kX11_116 dX11_range_48 rfl (zRo_d d) (as := [vi x13]) (rest := []) (Nat.le_of_ble_eq_true rfl) rfl rfl (zCi_mono (fun x15 h16 k => ?_) k)
      exact z_ireturn rfl dX11_range_51 ⟨_, rfl, k⟩
    · have k := kb q
      refine z_aload_n 0 dX11_range_27 rfl rfl (Nat.le_of_ble_eq_true rfl) rfl ?_
      refine z_iconst dX11_range_28 rfl ?_
      refine z_callVi vX11_refused kX11_84 dX11_range_29 rfl (zRo_d d) (as := [vi 1]) (rest := []) (Nat.le_of_ble_eq_true rfl) rfl rfl (zCi_mono (fun x17 h18 k => ?_) k)
      exact z_ireturn rfl dX11_range_32 ⟨_, rfl, k⟩
theorem eX11_range {G : zG} {d : Nat} {K : Int → zH → Prop} {l1 : Int} {l2 : Int} {l3 : Bool} {h : zH} (k : tX11_range_0 G d K l1 l2 l3 h) : zCi G (d + 1) mX11_range [vr 11 0, vi l1, vi l2, vi (bi l3)] h K := z_entry (by decide +kernel) (Nat.le_of_ble_eq_true rfl) rfl k
def tX11_letters_0 (G : zG) (d : Nat) (K : Int → zH → Prop) (l1 : Int) (h : zH) : Prop := zTi G (d + 1) mX11_letters K 0 [some (vr 11 0), some (vi l1)] [] h
theorem bX11_letters_0 {G : zG} {d : Nat} {K : Int → zH → Prop} {l1 : Int} {h : zH} (k : zCb G d mX11_isSet [vr 11 0, vi l1] h (fun x1 h2 => (x1 = true → ((0 : Int) ≤ l1 ∧ l1 < 12) ∧ zCi G d mX3_amount [vr 3 (h2 ((h2 0 9) + 1) l1)] h2 (fun x5 h6 => zCi G d mX11_granted [vr 11 0, vi x5] h6 (fun x7 h8 => K x7 h8))) ∧ (x1 = false → zCi G d mX11_refused [vr 11 0, vi 1] h2 (fun x9 h10 => K x9 h10)))) : tX11_letters_0 G d K l1 h := by
  unfold tX11_letters_0
  refine z_aload_n 0 dX11_letters_0 rfl rfl (Nat.le_of_ble_eq_true rfl) rfl ?_
  refine z_iload_n 1 dX11_letters_1 rfl rfl rfl ?_
  refine z_callVb vX11_isSet kX11_122 dX11_letters_2 rfl (zRo_d d) (as := [vi l1]) (rest := []) (Nat.le_of_ble_eq_true rfl) rfl rfl (zCb_mono (fun x1 h2 k => ?_) k)
  obtain ⟨ka, kb⟩ := k
  refine z_ifb_ne (tgt := 14) dX11_letters_5 rfl rfl ⟨fun q => ?_, fun q => ?_⟩
  · have k := ka q
    refine z_aload_n 0 dX11_letters_14 rfl rfl (Nat.le_of_ble_eq_true rfl) rfl ?_
    refine z_aload_n 0 dX11_letters_15 rfl rfl (Nat.le_of_ble_eq_true rfl) rfl ?_
    refine z_getR 11 9 (x := (h2 0 9)) fX11_72 rfl dX11_letters_16 rfl rfl ?_
    refine z_w (fun w3 => ?_)
    refine z_getF 9 16 (x := ((h2 0 9) + 1)) fX11_126 rfl dX11_letters_19 (by omega) rfl ?_
    refine z_iload_n 1 dX11_letters_22 rfl rfl rfl ?_
    obtain ⟨i9, k⟩ := k
    refine z_aald16 (x := (h2 ((h2 0 9) + 1) l1)) dX11_letters_23 (by rw [zl9_1 w3]; exact i9) rfl rfl ?_
    refine z_w (fun w4 => ?_)
    refine z_callVi vX3_amount kX11_141 dX11_letters_24 rfl (zRo_d d) (as := []) (rest := [vr 11 0]) (Nat.le_of_ble_eq_true rfl) rfl rfl (zCi_mono (fun x5 h6 k => ?_) k)
    refine z_callVi vX11_granted kX11_116 dX11_letters_27 rfl (zRo_d d) (as := [vi x5]) (rest := []) (Nat.le_of_ble_eq_true rfl) rfl rfl (zCi_mono (fun x7 h8 k => ?_) k)
    exact z_ireturn rfl dX11_letters_30 ⟨_, rfl, k⟩
  · have k := kb q
    refine z_aload_n 0 dX11_letters_8 rfl rfl (Nat.le_of_ble_eq_true rfl) rfl ?_
    refine z_iconst dX11_letters_9 rfl ?_
    refine z_callVi vX11_refused kX11_84 dX11_letters_10 rfl (zRo_d d) (as := [vi 1]) (rest := []) (Nat.le_of_ble_eq_true rfl) rfl rfl (zCi_mono (fun x9 h10 k => ?_) k)
    exact z_ireturn rfl dX11_letters_13 ⟨_, rfl, k⟩
theorem eX11_letters {G : zG} {d : Nat} {K : Int → zH → Prop} {l1 : Int} {h : zH} (k : tX11_letters_0 G d K l1 h) : zCi G (d + 1) mX11_letters [vr 11 0, vi l1] h K := z_entry (by decide +kernel) (Nat.le_of_ble_eq_true rfl) rfl k
def tX11_has_0 (G : zG) (d : Nat) (K : Int → zH → Prop) (l1 : Int) (l2 : Int) (h : zH) : Prop := zTi G (d + 1) mX11_has K 0 [some (vr 11 0), some (vi l1), some (vi l2)] [] h
theorem bX11_has_0 {G : zG} {d : Nat} {K : Int → zH → Prop} {l1 : Int} {l2 : Int} {h : zH} (k : zCb G d mX11_isSet [vr 11 0, vi l1] h (fun x1 h2 => (x1 = true → zCb G d mX11_isIn [vi l2, vi 65536] h2 (fun x3 h4 => (x3 = true → ((0 : Int) ≤ l1 ∧ l1 < 12) ∧ zCb G d mX3_holds [vr 3 (h4 ((h4 0 9) + 1) l1), vi l2] h4 (fun x7 h8 => (x7 = false → zCi G d mX11_granted [vr 11 0, vi 0] h8 (fun x9 h10 => K x9 h10)) ∧ (x7 = true → zCi G d mX11_granted [vr 11 0, vi 1] h8 (fun x11 h12 => K x11 h12)))) ∧ (x3 = false → zCi G d mX11_refused [vr 11 0, vi 2] h4 (fun x13 h14 => K x13 h14)))) ∧ (x1 = false → zCi G d mX11_refused [vr 11 0, vi 1] h2 (fun x15 h16 => K x15 h16)))) : tX11_has_0 G d K l1 l2 h := by
  unfold tX11_has_0
  refine z_aload_n 0 dX11_has_0 rfl rfl (Nat.le_of_ble_eq_true rfl) rfl ?_
  refine z_iload_n 1 dX11_has_1 rfl rfl rfl ?_
  refine z_callVb vX11_isSet kX11_122 dX11_has_2 rfl (zRo_d d) (as := [vi l1]) (rest := []) (Nat.le_of_ble_eq_true rfl) rfl rfl (zCb_mono (fun x1 h2 k => ?_) k)
  obtain ⟨ka, kb⟩ := k
  refine z_ifb_ne (tgt := 14) dX11_has_5 rfl rfl ⟨fun q => ?_, fun q => ?_⟩
  · have k := ka q
    refine z_iload_n 2 dX11_has_14 rfl rfl rfl ?_
    refine z_ldc (x := 65536) cX11_144 rfl dX11_has_15 rfl ?_
    refine z_callSb sX11_isIn kX11_133 dX11_has_17 rfl (zRo_d d) (as := [vi l2, vi 65536]) (rest := []) (Nat.le_of_ble_eq_true rfl) rfl rfl (zCb_mono (fun x3 h4 k => ?_) k)
    obtain ⟨ka, kb⟩ := k
    refine z_ifb_ne (tgt := 29) dX11_has_20 rfl rfl ⟨fun q => ?_, fun q => ?_⟩
    · have k := ka q
      refine z_aload_n 0 dX11_has_29 rfl rfl (Nat.le_of_ble_eq_true rfl) rfl ?_
      refine z_aload_n 0 dX11_has_30 rfl rfl (Nat.le_of_ble_eq_true rfl) rfl ?_
      refine z_getR 11 9 (x := (h4 0 9)) fX11_72 rfl dX11_has_31 rfl rfl ?_
      refine z_w (fun w5 => ?_)
      refine z_getF 9 16 (x := ((h4 0 9) + 1)) fX11_126 rfl dX11_has_34 (by omega) rfl ?_
      refine z_iload_n 1 dX11_has_37 rfl rfl rfl ?_
      obtain ⟨i9, k⟩ := k
      refine z_aald16 (x := (h4 ((h4 0 9) + 1) l1)) dX11_has_38 (by rw [zl9_1 w5]; exact i9) rfl rfl ?_
      refine z_w (fun w6 => ?_)
      refine z_iload_n 2 dX11_has_39 rfl rfl rfl ?_
      refine z_callVb vX3_holds kX11_145 dX11_has_40 rfl (zRo_d d) (as := [vi l2]) (rest := [vr 11 0]) (Nat.le_of_ble_eq_true rfl) rfl rfl (zCb_mono (fun x7 h8 k => ?_) k)
      obtain ⟨ka, kb⟩ := k
      refine z_ifb_eq (tgt := 50) dX11_has_43 rfl rfl ⟨fun q => ?_, fun q => ?_⟩
      · have k := ka q
        refine z_iconst dX11_has_50 rfl ?_
        refine z_callVi vX11_granted kX11_116 dX11_has_51 rfl (zRo_d d) (as := [vi 0]) (rest := []) (Nat.le_of_ble_eq_true rfl) rfl rfl (zCi_mono (fun x9 h10 k => ?_) k)
        exact z_ireturn rfl dX11_has_54 ⟨_, rfl, k⟩
      · have k := kb q
        refine z_iconst dX11_has_46 rfl ?_
        refine z_goto (tgt := 51) dX11_has_47 rfl ?_
        refine z_callVi vX11_granted kX11_116 dX11_has_51 rfl (zRo_d d) (as := [vi 1]) (rest := []) (Nat.le_of_ble_eq_true rfl) rfl rfl (zCi_mono (fun x11 h12 k => ?_) k)
        exact z_ireturn rfl dX11_has_54 ⟨_, rfl, k⟩
    · have k := kb q
      refine z_aload_n 0 dX11_has_23 rfl rfl (Nat.le_of_ble_eq_true rfl) rfl ?_
      refine z_iconst dX11_has_24 rfl ?_
      refine z_callVi vX11_refused kX11_84 dX11_has_25 rfl (zRo_d d) (as := [vi 2]) (rest := []) (Nat.le_of_ble_eq_true rfl) rfl rfl (zCi_mono (fun x13 h14 k => ?_) k)
      exact z_ireturn rfl dX11_has_28 ⟨_, rfl, k⟩
  · have k := kb q
    refine z_aload_n 0 dX11_has_8 rfl rfl (Nat.le_of_ble_eq_true rfl) rfl ?_
    refine z_iconst dX11_has_9 rfl ?_
    refine z_callVi vX11_refused kX11_84 dX11_has_10 rfl (zRo_d d) (as := [vi 1]) (rest := []) (Nat.le_of_ble_eq_true rfl) rfl rfl (zCi_mono (fun x15 h16 k => ?_) k)
    exact z_ireturn rfl dX11_has_13 ⟨_, rfl, k⟩
theorem eX11_has {G : zG} {d : Nat} {K : Int → zH → Prop} {l1 : Int} {l2 : Int} {h : zH} (k : tX11_has_0 G d K l1 l2 h) : zCi G (d + 1) mX11_has [vr 11 0, vi l1, vi l2] h K := z_entry (by decide +kernel) (Nat.le_of_ble_eq_true rfl) rfl k
def tX11_mixed_0 (G : zG) (d : Nat) (K : Int → zH → Prop) (l1 : Int) (l2 : Int) (l3 : Int) (h : zH) : Prop := zTi G (d + 1) mX11_mixed K 0 [some (vr 11 0), some (vi l1), some (vi l2), some (vi l3), none] [] h
theorem bX11_mixed_0 {G : zG} {d : Nat} {K : Int → zH → Prop} {l1 : Int} {l2 : Int} {l3 : Int} {h : zH} (k : zCi G d mX11_mix [vr 11 0, vi l1, vi l2, vi l3] h (fun x1 h2 => zR x1 ∧ (x1 = 0 → zCi G d mX3_amount [vr 3 247] h2 (fun x3 h4 => zCi G d mX11_granted [vr 11 0, vi x3] h4 (fun x5 h6 => K x5 h6))) ∧ (¬ x1 = 0 → zCi G d mX11_refused [vr 11 0, vi x1] h2 (fun x7 h8 => K x7 h8)))) : tX11_mixed_0 G d K l1 l2 l3 h := by
  unfold tX11_mixed_0
  refine z_aload_n 0 dX11_mixed_0 rfl rfl (Nat.le_of_ble_eq_true rfl) rfl ?_
  refine z_iload_n 1 dX11_mixed_1 rfl rfl rfl ?_
  refine z_iload_n 2 dX11_mixed_2 rfl rfl rfl ?_
  refine z_iload_n 3 dX11_mixed_3 rfl rfl rfl ?_
  refine z_callVi vX11_mix kX11_148 dX11_mixed_4 rfl (zRo_d d) (as := [vi l1, vi l2, vi l3]) (rest := []) (Nat.le_of_ble_eq_true rfl) rfl rfl (zCi_mono (fun x1 h2 k => ?_) k)
  refine z_istore dX11_mixed_7 (Nat.le_of_ble_eq_true rfl) (L' := [some (vr 11 0), some (vi l1), some (vi l2), some (vi l3), some (vi x1)]) rfl rfl ?_
  refine z_iload dX11_mixed_9 rfl rfl ?_
  obtain ⟨r1, ka, kb⟩ := k
  refine z_if_eq (tgt := 23) dX11_mixed_11 rfl r1 rfl ⟨fun q => ?_, fun q => ?_⟩
  · have k := ka q
    refine z_aload_n 0 dX11_mixed_23 rfl rfl (Nat.le_of_ble_eq_true rfl) rfl ?_
    refine z_aload_n 0 dX11_mixed_24 rfl rfl (Nat.le_of_ble_eq_true rfl) rfl ?_
    refine z_getF 11 3 (x := 247) fX11_65 rfl dX11_mixed_25 rfl rfl ?_
    refine z_callVi vX3_amount kX11_141 dX11_mixed_28 rfl (zRo_d d) (as := []) (rest := [vr 11 0]) (Nat.le_of_ble_eq_true rfl) rfl rfl (zCi_mono (fun x3 h4 k => ?_) k)
    refine z_callVi vX11_granted kX11_116 dX11_mixed_31 rfl (zRo_d d) (as := [vi x3]) (rest := []) (Nat.le_of_ble_eq_true rfl) rfl rfl (zCi_mono (fun x5 h6 k => ?_) k)
    exact z_ireturn rfl dX11_mixed_34 ⟨_, rfl, k⟩
  · have k := kb q
    refine z_aload_n 0 dX11_mixed_14 rfl rfl (Nat.le_of_ble_eq_true rfl) rfl ?_
    refine z_iload dX11_mixed_15 rfl rfl ?_
    refine z_callVi vX11_refused kX11_84 dX11_mixed_17 rfl (zRo_d d) (as := [vi x1]) (rest := []) (Nat.le_of_ble_eq_true rfl) rfl rfl (zCi_mono (fun x7 h8 k => ?_) k)
    refine z_goto (tgt := 34) dX11_mixed_20 rfl ?_
    exact z_ireturn rfl dX11_mixed_34 ⟨_, rfl, k⟩
theorem eX11_mixed {G : zG} {d : Nat} {K : Int → zH → Prop} {l1 : Int} {l2 : Int} {l3 : Int} {h : zH} (k : tX11_mixed_0 G d K l1 l2 l3 h) : zCi G (d + 1) mX11_mixed [vr 11 0, vi l1, vi l2, vi l3] h K := z_entry (by decide +kernel) (Nat.le_of_ble_eq_true rfl) rfl k
def tX11_mixedRanges_0 (G : zG) (d : Nat) (K : Int → zH → Prop) (l1 : Int) (l2 : Int) (l3 : Int) (h : zH) : Prop := zTi G (d + 1) mX11_mixedRanges K 0 [some (vr 11 0), some (vi l1), some (vi l2), some (vi l3), none] [] h
theorem bX11_mixedRanges_0 {G : zG} {d : Nat} {K : Int → zH → Prop} {l1 : Int} {l2 : Int} {l3 : Int} {h : zH} (k : zCi G d mX11_mix [vr 11 0, vi l1, vi l2, vi l3] h (fun x1 h2 => zR x1 ∧ (x1 = 0 → zCi G d mX3_rangeCount [vr 3 247] h2 (fun x3 h4 => zCi G d mX11_granted [vr 11 0, vi x3] h4 (fun x5 h6 => K x5 h6))) ∧ (¬ x1 = 0 → zCi G d mX11_refused [vr 11 0, vi x1] h2 (fun x7 h8 => K x7 h8)))) : tX11_mixedRanges_0 G d K l1 l2 l3 h := by
  unfold tX11_mixedRanges_0
  refine z_aload_n 0 dX11_mixedRanges_0 rfl rfl (Nat.le_of_ble_eq_true rfl) rfl ?_
  refine z_iload_n 1 dX11_mixedRanges_1 rfl rfl rfl ?_
  refine z_iload_n 2 dX11_mixedRanges_2 rfl rfl rfl ?_
  refine z_iload_n 3 dX11_mixedRanges_3 rfl rfl rfl ?_
  refine z_callVi vX11_mix kX11_148 dX11_mixedRanges_4 rfl (zRo_d d) (as := [vi l1, vi l2, vi l3]) (rest := []) (Nat.le_of_ble_eq_true rfl) rfl rfl (zCi_mono (fun x1 h2 k => ?_) k)
  refine z_istore dX11_mixedRanges_7 (Nat.le_of_ble_eq_true rfl) (L' := [some (vr 11 0), some (vi l1), some (vi l2), some (vi l3), some (vi x1)]) rfl rfl ?_
  refine z_iload dX11_mixedRanges_9 rfl rfl ?_
  obtain ⟨r1, ka, kb⟩ := k
  refine z_if_eq (tgt := 23) dX11_mixedRanges_11 rfl r1 rfl ⟨fun q => ?_, fun q => ?_⟩
  · have k := ka q
    refine z_aload_n 0 dX11_mixedRanges_23 rfl rfl (Nat.le_of_ble_eq_true rfl) rfl ?_
    refine z_aload_n 0 dX11_mixedRanges_24 rfl rfl (Nat.le_of_ble_eq_true rfl) rfl ?_
    refine z_getF 11 3 (x := 247) fX11_65 rfl dX11_mixedRanges_25 rfl rfl ?_
    refine z_callVi vX3_rangeCount kX11_129 dX11_mixedRanges_28 rfl (zRo_d d) (as := []) (rest := [vr 11 0]) (Nat.le_of_ble_eq_true rfl) rfl rfl (zCi_mono (fun x3 h4 k => ?_) k)
    refine z_callVi vX11_granted kX11_116 dX11_mixedRanges_31 rfl (zRo_d d) (as := [vi x3]) (rest := []) (Nat.le_of_ble_eq_true rfl) rfl rfl (zCi_mono (fun x5 h6 k => ?_) k)
    exact z_ireturn rfl dX11_mixedRanges_34 ⟨_, rfl, k⟩
  · have k := kb q
    refine z_aload_n 0 dX11_mixedRanges_14 rfl rfl (Nat.le_of_ble_eq_true rfl) rfl ?_
    refine z_iload dX11_mixedRanges_15 rfl rfl ?_
    refine z_callVi vX11_refused kX11_84 dX11_mixedRanges_17 rfl (zRo_d d) (as := [vi x1]) (rest := []) (Nat.le_of_ble_eq_true rfl) rfl rfl (zCi_mono (fun x7 h8 k => ?_) k)
    refine z_goto (tgt := 34) dX11_mixedRanges_20 rfl ?_
    exact z_ireturn rfl dX11_mixedRanges_34 ⟨_, rfl, k⟩
theorem eX11_mixedRanges {G : zG} {d : Nat} {K : Int → zH → Prop} {l1 : Int} {l2 : Int} {l3 : Int} {h : zH} (k : tX11_mixedRanges_0 G d K l1 l2 l3 h) : zCi G (d + 1) mX11_mixedRanges [vr 11 0, vi l1, vi l2, vi l3] h K := z_entry (by decide +kernel) (Nat.le_of_ble_eq_true rfl) rfl k
def tX11_mixedRange_0 (G : zG) (d : Nat) (K : Int → zH → Prop) (l1 : Int) (l2 : Int) (l3 : Int) (l4 : Int) (l5 : Bool) (h : zH) : Prop := zTi G (d + 1) mX11_mixedRange K 0 [some (vr 11 0), some (vi l1), some (vi l2), some (vi l3), some (vi l4), some (vi (bi l5)), none] [] h
theorem bX11_mixedRange_0 {G : zG} {d : Nat} {K : Int → zH → Prop} {l1 : Int} {l2 : Int} {l3 : Int} {l4 : Int} {l5 : Bool} {h : zH} (k : zCi G d mX11_mix [vr 11 0, vi l1, vi l2, vi l3] h (fun x1 h2 => zR x1 ∧ (x1 = 0 → zCi G d mX3_rangeCount [vr 3 247] h2 (fun x3 h4 => zCb G d mX11_isIn [vi l4, vi x3] h4 (fun x5 h6 => (x5 = true → zCi G d mX3_bound [vr 3 247, vi l4, vi (bi l5)] h6 (fun x7 h8 => zCi G d mX11_granted [vr 11 0, vi x7] h8 (fun x9 h10 => K x9 h10))) ∧ (x5 = false → zCi G d mX11_refused [vr 11 0, vi 1] h6 (fun x11 h12 => K x11 h12))))) ∧ (¬ x1 = 0 → zCi G d mX11_refused [vr 11 0, vi x1] h2 (fun x13 h14 => K x13 h14)))) : tX11_mixedRange_0 G d K l1 l2 l3 l4 l5 h := by
  unfold tX11_mixedRange_0
  refine z_aload_n 0 dX11_mixedRange_0 rfl rfl (Nat.le_of_ble_eq_true rfl) rfl ?_
  refine z_iload_n 1 dX11_mixedRange_1 rfl rfl rfl ?_
  refine z_iload_n 2 dX11_mixedRange_2 rfl rfl rfl ?_
  refine z_iload_n 3 dX11_mixedRange_3 rfl rfl rfl ?_
  refine z_callVi vX11_mix kX11_148 dX11_mixedRange_4 rfl (zRo_d d) (as := [vi l1, vi l2, vi l3]) (rest := []) (Nat.le_of_ble_eq_true rfl) rfl rfl (zCi_mono (fun x1 h2 k => ?_) k)
  refine z_istore dX11_mixedRange_7 (Nat.le_of_ble_eq_true rfl) (L' := [some (vr 11 0), some (vi l1), some (vi l2), some (vi l3), some (vi l4), some (vi (bi l5)), some (vi x1)]) rfl rfl ?_
  refine z_iload dX11_mixedRange_9 rfl rfl ?_
  obtain ⟨r1, ka, kb⟩ := k
  refine z_if_eq (tgt := 21) dX11_mixedRange_11 rfl r1 rfl ⟨fun q => ?_, fun q => ?_⟩
  · have k := ka q
    refine z_iload dX11_mixedRange_21 rfl rfl ?_
    refine z_aload_n 0 dX11_mixedRange_23 rfl rfl (Nat.le_of_ble_eq_true rfl) rfl ?_
    refine z_getF 11 3 (x := 247) fX11_65 rfl dX11_mixedRange_24 rfl rfl ?_
    refine z_callVi vX3_rangeCount kX11_129 dX11_mixedRange_27 rfl (zRo_d d) (as := []) (rest := [vi l4]) (Nat.le_of_ble_eq_true rfl) rfl rfl (zCi_mono (fun x3 h4 k => ?_) k)
    refine z_callSb sX11_isIn kX11_133 dX11_mixedRange_30 rfl (zRo_d d) (as := [vi l4, vi x3]) (rest := []) (Nat.le_of_ble_eq_true rfl) rfl rfl (zCb_mono (fun x5 h6 k => ?_) k)
    obtain ⟨ka, kb⟩ := k
    refine z_ifb_ne (tgt := 42) dX11_mixedRange_33 rfl rfl ⟨fun q => ?_, fun q => ?_⟩
    · have k := ka q
      refine z_aload_n 0 dX11_mixedRange_42 rfl rfl (Nat.le_of_ble_eq_true rfl) rfl ?_
      refine z_aload_n 0 dX11_mixedRange_43 rfl rfl (Nat.le_of_ble_eq_true rfl) rfl ?_
      refine z_getF 11 3 (x := 247) fX11_65 rfl dX11_mixedRange_44 rfl rfl ?_
      refine z_iload dX11_mixedRange_47 rfl rfl ?_
      refine z_iload dX11_mixedRange_49 rfl rfl ?_
      refine z_callVi vX3_bound kX11_137 dX11_mixedRange_51 rfl (zRo_d d) (as := [vi l4, vi (bi l5)]) (rest := [vr 11 0]) (Nat.le_of_ble_eq_true rfl) rfl rfl (zCi_mono (fun x7 h8 k => ?_) k)
      refine z_callVi vX11_granted kX11_116 dX11_mixedRange_54 rfl (zRo_d d) (as := [vi x7]) (rest := []) (Nat.le_of_ble_eq_true rfl) rfl rfl (zCi_mono (fun x9 h10 k => ?_) k)
      exact z_ireturn rfl dX11_mixedRange_57 ⟨_, rfl, k⟩
    · have k := kb q
      refine z_aload_n 0 dX11_mixedRange_36 rfl rfl (Nat.le_of_ble_eq_true rfl) rfl ?_
      refine z_iconst dX11_mixedRange_37 rfl ?_
      refine z_callVi vX11_refused kX11_84 dX11_mixedRange_38 rfl (zRo_d d) (as := [vi 1]) (rest := []) (Nat.le_of_ble_eq_true rfl) rfl rfl (zCi_mono (fun x11 h12 k => ?_) k)
      exact z_ireturn rfl dX11_mixedRange_41 ⟨_, rfl, k⟩
  · have k := kb q
    refine z_aload_n 0 dX11_mixedRange_14 rfl rfl (Nat.le_of_ble_eq_true rfl) rfl ?_
    refine z_iload dX11_mixedRange_15 rfl rfl ?_
    refine z_callVi vX11_refused kX11_84 dX11_mixedRange_17 rfl (zRo_d d) (as := [vi x1]) (rest := []) (Nat.le_of_ble_eq_true rfl) rfl rfl (zCi_mono (fun x13 h14 k => ?_) k)
    exact z_ireturn rfl dX11_mixedRange_20 ⟨_, rfl, k⟩
theorem eX11_mixedRange {G : zG} {d : Nat} {K : Int → zH → Prop} {l1 : Int} {l2 : Int} {l3 : Int} {l4 : Int} {l5 : Bool} {h : zH} (k : tX11_mixedRange_0 G d K l1 l2 l3 l4 l5 h) : zCi G (d + 1) mX11_mixedRange [vr 11 0, vi l1, vi l2, vi l3, vi l4, vi (bi l5)] h K := z_entry (by decide +kernel) (Nat.le_of_ble_eq_true rfl) rfl k
def tX11_size_0 (G : zG) (d : Nat) (K : Int → zH → Prop) (l1 : Int) (l2 : Int) (h : zH) : Prop := zTi G (d + 1) mX11_size K 0 [some (vr 11 0), some (vi l1), some (vi l2)] [] h
theorem bX11_size_0 {G : zG} {d : Nat} {K : Int → zH → Prop} {l1 : Int} {l2 : Int} {h : zH} (k : zCb G d mX11_isMachine [vr 11 0, vi l1] h (fun x1 h2 => (x1 = false → zCi G d mX11_refused [vr 11 0, vi 1] h2 (fun x3 h4 => K x3 h4)) ∧ (x1 = true → zCb G d mX11_isIn [vi l2, vi 7] h2 (fun x5 h6 => (x5 = true → ((0 : Int) ≤ l1 ∧ l1 < 10) ∧ zCi G d mX4_howMany [vr 4 (h6 3 l1), vi l2] h6 (fun x8 h9 => zCi G d mX11_granted [vr 11 0, vi x8] h9 (fun x10 h11 => K x10 h11))) ∧ (x5 = false → zCi G d mX11_refused [vr 11 0, vi 1] h6 (fun x12 h13 => K x12 h13)))))) : tX11_size_0 G d K l1 l2 h := by
  unfold tX11_size_0
  refine z_aload_n 0 dX11_size_0 rfl rfl (Nat.le_of_ble_eq_true rfl) rfl ?_
  refine z_iload_n 1 dX11_size_1 rfl rfl rfl ?_
  refine z_callVb vX11_isMachine kX11_152 dX11_size_2 rfl (zRo_d d) (as := [vi l1]) (rest := []) (Nat.le_of_ble_eq_true rfl) rfl rfl (zCb_mono (fun x1 h2 k => ?_) k)
  obtain ⟨ka, kb⟩ := k
  refine z_ifb_eq (tgt := 17) dX11_size_5 rfl rfl ⟨fun q => ?_, fun q => ?_⟩
  · have k := ka q
    refine z_aload_n 0 dX11_size_17 rfl rfl (Nat.le_of_ble_eq_true rfl) rfl ?_
    refine z_iconst dX11_size_18 rfl ?_
    refine z_callVi vX11_refused kX11_84 dX11_size_19 rfl (zRo_d d) (as := [vi 1]) (rest := []) (Nat.le_of_ble_eq_true rfl) rfl rfl (zCi_mono (fun x3 h4 k => ?_) k)
    exact z_ireturn rfl dX11_size_22 ⟨_, rfl, k⟩
  · have k := kb q
    refine z_iload_n 2 dX11_size_8 rfl rfl rfl ?_
    refine z_bipush dX11_size_9 rfl rfl ?_
    refine z_callSb sX11_isIn kX11_133 dX11_size_11 rfl (zRo_d d) (as := [vi l2, vi 7]) (rest := []) (Nat.le_of_ble_eq_true rfl) rfl rfl (zCb_mono (fun x5 h6 k => ?_) k)
    obtain ⟨ka, kb⟩ := k
    refine z_ifb_ne (tgt := 23) dX11_size_14 rfl rfl ⟨fun q => ?_, fun q => ?_⟩
    · have k := ka q
      refine z_aload_n 0 dX11_size_23 rfl rfl (Nat.le_of_ble_eq_true rfl) rfl ?_
      refine z_aload_n 0 dX11_size_24 rfl rfl (Nat.le_of_ble_eq_true rfl) rfl ?_
      refine z_getF 11 17 (x := 3) fX11_19 rfl dX11_size_25 rfl rfl ?_
      refine z_iload_n 1 dX11_size_28 rfl rfl rfl ?_
      obtain ⟨i9, k⟩ := k
      refine z_aald17 (x := (h6 3 l1)) dX11_size_29 (by rw [zl_3]; exact i9) rfl rfl ?_
      refine z_w (fun w7 => ?_)
      refine z_iload_n 2 dX11_size_30 rfl rfl rfl ?_
      refine z_callVi vX4_howMany kX11_155 dX11_size_31 rfl (zRo_d d) (as := [vi l2]) (rest := [vr 11 0]) (Nat.le_of_ble_eq_true rfl) rfl rfl (zCi_mono (fun x8 h9 k => ?_) k)
      refine z_callVi vX11_granted kX11_116 dX11_size_34 rfl (zRo_d d) (as := [vi x8]) (rest := []) (Nat.le_of_ble_eq_true rfl) rfl rfl (zCi_mono (fun x10 h11 k => ?_) k)
      exact z_ireturn rfl dX11_size_37 ⟨_, rfl, k⟩
    · have k := kb q
      refine z_aload_n 0 dX11_size_17 rfl rfl (Nat.le_of_ble_eq_true rfl) rfl ?_
      refine z_iconst dX11_size_18 rfl ?_
      refine z_callVi vX11_refused kX11_84 dX11_size_19 rfl (zRo_d d) (as := [vi 1]) (rest := []) (Nat.le_of_ble_eq_true rfl) rfl rfl (zCi_mono (fun x12 h13 k => ?_) k)
      exact z_ireturn rfl dX11_size_22 ⟨_, rfl, k⟩
theorem eX11_size {G : zG} {d : Nat} {K : Int → zH → Prop} {l1 : Int} {l2 : Int} {h : zH} (k : tX11_size_0 G d K l1 l2 h) : zCi G (d + 1) mX11_size [vr 11 0, vi l1, vi l2] h K := z_entry (by decide +kernel) (Nat.le_of_ble_eq_true rfl) rfl k
def tX11_edge_0 (G : zG) (d : Nat) (K : Int → zH → Prop) (l1 : Int) (l2 : Int) (l3 : Int) (h : zH) : Prop := zTi G (d + 1) mX11_edge K 0 [some (vr 11 0), some (vi l1), some (vi l2), some (vi l3), none] [] h
theorem bX11_edge_0 {G : zG} {d : Nat} {K : Int → zH → Prop} {l1 : Int} {l2 : Int} {l3 : Int} {h : zH} (k : zCb G d mX11_isMachine [vr 11 0, vi l1] h (fun x1 h2 => (x1 = false → zCi G d mX11_refused [vr 11 0, vi 1] h2 (fun x3 h4 => K x3 h4)) ∧ (x1 = true → ((0 : Int) ≤ l1 ∧ l1 < 10) ∧ zCb G d mX11_isIn [vi l2, vi (h2 (h2 3 l1) 9)] h2 (fun x6 h7 => (x6 = false → zCi G d mX11_refused [vr 11 0, vi 1] h7 (fun x8 h9 => K x8 h9)) ∧ (x6 = true → zCb G d mX11_isIn [vi l3, vi 4] h7 (fun x10 h11 => (x10 = true → ((0 : Int) ≤ l1 ∧ l1 < 10) ∧ zR l3 ∧ (l3 < 0 ∨ 2 < l3 → zCi G d mX4_edgeLetters [vr 4 (h11 3 l1), vi l2] h11 (fun x13 h14 => zCi G d mX11_granted [vr 11 0, vi x13] h14 (fun x15 h16 => K x15 h16))) ∧ (l3 = 0 → ((0 : Int) ≤ l2 ∧ l2 < 160) ∧ zCi G d mX11_granted [vr 11 0, vi (h11 ((h11 3 l1) + 1) l2)] h11 (fun x17 h18 => K x17 h18)) ∧ (l3 = 1 → ((0 : Int) ≤ l2 ∧ l2 < 160) ∧ zCi G d mX11_granted [vr 11 0, vi (h11 ((h11 3 l1) + 2) l2)] h11 (fun x19 h20 => K x19 h20)) ∧ (l3 = 2 → zCi G d mX4_edgeRanges [vr 4 (h11 3 l1), vi l2] h11 (fun x21 h22 => zCi G d mX11_granted [vr 11 0, vi x21] h22 (fun x23 h24 => K x23 h24)))) ∧ (x10 = false → zCi G d mX11_refused [vr 11 0, vi 1] h11 (fun x25 h26 => K x25 h26)))))))) : tX11_edge_0 G d K l1 l2 l3 h := by
  unfold tX11_edge_0
  refine z_aload_n 0 dX11_edge_0 rfl rfl (Nat.le_of_ble_eq_true rfl) rfl ?_
  refine z_iload_n 1 dX11_edge_1 rfl rfl rfl ?_
  refine z_callVb vX11_isMachine kX11_152 dX11_edge_2 rfl (zRo_d d) (as := [vi l1]) (rest := []) (Nat.le_of_ble_eq_true rfl) rfl rfl (zCb_mono (fun x1 h2 k => ?_) k)
  obtain ⟨ka, kb⟩ := k
  refine z_ifb_eq (tgt := 32) dX11_edge_5 rfl rfl ⟨fun q => ?_, fun q => ?_⟩
  · have k := ka q
    refine z_aload_n 0 dX11_edge_32 rfl rfl (Nat.le_of_ble_eq_true rfl) rfl ?_
    refine z_iconst dX11_edge_33 rfl ?_
    refine z_callVi vX11_refused kX11_84 dX11_edge_34 rfl (zRo_d d) (as := [vi 1]) (rest := []) (Nat.le_of_ble_eq_true rfl) rfl rfl (zCi_mono (fun x3 h4 k => ?_) k)
    exact z_ireturn rfl dX11_edge_37 ⟨_, rfl, k⟩
  · have k := kb q
    refine z_iload_n 2 dX11_edge_8 rfl rfl rfl ?_
    refine z_aload_n 0 dX11_edge_9 rfl rfl (Nat.le_of_ble_eq_true rfl) rfl ?_
    refine z_getF 11 17 (x := 3) fX11_19 rfl dX11_edge_10 rfl rfl ?_
    refine z_iload_n 1 dX11_edge_13 rfl rfl rfl ?_
    obtain ⟨i9, k⟩ := k
    refine z_aald17 (x := (h2 3 l1)) dX11_edge_14 (by rw [zl_3]; exact i9) rfl rfl ?_
    refine z_w (fun w5 => ?_)
    refine z_getI 4 (x := (h2 (h2 3 l1) 9)) fX11_158 rfl dX11_edge_15 rfl rfl ?_
    refine z_callSb sX11_isIn kX11_133 dX11_edge_18 rfl (zRo_d d) (as := [vi l2, vi (h2 (h2 3 l1) 9)]) (rest := []) (Nat.le_of_ble_eq_true rfl) rfl rfl (zCb_mono (fun x6 h7 k => ?_) k)
    obtain ⟨ka, kb⟩ := k
    refine z_ifb_eq (tgt := 32) dX11_edge_21 rfl rfl ⟨fun q => ?_, fun q => ?_⟩
    · have k := ka q
      refine z_aload_n 0 dX11_edge_32 rfl rfl (Nat.le_of_ble_eq_true rfl) rfl ?_
      refine z_iconst dX11_edge_33 rfl ?_
      refine z_callVi vX11_refused kX11_84 dX11_edge_34 rfl (zRo_d d) (as := [vi 1]) (rest := []) (Nat.le_of_ble_eq_true rfl) rfl rfl (zCi_mono (fun x8 h9 k => ?_) k)
      exact z_ireturn rfl dX11_edge_37 ⟨_, rfl, k⟩
    · have k := kb q
      refine z_iload_n 3 dX11_edge_24 rfl rfl rfl ?_
      refine z_iconst dX11_edge_25 rfl ?_
      refine z_callSb sX11_isIn kX11_133 dX11_edge_26 rfl (zRo_d d) (as := [vi l3, vi 4]) (rest := []) (Nat.le_of_ble_eq_true rfl) rfl rfl (zCb_mono (fun x10 h11 k => ?_) k)
      obtain ⟨ka, kb⟩ := k
      refine z_ifb_ne (tgt := 38) dX11_edge_29 rfl rfl ⟨fun q => ?_, fun q => ?_⟩
      · have k := ka q
        refine z_aload_n 0 dX11_edge_38 rfl rfl (Nat.le_of_ble_eq_true rfl) rfl ?_
        refine z_getF 11 17 (x := 3) fX11_19 rfl dX11_edge_39 rfl rfl ?_
        refine z_iload_n 1 dX11_edge_42 rfl rfl rfl ?_
        obtain ⟨i9, k⟩ := k
        refine z_aald17 (x := (h11 3 l1)) dX11_edge_43 (by rw [zl_3]; exact i9) rfl rfl ?_
        refine z_w (fun w12 => ?_)
        refine z_astore dX11_edge_44 (Nat.le_of_ble_eq_true rfl) (Nat.le_of_ble_eq_true rfl) (L' := [some (vr 11 0), some (vi l1), some (vi l2), some (vi l3), some (vr 4 (h11 3 l1))]) rfl rfl ?_
        refine z_iload_n 3 dX11_edge_46 rfl rfl rfl ?_
        obtain ⟨r1, kd, k_0, k_1, k_2⟩ := k
        refine z_table (dt := 107) (ts := [72, 84, 96]) dX11_edge_47 r1 rfl rfl rfl ⟨fun q => ?_, fun i t hi q => ?_⟩
        · have k := kd q
          refine z_aload_n 0 dX11_edge_107 rfl rfl (Nat.le_of_ble_eq_true rfl) rfl ?_
          refine z_aload dX11_edge_108 rfl (Nat.le_of_ble_eq_true rfl) rfl ?_
          refine z_iload_n 2 dX11_edge_110 rfl rfl rfl ?_
          refine z_callVi vX4_edgeLetters kX11_170 dX11_edge_111 rfl (zRo_d d) (as := [vi l2]) (rest := [vr 11 0]) (Nat.le_of_ble_eq_true rfl) rfl rfl (zCi_mono (fun x13 h14 k => ?_) k)
          refine z_callVi vX11_granted kX11_116 dX11_edge_114 rfl (zRo_d d) (as := [vi x13]) (rest := []) (Nat.le_of_ble_eq_true rfl) rfl rfl (zCi_mono (fun x15 h16 k => ?_) k)
          exact z_ireturn rfl dX11_edge_117 ⟨_, rfl, k⟩
        · match i, hi, q with
          | 0, hi, q =>
            cases hi
            have k := k_0 (by omega)
            refine z_aload_n 0 dX11_edge_72 rfl rfl (Nat.le_of_ble_eq_true rfl) rfl ?_
            refine z_aload dX11_edge_73 rfl (Nat.le_of_ble_eq_true rfl) rfl ?_
            refine z_getF 4 13 (x := ((h11 3 l1) + 1)) fX11_161 rfl dX11_edge_75 (by omega) rfl ?_
            refine z_iload_n 2 dX11_edge_78 rfl rfl rfl ?_
            obtain ⟨i9, k⟩ := k
            refine z_iald (x := (h11 ((h11 3 l1) + 1) l2)) dX11_edge_79 (by rw [zl4_1 w12]; exact i9) rfl rfl ?_
            refine z_callVi vX11_granted kX11_116 dX11_edge_80 rfl (zRo_d d) (as := [vi (h11 ((h11 3 l1) + 1) l2)]) (rest := []) (Nat.le_of_ble_eq_true rfl) rfl rfl (zCi_mono (fun x17 h18 k => ?_) k)
            exact z_ireturn rfl dX11_edge_83 ⟨_, rfl, k⟩
          | 1, hi, q =>
            cases hi
            have k := k_1 (by omega)
            refine z_aload_n 0 dX11_edge_84 rfl rfl (Nat.le_of_ble_eq_true rfl) rfl ?_
            refine z_aload dX11_edge_85 rfl (Nat.le_of_ble_eq_true rfl) rfl ?_
            refine z_getF 4 13 (x := ((h11 3 l1) + 2)) fX11_164 rfl dX11_edge_87 (by omega) rfl ?_
            refine z_iload_n 2 dX11_edge_90 rfl rfl rfl ?_
            obtain ⟨i9, k⟩ := k
            refine z_iald (x := (h11 ((h11 3 l1) + 2) l2)) dX11_edge_91 (by rw [zl4_2 w12]; exact i9) rfl rfl ?_
            refine z_callVi vX11_granted kX11_116 dX11_edge_92 rfl (zRo_d d) (as := [vi (h11 ((h11 3 l1) + 2) l2)]) (rest := []) (Nat.le_of_ble_eq_true rfl) rfl rfl (zCi_mono (fun x19 h20 k => ?_) k)
            exact z_ireturn rfl dX11_edge_95 ⟨_, rfl, k⟩
          | 2, hi, q =>
            cases hi
            have k := k_2 (by omega)
            refine z_aload_n 0 dX11_edge_96 rfl rfl (Nat.le_of_ble_eq_true rfl) rfl ?_
            refine z_aload dX11_edge_97 rfl (Nat.le_of_ble_eq_true rfl) rfl ?_
            refine z_iload_n 2 dX11_edge_99 rfl rfl rfl ?_
            refine z_callVi vX4_edgeRanges kX11_167 dX11_edge_100 rfl (zRo_d d) (as := [vi l2]) (rest := [vr 11 0]) (Nat.le_of_ble_eq_true rfl) rfl rfl (zCi_mono (fun x21 h22 k => ?_) k)
            refine z_callVi vX11_granted kX11_116 dX11_edge_103 rfl (zRo_d d) (as := [vi x21]) (rest := []) (Nat.le_of_ble_eq_true rfl) rfl rfl (zCi_mono (fun x23 h24 k => ?_) k)
            exact z_ireturn rfl dX11_edge_106 ⟨_, rfl, k⟩
          | i + 3, hi, q =>
            exact absurd hi (by simp)
      · have k := kb q
        refine z_aload_n 0 dX11_edge_32 rfl rfl (Nat.le_of_ble_eq_true rfl) rfl ?_
        refine z_iconst dX11_edge_33 rfl ?_
        refine z_callVi vX11_refused kX11_84 dX11_edge_34 rfl (zRo_d d) (as := [vi 1]) (rest := []) (Nat.le_of_ble_eq_true rfl) rfl rfl (zCi_mono (fun x25 h26 k => ?_) k)
        exact z_ireturn rfl dX11_edge_37 ⟨_, rfl, k⟩
theorem eX11_edge {G : zG} {d : Nat} {K : Int → zH → Prop} {l1 : Int} {l2 : Int} {l3 : Int} {h : zH} (k : tX11_edge_0 G d K l1 l2 l3 h) : zCi G (d + 1) mX11_edge [vr 11 0, vi l1, vi l2, vi l3] h K := z_entry (by decide +kernel) (Nat.le_of_ble_eq_true rfl) rfl k
def tX11_edgeRange_0 (G : zG) (d : Nat) (K : Int → zH → Prop) (l1 : Int) (l2 : Int) (l3 : Int) (l4 : Bool) (h : zH) : Prop := zTi G (d + 1) mX11_edgeRange K 0 [some (vr 11 0), some (vi l1), some (vi l2), some (vi l3), some (vi (bi l4))] [] h
theorem bX11_edgeRange_0 {G : zG} {d : Nat} {K : Int → zH → Prop} {l1 : Int} {l2 : Int} {l3 : Int} {l4 : Bool} {h : zH} (k : zCb G d mX11_isMachine [vr 11 0, vi l1] h (fun x1 h2 => (x1 = false → zCi G d mX11_refused [vr 11 0, vi 1] h2 (fun x3 h4 => K x3 h4)) ∧ (x1 = true → ((0 : Int) ≤ l1 ∧ l1 < 10) ∧ zCb G d mX11_isIn [vi l2, vi (h2 (h2 3 l1) 9)] h2 (fun x6 h7 => (x6 = false → zCi G d mX11_refused [vr 11 0, vi 1] h7 (fun x8 h9 => K x8 h9)) ∧ (x6 = true → ((0 : Int) ≤ l1 ∧ l1 < 10) ∧ zCi G d mX4_edgeRanges [vr 4 (h7 3 l1), vi l2] h7 (fun x11 h12 => zCb G d mX11_isIn [vi l3, vi x11] h12 (fun x13 h14 => (x13 = true → ((0 : Int) ≤ l1 ∧ l1 < 10) ∧ zCi G d mX4_edgeBound [vr 4 (h14 3 l1), vi l2, vi l3, vi (bi l4)] h14 (fun x16 h17 => zCi G d mX11_granted [vr 11 0, vi x16] h17 (fun x18 h19 => K x18 h19))) ∧ (x13 = false → zCi G d mX11_refused [vr 11 0, vi 1] h14 (fun x20 h21 => K x20 h21))))))))) : tX11_edgeRange_0 G d K l1 l2 l3 l4 h := by
  unfold tX11_edgeRange_0
  refine z_aload_n 0 dX11_edgeRange_0 rfl rfl (Nat.le_of_ble_eq_true rfl) rfl ?_
  refine z_iload_n 1 dX11_edgeRange_1 rfl rfl rfl ?_
  refine z_callVb vX11_isMachine kX11_152 dX11_edgeRange_2 rfl (zRo_d d) (as := [vi l1]) (rest := []) (Nat.le_of_ble_eq_true rfl) rfl rfl (zCb_mono (fun x1 h2 k => ?_) k)
  obtain ⟨ka, kb⟩ := k
  refine z_ifb_eq (tgt := 41) dX11_edgeRange_5 rfl rfl ⟨fun q => ?_, fun q => ?_⟩
  · have k := ka q
    refine z_aload_n 0 dX11_edgeRange_41 rfl rfl (Nat.le_of_ble_eq_true rfl) rfl ?_
    refine z_iconst dX11_edgeRange_42 rfl ?_
    refine z_callVi vX11_refused kX11_84 dX11_edgeRange_43 rfl (zRo_d d) (as := [vi 1]) (rest := []) (Nat.le_of_ble_eq_true rfl) rfl rfl (zCi_mono (fun x3 h4 k => ?_) k)
    exact z_ireturn rfl dX11_edgeRange_46 ⟨_, rfl, k⟩
  · have k := kb q
    refine z_iload_n 2 dX11_edgeRange_8 rfl rfl rfl ?_
    refine z_aload_n 0 dX11_edgeRange_9 rfl rfl (Nat.le_of_ble_eq_true rfl) rfl ?_
    refine z_getF 11 17 (x := 3) fX11_19 rfl dX11_edgeRange_10 rfl rfl ?_
    refine z_iload_n 1 dX11_edgeRange_13 rfl rfl rfl ?_
    obtain ⟨i9, k⟩ := k
    refine z_aald17 (x := (h2 3 l1)) dX11_edgeRange_14 (by rw [zl_3]; exact i9) rfl rfl ?_
    refine z_w (fun w5 => ?_)
    refine z_getI 4 (x := (h2 (h2 3 l1) 9)) fX11_158 rfl dX11_edgeRange_15 rfl rfl ?_
    refine z_callSb sX11_isIn kX11_133 dX11_edgeRange_18 rfl (zRo_d d) (as := [vi l2, vi (h2 (h2 3 l1) 9)]) (rest := []) (Nat.le_of_ble_eq_true rfl) rfl rfl (zCb_mono (fun x6 h7 k => ?_) k)
    obtain ⟨ka, kb⟩ := k
    refine z_ifb_eq (tgt := 41) dX11_edgeRange_21 rfl rfl ⟨fun q => ?_, fun q => ?_⟩
    · have k := ka q
      refine z_aload_n 0 dX11_edgeRange_41 rfl rfl (Nat.le_of_ble_eq_true rfl) rfl ?_
      refine z_iconst dX11_edgeRange_42 rfl ?_
      refine z_callVi vX11_refused kX11_84 dX11_edgeRange_43 rfl (zRo_d d) (as := [vi 1]) (rest := []) (Nat.le_of_ble_eq_true rfl) rfl rfl (zCi_mono (fun x8 h9 k => ?_) k)
      exact z_ireturn rfl dX11_edgeRange_46 ⟨_, rfl, k⟩
    · have k := kb q
      refine z_iload_n 3 dX11_edgeRange_24 rfl rfl rfl ?_
      refine z_aload_n 0 dX11_edgeRange_25 rfl rfl (Nat.le_of_ble_eq_true rfl) rfl ?_
      refine z_getF 11 17 (x := 3) fX11_19 rfl dX11_edgeRange_26 rfl rfl ?_
      refine z_iload_n 1 dX11_edgeRange_29 rfl rfl rfl ?_
      obtain ⟨i9, k⟩ := k
      refine z_aald17 (x := (h7 3 l1)) dX11_edgeRange_30 (by rw [zl_3]; exact i9) rfl rfl ?_
      refine z_w (fun w10 => ?_)
      refine z_iload_n 2 dX11_edgeRange_31 rfl rfl rfl ?_
      refine z_callVi vX4_edgeRanges kX11_167 dX11_edgeRange_32 rfl (zRo_d d) (as := [vi l2]) (rest := [vi l3]) (Nat.le_of_ble_eq_true rfl) rfl rfl (zCi_mono (fun x11 h12 k => ?_) k)
      refine z_callSb sX11_isIn kX11_133 dX11_edgeRange_35 rfl (zRo_d d) (as := [vi l3, vi x11]) (rest := []) (Nat.le_of_ble_eq_true rfl) rfl rfl (zCb_mono (fun x13 h14 k => ?_) k)
      obtain ⟨ka, kb⟩ := k
      refine z_ifb_ne (tgt := 47) dX11_edgeRange_38 rfl rfl ⟨fun q => ?_, fun q => ?_⟩
      · have k := ka q
        refine z_aload_n 0 dX11_edgeRange_47 rfl rfl (Nat.le_of_ble_eq_true rfl) rfl ?_
        refine z_aload_n 0 dX11_edgeRange_48 rfl rfl (Nat.le_of_ble_eq_true rfl) rfl ?_
        refine z_getF 11 17 (x := 3) fX11_19 rfl dX11_edgeRange_49 rfl rfl ?_
        refine z_iload_n 1 dX11_edgeRange_52 rfl rfl rfl ?_
        obtain ⟨i9, k⟩ := k
        refine z_aald17 (x := (h14 3 l1)) dX11_edgeRange_53 (by rw [zl_3]; exact i9) rfl rfl ?_
        refine z_w (fun w15 => ?_)
        refine z_iload_n 2 dX11_edgeRange_54 rfl rfl rfl ?_
        refine z_iload_n 3 dX11_edgeRange_55 rfl rfl rfl ?_
        refine z_iload dX11_edgeRange_56 rfl rfl ?_
        refine z_callVi vX4_edgeBound kX11_173 dX11_edgeRange_58 rfl (zRo_d d) (as := [vi l2, vi l3, vi (bi l4)]) (rest := [vr 11 0]) (Nat.le_of_ble_eq_true rfl) rfl rfl (zCi_mono (fun x16 h17 k => ?_) k)
        refine z_callVi vX11_granted kX11_116 dX11_edgeRange_61 rfl (zRo_d d) (as := [vi x16]) (rest := []) (Nat.le_of_ble_eq_true rfl) rfl rfl (zCi_mono (fun x18 h19 k => ?_) k)
        exact z_ireturn rfl dX11_edgeRange_64 ⟨_, rfl, k⟩
      · have k := kb q
        refine z_aload_n 0 dX11_edgeRange_41 rfl rfl (Nat.le_of_ble_eq_true rfl) rfl ?_
        refine z_iconst dX11_edgeRange_42 rfl ?_
        refine z_callVi vX11_refused kX11_84 dX11_edgeRange_43 rfl (zRo_d d) (as := [vi 1]) (rest := []) (Nat.le_of_ble_eq_true rfl) rfl rfl (zCi_mono (fun x20 h21 k => ?_) k)
        exact z_ireturn rfl dX11_edgeRange_46 ⟨_, rfl, k⟩
theorem eX11_edgeRange {G : zG} {d : Nat} {K : Int → zH → Prop} {l1 : Int} {l2 : Int} {l3 : Int} {l4 : Bool} {h : zH} (k : tX11_edgeRange_0 G d K l1 l2 l3 l4 h) : zCi G (d + 1) mX11_edgeRange [vr 11 0, vi l1, vi l2, vi l3, vi (bi l4)] h K := z_entry (by decide +kernel) (Nat.le_of_ble_eq_true rfl) rfl k
def tX11_free_0 (G : zG) (d : Nat) (K : Int → zH → Prop) (l1 : Int) (l2 : Int) (l3 : Bool) (h : zH) : Prop := zTi G (d + 1) mX11_free K 0 [some (vr 11 0), some (vi l1), some (vi l2), some (vi (bi l3))] [] h
theorem bX11_free_0 {G : zG} {d : Nat} {K : Int → zH → Prop} {l1 : Int} {l2 : Int} {l3 : Bool} {h : zH} (k : zCb G d mX11_isMachine [vr 11 0, vi l1] h (fun x1 h2 => (x1 = false → zCi G d mX11_refused [vr 11 0, vi 1] h2 (fun x3 h4 => K x3 h4)) ∧ (x1 = true → ((0 : Int) ≤ l1 ∧ l1 < 10) ∧ zCb G d mX11_isIn [vi l2, vi (h2 (h2 3 l1) 10)] h2 (fun x6 h7 => (x6 = true → (l3 = false → ((0 : Int) ≤ l1 ∧ l1 < 10) ∧ ((0 : Int) ≤ l2 ∧ l2 < 64) ∧ zCi G d mX11_granted [vr 11 0, vi (h7 ((h7 3 l1) + 4) l2)] h7 (fun x9 h10 => K x9 h10)) ∧ (l3 = true → ((0 : Int) ≤ l1 ∧ l1 < 10) ∧ ((0 : Int) ≤ l2 ∧ l2 < 64) ∧ zCi G d mX11_granted [vr 11 0, vi (h7 ((h7 3 l1) + 5) l2)] h7 (fun x12 h13 => K x12 h13))) ∧ (x6 = false → zCi G d mX11_refused [vr 11 0, vi 1] h7 (fun x14 h15 => K x14 h15)))))) : tX11_free_0 G d K l1 l2 l3 h := by
  unfold tX11_free_0
  refine z_aload_n 0 dX11_free_0 rfl rfl (Nat.le_of_ble_eq_true rfl) rfl ?_
  refine z_iload_n 1 dX11_free_1 rfl rfl rfl ?_
  refine z_callVb vX11_isMachine kX11_152 dX11_free_2 rfl (zRo_d d) (as := [vi l1]) (rest := []) (Nat.le_of_ble_eq_true rfl) rfl rfl (zCb_mono (fun x1 h2 k => ?_) k)
  obtain ⟨ka, kb⟩ := k
  refine z_ifb_eq (tgt := 24) dX11_free_5 rfl rfl ⟨fun q => ?_, fun q => ?_⟩
  · have k := ka q
    refine z_aload_n 0 dX11_free_24 rfl rfl (Nat.le_of_ble_eq_true rfl) rfl ?_
    refine z_iconst dX11_free_25 rfl ?_
    refine z_callVi vX11_refused kX11_84 dX11_free_26 rfl (zRo_d d) (as := [vi 1]) (rest := []) (Nat.le_of_ble_eq_true rfl) rfl rfl (zCi_mono (fun x3 h4 k => ?_) k)
    exact z_ireturn rfl dX11_free_29 ⟨_, rfl, k⟩
  · have k := kb q
    refine z_iload_n 2 dX11_free_8 rfl rfl rfl ?_
    refine z_aload_n 0 dX11_free_9 rfl rfl (Nat.le_of_ble_eq_true rfl) rfl ?_
    refine z_getF 11 17 (x := 3) fX11_19 rfl dX11_free_10 rfl rfl ?_
    refine z_iload_n 1 dX11_free_13 rfl rfl rfl ?_
    obtain ⟨i9, k⟩ := k
    refine z_aald17 (x := (h2 3 l1)) dX11_free_14 (by rw [zl_3]; exact i9) rfl rfl ?_
    refine z_w (fun w5 => ?_)
    refine z_getI 4 (x := (h2 (h2 3 l1) 10)) fX11_177 rfl dX11_free_15 rfl rfl ?_
    refine z_callSb sX11_isIn kX11_133 dX11_free_18 rfl (zRo_d d) (as := [vi l2, vi (h2 (h2 3 l1) 10)]) (rest := []) (Nat.le_of_ble_eq_true rfl) rfl rfl (zCb_mono (fun x6 h7 k => ?_) k)
    obtain ⟨ka, kb⟩ := k
    refine z_ifb_ne (tgt := 30) dX11_free_21 rfl rfl ⟨fun q => ?_, fun q => ?_⟩
    · have k := ka q
      refine z_aload_n 0 dX11_free_30 rfl rfl (Nat.le_of_ble_eq_true rfl) rfl ?_
      refine z_iload_n 3 dX11_free_31 rfl rfl rfl ?_
      obtain ⟨ka, kb⟩ := k
      refine z_ifb_eq (tgt := 49) dX11_free_32 rfl rfl ⟨fun q => ?_, fun q => ?_⟩
      · have k := ka q
        refine z_aload_n 0 dX11_free_49 rfl rfl (Nat.le_of_ble_eq_true rfl) rfl ?_
        refine z_getF 11 17 (x := 3) fX11_19 rfl dX11_free_50 rfl rfl ?_
        refine z_iload_n 1 dX11_free_53 rfl rfl rfl ?_
        obtain ⟨i9, k⟩ := k
        refine z_aald17 (x := (h7 3 l1)) dX11_free_54 (by rw [zl_3]; exact i9) rfl rfl ?_
        refine z_w (fun w8 => ?_)
        refine z_getF 4 13 (x := ((h7 3 l1) + 4)) fX11_183 rfl dX11_free_55 (by omega) rfl ?_
        refine z_iload_n 2 dX11_free_58 rfl rfl rfl ?_
        obtain ⟨i9, k⟩ := k
        refine z_iald (x := (h7 ((h7 3 l1) + 4) l2)) dX11_free_59 (by rw [zl4_4 w8]; exact i9) rfl rfl ?_
        refine z_callVi vX11_granted kX11_116 dX11_free_60 rfl (zRo_d d) (as := [vi (h7 ((h7 3 l1) + 4) l2)]) (rest := []) (Nat.le_of_ble_eq_true rfl) rfl rfl (zCi_mono (fun x9 h10 k => ?_) k)
        exact z_ireturn rfl dX11_free_63 ⟨_, rfl, k⟩
      · have k := kb q
        refine z_aload_n 0 dX11_free_35 rfl rfl (Nat.le_of_ble_eq_true rfl) rfl ?_
        refine z_getF 11 17 (x := 3) fX11_19 rfl dX11_free_36 rfl rfl ?_
        refine z_iload_n 1 dX11_free_39 rfl rfl rfl ?_
        obtain ⟨i9, k⟩ := k
        refine z_aald17 (x := (h7 3 l1)) dX11_free_40 (by rw [zl_3]; exact i9) rfl rfl ?_
        refine z_w (fun w11 => ?_)
        refine z_getF 4 13 (x := ((h7 3 l1) + 5)) fX11_180 rfl dX11_free_41 (by omega) rfl ?_
        refine z_iload_n 2 dX11_free_44 rfl rfl rfl ?_
        obtain ⟨i9, k⟩ := k
        refine z_iald (x := (h7 ((h7 3 l1) + 5) l2)) dX11_free_45 (by rw [zl4_5 w11]; exact i9) rfl rfl ?_
        refine z_goto (tgt := 60) dX11_free_46 rfl ?_
        refine z_callVi vX11_granted kX11_116 dX11_free_60 rfl (zRo_d d) (as := [vi (h7 ((h7 3 l1) + 5) l2)]) (rest := []) (Nat.le_of_ble_eq_true rfl) rfl rfl (zCi_mono (fun x12 h13 k => ?_) k)
        exact z_ireturn rfl dX11_free_63 ⟨_, rfl, k⟩
    · have k := kb q
      refine z_aload_n 0 dX11_free_24 rfl rfl (Nat.le_of_ble_eq_true rfl) rfl ?_
      refine z_iconst dX11_free_25 rfl ?_
      refine z_callVi vX11_refused kX11_84 dX11_free_26 rfl (zRo_d d) (as := [vi 1]) (rest := []) (Nat.le_of_ble_eq_true rfl) rfl rfl (zCi_mono (fun x14 h15 k => ?_) k)
      exact z_ireturn rfl dX11_free_29 ⟨_, rfl, k⟩
theorem eX11_free {G : zG} {d : Nat} {K : Int → zH → Prop} {l1 : Int} {l2 : Int} {l3 : Bool} {h : zH} (k : tX11_free_0 G d K l1 l2 l3 h) : zCi G (d + 1) mX11_free [vr 11 0, vi l1, vi l2, vi (bi l3)] h K := z_entry (by decide +kernel) (Nat.le_of_ble_eq_true rfl) rfl k
def tX11_ends_0 (G : zG) (d : Nat) (K : Int → zH → Prop) (l1 : Int) (h : zH) : Prop := zTl G (d + 1) mX11_ends K 0 [some (vr 11 0), some (vi l1)] [] h
theorem bX11_ends_0 {G : zG} {d : Nat} {K : Int → zH → Prop} {l1 : Int} {h : zH} (k : zCb G d mX11_isMachine [vr 11 0, vi l1] h (fun x1 h2 => (x1 = true → ((0 : Int) ≤ l1 ∧ l1 < 10) ∧ zCl G d mX11_grantedLong [vr 11 0, vl (h2 (h2 3 l1) 8)] h2 (fun x4 h5 => K x4 h5)) ∧ (x1 = false → zCi G d mX11_refused [vr 11 0, vi 1] h2 (fun x6 h7 => zR x6 ∧ K x6 h7)))) : tX11_ends_0 G d K l1 h := by
  unfold tX11_ends_0
  refine z_aload_n 0 dX11_ends_0 rfl rfl (Nat.le_of_ble_eq_true rfl) rfl ?_
  refine z_iload_n 1 dX11_ends_1 rfl rfl rfl ?_
  refine z_callVb vX11_isMachine kX11_152 dX11_ends_2 rfl (zRo_d d) (as := [vi l1]) (rest := []) (Nat.le_of_ble_eq_true rfl) rfl rfl (zCb_mono (fun x1 h2 k => ?_) k)
  obtain ⟨ka, kb⟩ := k
  refine z_ifb_ne (tgt := 15) dX11_ends_5 rfl rfl ⟨fun q => ?_, fun q => ?_⟩
  · have k := ka q
    refine z_aload_n 0 dX11_ends_15 rfl rfl (Nat.le_of_ble_eq_true rfl) rfl ?_
    refine z_aload_n 0 dX11_ends_16 rfl rfl (Nat.le_of_ble_eq_true rfl) rfl ?_
    refine z_getF 11 17 (x := 3) fX11_19 rfl dX11_ends_17 rfl rfl ?_
    refine z_iload_n 1 dX11_ends_20 rfl rfl rfl ?_
    obtain ⟨i9, k⟩ := k
    refine z_aald17 (x := (h2 3 l1)) dX11_ends_21 (by rw [zl_3]; exact i9) rfl rfl ?_
    refine z_w (fun w3 => ?_)
    refine z_getL 4 (x := (h2 (h2 3 l1) 8)) fX11_186 rfl dX11_ends_22 rfl rfl ?_
    refine z_callVl vX11_grantedLong kX11_190 dX11_ends_25 rfl (zRo_d d) (as := [vl (h2 (h2 3 l1) 8)]) (rest := []) (Nat.le_of_ble_eq_true rfl) rfl rfl (zCl_mono (fun x4 h5 k => ?_) k)
    exact z_lreturn rfl dX11_ends_28 ⟨_, rfl, k⟩
  · have k := kb q
    refine z_aload_n 0 dX11_ends_8 rfl rfl (Nat.le_of_ble_eq_true rfl) rfl ?_
    refine z_iconst dX11_ends_9 rfl ?_
    refine z_callVi vX11_refused kX11_84 dX11_ends_10 rfl (zRo_d d) (as := [vi 1]) (rest := []) (Nat.le_of_ble_eq_true rfl) rfl rfl (zCi_mono (fun x6 h7 k => ?_) k)
    obtain ⟨r9, k⟩ := k
    refine z_i2l dX11_ends_13 r9 rfl ?_
    exact z_lreturn rfl dX11_ends_14 ⟨_, rfl, k⟩
theorem eX11_ends {G : zG} {d : Nat} {K : Int → zH → Prop} {l1 : Int} {h : zH} (k : tX11_ends_0 G d K l1 h) : zCl G (d + 1) mX11_ends [vr 11 0, vi l1] h K := z_entry (by decide +kernel) (Nat.le_of_ble_eq_true rfl) rfl k
def tX11_block_0 (G : zG) (d : Nat) (K : Int → zH → Prop) (l1 : Int) (l2 : Int) (h : zH) : Prop := zTi G (d + 1) mX11_block K 0 [some (vr 11 0), some (vi l1), some (vi l2)] [] h
theorem bX11_block_0 {G : zG} {d : Nat} {K : Int → zH → Prop} {l1 : Int} {l2 : Int} {h : zH} (k : zCb G d mX11_isMachine [vr 11 0, vi l1] h (fun x1 h2 => (x1 = false → zCi G d mX11_refused [vr 11 0, vi 1] h2 (fun x3 h4 => K x3 h4)) ∧ (x1 = true → ((0 : Int) ≤ l1 ∧ l1 < 10) ∧ zCb G d mX11_isIn [vi l2, vi (h2 (h2 3 l1) 11)] h2 (fun x6 h7 => (x6 = true → ((0 : Int) ≤ l1 ∧ l1 < 10) ∧ ((0 : Int) ≤ l2 ∧ l2 < 128) ∧ zCi G d mX11_granted [vr 11 0, vi (h7 ((h7 3 l1) + 6) l2)] h7 (fun x9 h10 => K x9 h10)) ∧ (x6 = false → zCi G d mX11_refused [vr 11 0, vi 1] h7 (fun x11 h12 => K x11 h12)))))) : tX11_block_0 G d K l1 l2 h := by
  unfold tX11_block_0
  refine z_aload_n 0 dX11_block_0 rfl rfl (Nat.le_of_ble_eq_true rfl) rfl ?_
  refine z_iload_n 1 dX11_block_1 rfl rfl rfl ?_
  refine z_callVb vX11_isMachine kX11_152 dX11_block_2 rfl (zRo_d d) (as := [vi l1]) (rest := []) (Nat.le_of_ble_eq_true rfl) rfl rfl (zCb_mono (fun x1 h2 k => ?_) k)
  obtain ⟨ka, kb⟩ := k
  refine z_ifb_eq (tgt := 24) dX11_block_5 rfl rfl ⟨fun q => ?_, fun q => ?_⟩
  · have k := ka q
    refine z_aload_n 0 dX11_block_24 rfl rfl (Nat.le_of_ble_eq_true rfl) rfl ?_
    refine z_iconst dX11_block_25 rfl ?_
    refine z_callVi vX11_refused kX11_84 dX11_block_26 rfl (zRo_d d) (as := [vi 1]) (rest := []) (Nat.le_of_ble_eq_true rfl) rfl rfl (zCi_mono (fun x3 h4 k => ?_) k)
    exact z_ireturn rfl dX11_block_29 ⟨_, rfl, k⟩
  · have k := kb q
    refine z_iload_n 2 dX11_block_8 rfl rfl rfl ?_
    refine z_aload_n 0 dX11_block_9 rfl rfl (Nat.le_of_ble_eq_true rfl) rfl ?_
    refine z_getF 11 17 (x := 3) fX11_19 rfl dX11_block_10 rfl rfl ?_
    refine z_iload_n 1 dX11_block_13 rfl rfl rfl ?_
    obtain ⟨i9, k⟩ := k
    refine z_aald17 (x := (h2 3 l1)) dX11_block_14 (by rw [zl_3]; exact i9) rfl rfl ?_
    refine z_w (fun w5 => ?_)
    refine z_getI 4 (x := (h2 (h2 3 l1) 11)) fX11_194 rfl dX11_block_15 rfl rfl ?_
    refine z_callSb sX11_isIn kX11_133 dX11_block_18 rfl (zRo_d d) (as := [vi l2, vi (h2 (h2 3 l1) 11)]) (rest := []) (Nat.le_of_ble_eq_true rfl) rfl rfl (zCb_mono (fun x6 h7 k => ?_) k)
    obtain ⟨ka, kb⟩ := k
    refine z_ifb_ne (tgt := 30) dX11_block_21 rfl rfl ⟨fun q => ?_, fun q => ?_⟩
    · have k := ka q
      refine z_aload_n 0 dX11_block_30 rfl rfl (Nat.le_of_ble_eq_true rfl) rfl ?_
      refine z_aload_n 0 dX11_block_31 rfl rfl (Nat.le_of_ble_eq_true rfl) rfl ?_
      refine z_getF 11 17 (x := 3) fX11_19 rfl dX11_block_32 rfl rfl ?_
      refine z_iload_n 1 dX11_block_35 rfl rfl rfl ?_
      obtain ⟨i9, k⟩ := k
      refine z_aald17 (x := (h7 3 l1)) dX11_block_36 (by rw [zl_3]; exact i9) rfl rfl ?_
      refine z_w (fun w8 => ?_)
      refine z_getF 4 13 (x := ((h7 3 l1) + 6)) fX11_197 rfl dX11_block_37 (by omega) rfl ?_
      refine z_iload_n 2 dX11_block_40 rfl rfl rfl ?_
      obtain ⟨i9, k⟩ := k
      refine z_iald (x := (h7 ((h7 3 l1) + 6) l2)) dX11_block_41 (by rw [zl4_6 w8]; exact i9) rfl rfl ?_
      refine z_callVi vX11_granted kX11_116 dX11_block_42 rfl (zRo_d d) (as := [vi (h7 ((h7 3 l1) + 6) l2)]) (rest := []) (Nat.le_of_ble_eq_true rfl) rfl rfl (zCi_mono (fun x9 h10 k => ?_) k)
      exact z_ireturn rfl dX11_block_45 ⟨_, rfl, k⟩
    · have k := kb q
      refine z_aload_n 0 dX11_block_24 rfl rfl (Nat.le_of_ble_eq_true rfl) rfl ?_
      refine z_iconst dX11_block_25 rfl ?_
      refine z_callVi vX11_refused kX11_84 dX11_block_26 rfl (zRo_d d) (as := [vi 1]) (rest := []) (Nat.le_of_ble_eq_true rfl) rfl rfl (zCi_mono (fun x11 h12 k => ?_) k)
      exact z_ireturn rfl dX11_block_29 ⟨_, rfl, k⟩
theorem eX11_block {G : zG} {d : Nat} {K : Int → zH → Prop} {l1 : Int} {l2 : Int} {h : zH} (k : tX11_block_0 G d K l1 l2 h) : zCi G (d + 1) mX11_block [vr 11 0, vi l1, vi l2] h K := z_entry (by decide +kernel) (Nat.le_of_ble_eq_true rfl) rfl k
