def tX12_oneMore_0 (G : zG) (d : Nat) (K : Int → zH → Prop) (l0 : Int) (l2 : Int) (l3 : Int) (l4 : Bool) (h : zH) : Prop := zTl G (d + 1) mX12_oneMore K 0 [some (vl l0), none, some (vi l2), some (vi l3), some (vi (bi l4))] [] h
theorem bX12_oneMore_0 {G : zG} {d : Nat} {K : Int → zH → Prop} {l0 : Int} {l2 : Int} {l3 : Int} {l4 : Bool} {h : zH} (k : (l4 = false → zCb G d mX12_bit [vl l0, vi l2] h (fun x1 h2 => (x1 = false → K l0 h2) ∧ (x1 = true → K (zlor l0 (zlshl 1 l3)) h2))) ∧ (l4 = true → zCb G d mX12_bit [vl l0, vi l3] h (fun x3 h4 => (x3 = false → K l0 h4) ∧ (x3 = true → K (zlor l0 (zlshl 1 l2)) h4)))) : tX12_oneMore_0 G d K l0 l2 l3 l4 h := by
  unfold tX12_oneMore_0
  refine z_iload dX12_oneMore_0 rfl rfl ?_
  obtain ⟨ka, kb⟩ := k
  refine z_ifb_eq (tgt := 23) dX12_oneMore_2 rfl rfl ⟨fun q => ?_, fun q => ?_⟩
  · have k := ka q
    refine z_lload_n 0 dX12_oneMore_23 rfl rfl rfl ?_
    refine z_iload_n 2 dX12_oneMore_24 rfl rfl rfl ?_
    refine z_callSb sX12_bit kX12_366 dX12_oneMore_25 rfl (zRo_d d) (as := [vl l0, vi l2]) (rest := []) (Nat.le_of_ble_eq_true rfl) rfl rfl (zCb_mono (fun x1 h2 k => ?_) k)
    obtain ⟨ka, kb⟩ := k
    refine z_ifb_eq (tgt := 39) dX12_oneMore_28 rfl rfl ⟨fun q => ?_, fun q => ?_⟩
    · have k := ka q
      refine z_lload_n 0 dX12_oneMore_39 rfl rfl rfl ?_
      exact z_lreturn rfl dX12_oneMore_40 ⟨_, rfl, k⟩
    · have k := kb q
      refine z_lload_n 0 dX12_oneMore_31 rfl rfl rfl ?_
      refine z_lconst (x := 1) dX12_oneMore_32 rfl rfl ?_
      refine z_iload_n 3 dX12_oneMore_33 rfl rfl rfl ?_
      refine z_lshl dX12_oneMore_34 rfl ?_
      refine z_lor dX12_oneMore_35 rfl ?_
      refine z_goto (tgt := 40) dX12_oneMore_36 rfl ?_
      exact z_lreturn rfl dX12_oneMore_40 ⟨_, rfl, k⟩
  · have k := kb q
    refine z_lload_n 0 dX12_oneMore_5 rfl rfl rfl ?_
    refine z_iload_n 3 dX12_oneMore_6 rfl rfl rfl ?_
    refine z_callSb sX12_bit kX12_366 dX12_oneMore_7 rfl (zRo_d d) (as := [vl l0, vi l3]) (rest := []) (Nat.le_of_ble_eq_true rfl) rfl rfl (zCb_mono (fun x3 h4 k => ?_) k)
    obtain ⟨ka, kb⟩ := k
    refine z_ifb_eq (tgt := 21) dX12_oneMore_10 rfl rfl ⟨fun q => ?_, fun q => ?_⟩
    · have k := ka q
      refine z_lload_n 0 dX12_oneMore_21 rfl rfl rfl ?_
      exact z_lreturn rfl dX12_oneMore_22 ⟨_, rfl, k⟩
    · have k := kb q
      refine z_lload_n 0 dX12_oneMore_13 rfl rfl rfl ?_
      refine z_lconst (x := 1) dX12_oneMore_14 rfl rfl ?_
      refine z_iload_n 2 dX12_oneMore_15 rfl rfl rfl ?_
      refine z_lshl dX12_oneMore_16 rfl ?_
      refine z_lor dX12_oneMore_17 rfl ?_
      refine z_goto (tgt := 22) dX12_oneMore_18 rfl ?_
      exact z_lreturn rfl dX12_oneMore_22 ⟨_, rfl, k⟩
theorem eX12_oneMore {G : zG} {d : Nat} {K : Int → zH → Prop} {l0 : Int} {l2 : Int} {l3 : Int} {l4 : Bool} {h : zH} (k : tX12_oneMore_0 G d K l0 l2 l3 l4 h) : zCl G (d + 1) mX12_oneMore [vl l0, vi l2, vi l3, vi (bi l4)] h K := z_entry (by decide +kernel) (Nat.le_of_ble_eq_true rfl) rfl k
def tX12_useless_0 (G : zG) (d : Nat) (K : Int → zH → Prop) (l1 : Int) (h : zH) : Prop := zTl G (d + 1) mX12_useless K 0 [some (vr 12 466), some (vi l1), none, none] [] h
theorem bX12_useless_0 {G : zG} {d : Nat} {K : Int → zH → Prop} {l1 : Int} {h : zH} (k : zCb G d mX12_isMachine [vr 12 466, vi l1] (zup h 466 0 0) (fun x1 h2 => (x1 = true → ((0 : Int) ≤ l1 ∧ l1 < 14) ∧ zCl G d mX12_reached [vr 12 466, vi l1, vl 1, vi (bi false)] h2 (fun x3 h4 => ((0 : Int) ≤ l1 ∧ l1 < 14) ∧ zCl G d mX12_reached [vr 12 466, vi l1, vl (h4 502 l1), vi (bi true)] h4 (fun x5 h6 => zCl G d mX12_goodLong [vr 12 466, vl (zland ((zlshl 1 (h2 493 l1)) - 1) (zlxor (zland x3 x5) (-1)))] h6 (fun x7 h8 => K x7 h8)))) ∧ (x1 = false → zCi G d mX12_refused [vr 12 466, vi 1] h2 (fun x9 h10 => zR x9 ∧ K x9 h10)))) : tX12_useless_0 G d K l1 h := by
  unfold tX12_useless_0
  refine z_aload_n 0 dX12_useless_0 rfl rfl (Nat.le_of_ble_eq_true rfl) rfl ?_
  refine z_iconst dX12_useless_1 rfl ?_
  refine z_putI 12 gX12_190 dX12_useless_2 rfl ?_
  refine z_aload_n 0 dX12_useless_5 rfl rfl (Nat.le_of_ble_eq_true rfl) rfl ?_
  refine z_iload_n 1 dX12_useless_6 rfl rfl rfl ?_
  refine z_callVb vX12_isMachine kX12_561 dX12_useless_7 rfl (zRo_d d) (as := [vi l1]) (rest := []) (Nat.le_of_ble_eq_true rfl) rfl rfl (zCb_mono (fun x1 h2 k => ?_) k)
  obtain ⟨ka, kb⟩ := k
  refine z_ifb_ne (tgt := 20) dX12_useless_10 rfl rfl ⟨fun q => ?_, fun q => ?_⟩
  · have k := ka q
    refine z_lconst (x := 1) dX12_useless_20 rfl rfl ?_
    refine z_aload_n 0 dX12_useless_21 rfl rfl (Nat.le_of_ble_eq_true rfl) rfl ?_
    refine z_getF 12 13 (x := 493) fX12_94 rfl dX12_useless_22 rfl rfl ?_
    refine z_iload_n 1 dX12_useless_25 rfl rfl rfl ?_
    obtain ⟨i9, k⟩ := k
    refine z_iald (x := (h2 493 l1)) dX12_useless_26 (by rw [zl_493]; exact i9) rfl rfl ?_
    refine z_lshl dX12_useless_27 rfl ?_
    refine z_lconst (x := 1) dX12_useless_28 rfl rfl ?_
    refine z_lsub dX12_useless_29 rfl ?_
    refine z_lstore_n 2 dX12_useless_30 rfl (Nat.le_of_ble_eq_true rfl) (L' := [some (vr 12 466), some (vi l1), some (vl ((zlshl 1 (h2 493 l1)) - 1)), none]) rfl rfl ?_
    refine z_aload_n 0 dX12_useless_31 rfl rfl (Nat.le_of_ble_eq_true rfl) rfl ?_
    refine z_lload_n 2 dX12_useless_32 rfl rfl rfl ?_
    refine z_aload_n 0 dX12_useless_33 rfl rfl (Nat.le_of_ble_eq_true rfl) rfl ?_
    refine z_iload_n 1 dX12_useless_34 rfl rfl rfl ?_
    refine z_lconst (x := 1) dX12_useless_35 rfl rfl ?_
    refine z_iconst dX12_useless_36 rfl ?_
    refine z_callVl vX12_reached kX12_591 dX12_useless_37 rfl (zRo_d d) (as := [vi l1, vl 1, vi (bi false)]) (rest := [vl ((zlshl 1 (h2 493 l1)) - 1), vr 12 466]) (Nat.le_of_ble_eq_true rfl) rfl rfl (zCl_mono (fun x3 h4 k => ?_) k)
    refine z_aload_n 0 dX12_useless_40 rfl rfl (Nat.le_of_ble_eq_true rfl) rfl ?_
    refine z_iload_n 1 dX12_useless_41 rfl rfl rfl ?_
    refine z_aload_n 0 dX12_useless_42 rfl rfl (Nat.le_of_ble_eq_true rfl) rfl ?_
    refine z_getF 12 14 (x := 502) fX12_121 rfl dX12_useless_43 rfl rfl ?_
    refine z_iload_n 1 dX12_useless_46 rfl rfl rfl ?_
    obtain ⟨i9, k⟩ := k
    refine z_lald (x := (h4 502 l1)) dX12_useless_47 (by rw [zl_502]; exact i9) rfl rfl ?_
    refine z_iconst dX12_useless_48 rfl ?_
    refine z_callVl vX12_reached kX12_591 dX12_useless_49 rfl (zRo_d d) (as := [vi l1, vl (h4 502 l1), vi (bi true)]) (rest := [vl x3, vl ((zlshl 1 (h2 493 l1)) - 1), vr 12 466]) (Nat.le_of_ble_eq_true rfl) rfl rfl (zCl_mono (fun x5 h6 k => ?_) k)
    refine z_land dX12_useless_52 rfl ?_
    refine z_ldc2 (x := (-1)) cX12_304 rfl dX12_useless_53 rfl ?_
    refine z_lxor dX12_useless_56 rfl ?_
    refine z_land dX12_useless_57 rfl ?_
    refine z_callVl vX12_goodLong kX12_583 dX12_useless_58 rfl (zRo_d d) (as := [vl (zland ((zlshl 1 (h2 493 l1)) - 1) (zlxor (zland x3 x5) (-1)))]) (rest := []) (Nat.le_of_ble_eq_true rfl) rfl rfl (zCl_mono (fun x7 h8 k => ?_) k)
    exact z_lreturn rfl dX12_useless_61 ⟨_, rfl, k⟩
  · have k := kb q
    refine z_aload_n 0 dX12_useless_13 rfl rfl (Nat.le_of_ble_eq_true rfl) rfl ?_
    refine z_iconst dX12_useless_14 rfl ?_
    refine z_callVi vX12_refused kX12_426 dX12_useless_15 rfl (zRo_d d) (as := [vi 1]) (rest := []) (Nat.le_of_ble_eq_true rfl) rfl rfl (zCi_mono (fun x9 h10 k => ?_) k)
    obtain ⟨r9, k⟩ := k
    refine z_i2l dX12_useless_18 r9 rfl ?_
    exact z_lreturn rfl dX12_useless_19 ⟨_, rfl, k⟩
theorem eX12_useless {G : zG} {d : Nat} {K : Int → zH → Prop} {l1 : Int} {h : zH} (k : tX12_useless_0 G d K l1 h) : zCl G (d + 1) mX12_useless [vr 12 466, vi l1] h K := z_entry (by decide +kernel) (Nat.le_of_ble_eq_true rfl) rfl k
def tX12_isState_0 (G : zG) (d : Nat) (K : Bool → zH → Prop) (l1 : Int) (l2 : Int) (h : zH) : Prop := zTb G (d + 1) mX12_isState K 0 [some (vr 12 466), some (vi l1), some (vi l2)] [] h
theorem bX12_isState_0 {G : zG} {d : Nat} {K : Bool → zH → Prop} {l1 : Int} {l2 : Int} {h : zH} (k : zCb G d mX12_isMachine [vr 12 466, vi l1] h (fun x1 h2 => (x1 = false → K false h2) ∧ (x1 = true → zR l2 ∧ (l2 < 0 → K false h2) ∧ (¬ l2 < 0 → ((0 : Int) ≤ l1 ∧ l1 < 14) ∧ zR l2 ∧ zR (h2 493 l1) ∧ ((h2 493 l1) ≤ l2 → K false h2) ∧ (¬ (h2 493 l1) ≤ l2 → K true h2))))) : tX12_isState_0 G d K l1 l2 h := by
  unfold tX12_isState_0
  refine z_aload_n 0 dX12_isState_0 rfl rfl (Nat.le_of_ble_eq_true rfl) rfl ?_
  refine z_iload_n 1 dX12_isState_1 rfl rfl rfl ?_
  refine z_callVb vX12_isMachine kX12_561 dX12_isState_2 rfl (zRo_d d) (as := [vi l1]) (rest := []) (Nat.le_of_ble_eq_true rfl) rfl rfl (zCb_mono (fun x1 h2 k => ?_) k)
  obtain ⟨ka, kb⟩ := k
  refine z_ifb_eq (tgt := 26) dX12_isState_5 rfl rfl ⟨fun q => ?_, fun q => ?_⟩
  · have k := ka q
    refine z_iconst dX12_isState_26 rfl ?_
    exact z_zreturn rfl (Or.inl rfl) dX12_isState_27 ⟨false, rfl, k⟩
  · have k := kb q
    refine z_iload_n 2 dX12_isState_8 rfl rfl rfl ?_
    obtain ⟨r1, ka, kb⟩ := k
    refine z_if_lt (tgt := 26) dX12_isState_9 rfl r1 rfl ⟨fun q => ?_, fun q => ?_⟩
    · have k := ka q
      refine z_iconst dX12_isState_26 rfl ?_
      exact z_zreturn rfl (Or.inl rfl) dX12_isState_27 ⟨false, rfl, k⟩
    · have k := kb q
      refine z_iload_n 2 dX12_isState_12 rfl rfl rfl ?_
      refine z_aload_n 0 dX12_isState_13 rfl rfl (Nat.le_of_ble_eq_true rfl) rfl ?_
      refine z_getF 12 13 (x := 493) fX12_94 rfl dX12_isState_14 rfl rfl ?_
      refine z_iload_n 1 dX12_isState_17 rfl rfl rfl ?_
      obtain ⟨i9, k⟩ := k
      refine z_iald (x := (h2 493 l1)) dX12_isState_18 (by rw [zl_493]; exact i9) rfl rfl ?_
      obtain ⟨r1, r2, ka, kb⟩ := k
      refine z_icmp_ge (tgt := 26) dX12_isState_19 rfl r1 r2 rfl ⟨fun q => ?_, fun q => ?_⟩
      · have k := ka q
        refine z_iconst dX12_isState_26 rfl ?_
        exact z_zreturn rfl (Or.inl rfl) dX12_isState_27 ⟨false, rfl, k⟩
      · have k := kb q
        refine z_iconst dX12_isState_22 rfl ?_
        refine z_goto (tgt := 27) dX12_isState_23 rfl ?_
        exact z_zreturn rfl (Or.inr rfl) dX12_isState_27 ⟨true, rfl, k⟩
theorem eX12_isState {G : zG} {d : Nat} {K : Bool → zH → Prop} {l1 : Int} {l2 : Int} {h : zH} (k : tX12_isState_0 G d K l1 l2 h) : zCb G (d + 1) mX12_isState [vr 12 466, vi l1, vi l2] h K := z_entry (by decide +kernel) (Nat.le_of_ble_eq_true rfl) rfl k
def tX12_isLike_0 (G : zG) (d : Nat) (K : Bool → zH → Prop) (l1 : Int) (l2 : Int) (l3 : Int) (l4 : Int) (h : zH) : Prop := zTb G (d + 1) mX12_isLike K 0 [some (vr 12 466), some (vi l1), some (vi l2), some (vi l3), some (vi l4), none] [] h
def tX12_isLike_3 (G : zG) (d : Nat) (K : Bool → zH → Prop) (l1 : Int) (l2 : Int) (l3 : Int) (l4 : Int) (l5 : Int) (h : zH) : Prop := zTb G (d + 1) mX12_isLike K 3 [some (vr 12 466), some (vi l1), some (vi l2), some (vi l3), some (vi l4), some (vi l5)] [] h
theorem bX12_isLike_0 {G : zG} {d : Nat} {K : Bool → zH → Prop} {l1 : Int} {l2 : Int} {l3 : Int} {l4 : Int} {h : zH} (k : tX12_isLike_3 G d K l1 l2 l3 l4 0 h) : tX12_isLike_0 G d K l1 l2 l3 l4 h := by
  unfold tX12_isLike_0
  refine z_iconst dX12_isLike_0 rfl ?_
  refine z_istore dX12_isLike_1 (Nat.le_of_ble_eq_true rfl) (L' := [some (vr 12 466), some (vi l1), some (vi l2), some (vi l3), some (vi l4), some (vi 0)]) rfl rfl ?_
  exact z_sub (L' := [some (vr 12 466), some (vi l1), some (vi l2), some (vi l3), some (vi l4), some (vi 0)]) (And.intro rfl (And.intro rfl (And.intro rfl (And.intro rfl (And.intro rfl (And.intro rfl trivial)))))) k
theorem bX12_isLike_3 {G : zG} {d : Nat} {K : Bool → zH → Prop} {l1 : Int} {l2 : Int} {l3 : Int} {l4 : Int} {l5 : Int} {h : zH} (k : ((0 : Int) ≤ l1 ∧ l1 < 14) ∧ zR l5 ∧ zR (h 494 l1) ∧ ((h 494 l1) ≤ l5 → K true h) ∧ (¬ (h 494 l1) ≤ l5 → ((0 : Int) ≤ ((l1 * 160) + l5) ∧ ((l1 * 160) + l5) < 2240) ∧ zR (h 498 ((l1 * 160) + l5)) ∧ zR l2 ∧ (¬ (h 498 ((l1 * 160) + l5)) = l2 → tX12_isLike_3 G d K l1 l2 l3 l4 (l5 + 1) h) ∧ ((h 498 ((l1 * 160) + l5)) = l2 → zCb G d mX12_edgeHas [vr 12 466, vi l1, vi l5, vi l3] h (fun x1 h2 => zCb G d mX12_edgeHas [vr 12 466, vi l1, vi l5, vi l4] h2 (fun x3 h4 => (bi x1 = bi x3 → tX12_isLike_3 G d K l1 l2 l3 l4 (l5 + 1) h4) ∧ (¬ bi x1 = bi x3 → K false h4)))))) : tX12_isLike_3 G d K l1 l2 l3 l4 l5 h := by
  unfold tX12_isLike_3
  refine z_iload dX12_isLike_3 rfl rfl ?_
  refine z_aload_n 0 dX12_isLike_5 rfl rfl (Nat.le_of_ble_eq_true rfl) rfl ?_
  refine z_getF 12 13 (x := 494) fX12_97 rfl dX12_isLike_6 rfl rfl ?_
  refine z_iload_n 1 dX12_isLike_9 rfl rfl rfl ?_
  obtain ⟨i9, k⟩ := k
  refine z_iald (x := (h 494 l1)) dX12_isLike_10 (by rw [zl_494]; exact i9) rfl rfl ?_
  obtain ⟨r1, r2, ka, kb⟩ := k
  refine z_icmp_ge (tgt := 59) dX12_isLike_11 rfl r1 r2 rfl ⟨fun q => ?_, fun q => ?_⟩
  · have k := ka q
    refine z_iconst dX12_isLike_59 rfl ?_
    exact z_zreturn rfl (Or.inr rfl) dX12_isLike_60 ⟨true, rfl, k⟩
  · have k := kb q
    refine z_aload_n 0 dX12_isLike_14 rfl rfl (Nat.le_of_ble_eq_true rfl) rfl ?_
    refine z_getF 12 13 (x := 498) fX12_109 rfl dX12_isLike_15 rfl rfl ?_
    refine z_iload_n 1 dX12_isLike_18 rfl rfl rfl ?_
    refine z_sipush dX12_isLike_19 rfl rfl ?_
    refine z_imul dX12_isLike_22 rfl ?_
    refine z_iload dX12_isLike_23 rfl rfl ?_
    refine z_iadd dX12_isLike_25 rfl ?_
    obtain ⟨i9, k⟩ := k
    refine z_iald (x := (h 498 ((l1 * 160) + l5))) dX12_isLike_26 (by rw [zl_498]; exact i9) rfl rfl ?_
    refine z_iload_n 2 dX12_isLike_27 rfl rfl rfl ?_
    obtain ⟨r1, r2, ka, kb⟩ := k
    refine z_icmp_ne (tgt := 53) dX12_isLike_28 rfl r1 r2 rfl ⟨fun q => ?_, fun q => ?_⟩
    · have k := ka q
      refine z_iinc dX12_isLike_53 rfl (Nat.le_of_ble_eq_true rfl) (L' := [some (vr 12 466), some (vi l1), some (vi l2), some (vi l3), some (vi l4), some (vi (l5 + 1))]) rfl rfl ?_
      refine z_goto (tgt := 3) dX12_isLike_56 rfl ?_
      exact z_sub (L' := [some (vr 12 466), some (vi l1), some (vi l2), some (vi l3), some (vi l4), some (vi (l5 + 1))]) (And.intro rfl (And.intro rfl (And.intro rfl (And.intro rfl (And.intro rfl (And.intro rfl trivial)))))) k
    · have k := kb q
      refine z_aload_n 0 dX12_isLike_31 rfl rfl (Nat.le_of_ble_eq_true rfl) rfl ?_
      refine z_iload_n 1 dX12_isLike_32 rfl rfl rfl ?_
      refine z_iload dX12_isLike_33 rfl rfl ?_
      refine z_iload_n 3 dX12_isLike_35 rfl rfl rfl ?_
      refine z_callVb vX12_edgeHas kX12_527 dX12_isLike_36 rfl (zRo_d d) (as := [vi l1, vi l5, vi l3]) (rest := []) (Nat.le_of_ble_eq_true rfl) rfl rfl (zCb_mono (fun x1 h2 k => ?_) k)
      refine z_aload_n 0 dX12_isLike_39 rfl rfl (Nat.le_of_ble_eq_true rfl) rfl ?_
      refine z_iload_n 1 dX12_isLike_40 rfl rfl rfl ?_
      refine z_iload dX12_isLike_41 rfl rfl ?_
      refine z_iload dX12_isLike_43 rfl rfl ?_
      refine z_callVb vX12_edgeHas kX12_527 dX12_isLike_45 rfl (zRo_d d) (as := [vi l1, vi l5, vi l4]) (rest := [vi (bi x1)]) (Nat.le_of_ble_eq_true rfl) rfl rfl (zCb_mono (fun x3 h4 k => ?_) k)
      obtain ⟨ka, kb⟩ := k
      refine z_icmp_eq (tgt := 53) dX12_isLike_48 rfl (bi_R _) (bi_R _) rfl ⟨fun q => ?_, fun q => ?_⟩
      · have k := ka q
        refine z_iinc dX12_isLike_53 rfl (Nat.le_of_ble_eq_true rfl) (L' := [some (vr 12 466), some (vi l1), some (vi l2), some (vi l3), some (vi l4), some (vi (l5 + 1))]) rfl rfl ?_
        refine z_goto (tgt := 3) dX12_isLike_56 rfl ?_
        exact z_sub (L' := [some (vr 12 466), some (vi l1), some (vi l2), some (vi l3), some (vi l4), some (vi (l5 + 1))]) (And.intro rfl (And.intro rfl (And.intro rfl (And.intro rfl (And.intro rfl (And.intro rfl trivial)))))) k
      · have k := kb q
        refine z_iconst dX12_isLike_51 rfl ?_
        exact z_zreturn rfl (Or.inl rfl) dX12_isLike_52 ⟨false, rfl, k⟩
theorem eX12_isLike {G : zG} {d : Nat} {K : Bool → zH → Prop} {l1 : Int} {l2 : Int} {l3 : Int} {l4 : Int} {h : zH} (k : tX12_isLike_0 G d K l1 l2 l3 l4 h) : zCb G (d + 1) mX12_isLike [vr 12 466, vi l1, vi l2, vi l3, vi l4] h K := z_entry (by decide +kernel) (Nat.le_of_ble_eq_true rfl) rfl k
def tX12_beginsTerm_0 (G : zG) (d : Nat) (K : Bool → zH → Prop) (l1 : Int) (l2 : Int) (l3 : Int) (h : zH) : Prop := zTb G (d + 1) mX12_beginsTerm K 0 [some (vr 12 466), some (vi l1), some (vi l2), some (vi l3), none] [] h
def tX12_beginsTerm_3 (G : zG) (d : Nat) (K : Bool → zH → Prop) (l1 : Int) (l2 : Int) (l3 : Int) (l4 : Int) (h : zH) : Prop := zTb G (d + 1) mX12_beginsTerm K 3 [some (vr 12 466), some (vi l1), some (vi l2), some (vi l3), some (vi l4)] [] h
theorem bX12_beginsTerm_0 {G : zG} {d : Nat} {K : Bool → zH → Prop} {l1 : Int} {l2 : Int} {l3 : Int} {h : zH} (k : tX12_beginsTerm_3 G d K l1 l2 l3 0 h) : tX12_beginsTerm_0 G d K l1 l2 l3 h := by
  unfold tX12_beginsTerm_0
  refine z_iconst dX12_beginsTerm_0 rfl ?_
  refine z_istore dX12_beginsTerm_1 (Nat.le_of_ble_eq_true rfl) (L' := [some (vr 12 466), some (vi l1), some (vi l2), some (vi l3), some (vi 0)]) rfl rfl ?_
  exact z_sub (L' := [some (vr 12 466), some (vi l1), some (vi l2), some (vi l3), some (vi 0)]) (And.intro rfl (And.intro rfl (And.intro rfl (And.intro rfl (And.intro rfl trivial))))) k
theorem bX12_beginsTerm_3 {G : zG} {d : Nat} {K : Bool → zH → Prop} {l1 : Int} {l2 : Int} {l3 : Int} {l4 : Int} {h : zH} (k : zR l4 ∧ zR l3 ∧ (l3 ≤ l4 → K true h) ∧ (¬ l3 ≤ l4 → zCb G d mX12_isLike [vr 12 466, vi l1, vi l2, vi l4, vi l3] h (fun x1 h2 => (x1 = false → tX12_beginsTerm_3 G d K l1 l2 l3 (l4 + 1) h2) ∧ (x1 = true → K false h2)))) : tX12_beginsTerm_3 G d K l1 l2 l3 l4 h := by
  unfold tX12_beginsTerm_3
  refine z_iload dX12_beginsTerm_3 rfl rfl ?_
  refine z_iload_n 3 dX12_beginsTerm_5 rfl rfl rfl ?_
  obtain ⟨r1, r2, ka, kb⟩ := k
  refine z_icmp_ge (tgt := 29) dX12_beginsTerm_6 rfl r1 r2 rfl ⟨fun q => ?_, fun q => ?_⟩
  · have k := ka q
    refine z_iconst dX12_beginsTerm_29 rfl ?_
    exact z_zreturn rfl (Or.inr rfl) dX12_beginsTerm_30 ⟨true, rfl, k⟩
  · have k := kb q
    refine z_aload_n 0 dX12_beginsTerm_9 rfl rfl (Nat.le_of_ble_eq_true rfl) rfl ?_
    refine z_iload_n 1 dX12_beginsTerm_10 rfl rfl rfl ?_
    refine z_iload_n 2 dX12_beginsTerm_11 rfl rfl rfl ?_
    refine z_iload dX12_beginsTerm_12 rfl rfl ?_
    refine z_iload_n 3 dX12_beginsTerm_14 rfl rfl rfl ?_
    refine z_callVb vX12_isLike kX12_595 dX12_beginsTerm_15 rfl (zRo_d d) (as := [vi l1, vi l2, vi l4, vi l3]) (rest := []) (Nat.le_of_ble_eq_true rfl) rfl rfl (zCb_mono (fun x1 h2 k => ?_) k)
    obtain ⟨ka, kb⟩ := k
    refine z_ifb_eq (tgt := 23) dX12_beginsTerm_18 rfl rfl ⟨fun q => ?_, fun q => ?_⟩
    · have k := ka q
      refine z_iinc dX12_beginsTerm_23 rfl (Nat.le_of_ble_eq_true rfl) (L' := [some (vr 12 466), some (vi l1), some (vi l2), some (vi l3), some (vi (l4 + 1))]) rfl rfl ?_
      refine z_goto (tgt := 3) dX12_beginsTerm_26 rfl ?_
      exact z_sub (L' := [some (vr 12 466), some (vi l1), some (vi l2), some (vi l3), some (vi (l4 + 1))]) (And.intro rfl (And.intro rfl (And.intro rfl (And.intro rfl (And.intro rfl trivial))))) k
    · have k := kb q
      refine z_iconst dX12_beginsTerm_21 rfl ?_
      exact z_zreturn rfl (Or.inl rfl) dX12_beginsTerm_22 ⟨false, rfl, k⟩
theorem eX12_beginsTerm {G : zG} {d : Nat} {K : Bool → zH → Prop} {l1 : Int} {l2 : Int} {l3 : Int} {h : zH} (k : tX12_beginsTerm_0 G d K l1 l2 l3 h) : zCb G (d + 1) mX12_beginsTerm [vr 12 466, vi l1, vi l2, vi l3] h K := z_entry (by decide +kernel) (Nat.le_of_ble_eq_true rfl) rfl k
def tX12_terms_0 (G : zG) (d : Nat) (K : Int → zH → Prop) (l1 : Int) (l2 : Int) (h : zH) : Prop := zTi G (d + 1) mX12_terms K 0 [some (vr 12 466), some (vi l1), some (vi l2), none, none] [] h
def tX12_terms_25 (G : zG) (d : Nat) (K : Int → zH → Prop) (l1 : Int) (l2 : Int) (l3 : Int) (l4 : Int) (h : zH) : Prop := zTi G (d + 1) mX12_terms K 25 [some (vr 12 466), some (vi l1), some (vi l2), some (vi l3), some (vi l4)] [] h
theorem bX12_terms_0 {G : zG} {d : Nat} {K : Int → zH → Prop} {l1 : Int} {l2 : Int} {h : zH} (k : zCb G d mX12_isState [vr 12 466, vi l1, vi l2] (zup h 466 0 0) (fun x1 h2 => (x1 = true → tX12_terms_25 G d K l1 l2 0 0 h2) ∧ (x1 = false → zCi G d mX12_refused [vr 12 466, vi 1] h2 (fun x3 h4 => K x3 h4)))) : tX12_terms_0 G d K l1 l2 h := by
  unfold tX12_terms_0
  refine z_aload_n 0 dX12_terms_0 rfl rfl (Nat.le_of_ble_eq_true rfl) rfl ?_
  refine z_iconst dX12_terms_1 rfl ?_
  refine z_putI 12 gX12_190 dX12_terms_2 rfl ?_
  refine z_aload_n 0 dX12_terms_5 rfl rfl (Nat.le_of_ble_eq_true rfl) rfl ?_
  refine z_iload_n 1 dX12_terms_6 rfl rfl rfl ?_
  refine z_iload_n 2 dX12_terms_7 rfl rfl rfl ?_
  refine z_callVb vX12_isState kX12_599 dX12_terms_8 rfl (zRo_d d) (as := [vi l1, vi l2]) (rest := []) (Nat.le_of_ble_eq_true rfl) rfl rfl (zCb_mono (fun x1 h2 k => ?_) k)
  obtain ⟨ka, kb⟩ := k
  refine z_ifb_ne (tgt := 20) dX12_terms_11 rfl rfl ⟨fun q => ?_, fun q => ?_⟩
  · have k := ka q
    refine z_iconst dX12_terms_20 rfl ?_
    refine z_istore_n 3 dX12_terms_21 rfl (Nat.le_of_ble_eq_true rfl) (L' := [some (vr 12 466), some (vi l1), some (vi l2), some (vi 0), none]) rfl rfl ?_
    refine z_iconst dX12_terms_22 rfl ?_
    refine z_istore dX12_terms_23 (Nat.le_of_ble_eq_true rfl) (L' := [some (vr 12 466), some (vi l1), some (vi l2), some (vi 0), some (vi 0)]) rfl rfl ?_
    exact z_sub (L' := [some (vr 12 466), some (vi l1), some (vi l2), some (vi 0), some (vi 0)]) (And.intro rfl (And.intro rfl (And.intro rfl (And.intro rfl (And.intro rfl trivial))))) k
  · have k := kb q
    refine z_aload_n 0 dX12_terms_14 rfl rfl (Nat.le_of_ble_eq_true rfl) rfl ?_
    refine z_iconst dX12_terms_15 rfl ?_
    refine z_callVi vX12_refused kX12_426 dX12_terms_16 rfl (zRo_d d) (as := [vi 1]) (rest := []) (Nat.le_of_ble_eq_true rfl) rfl rfl (zCi_mono (fun x3 h4 k => ?_) k)
    exact z_ireturn rfl dX12_terms_19 ⟨_, rfl, k⟩
theorem bX12_terms_25 {G : zG} {d : Nat} {K : Int → zH → Prop} {l1 : Int} {l2 : Int} {l3 : Int} {l4 : Int} {h : zH} (k : ((0 : Int) ≤ l1 ∧ l1 < 14) ∧ zR l4 ∧ zR (h 496 l1) ∧ ((h 496 l1) ≤ l4 → zCi G d mX12_good [vr 12 466, vi l3] h (fun x1 h2 => K x1 h2)) ∧ (¬ (h 496 l1) ≤ l4 → zCb G d mX12_beginsTerm [vr 12 466, vi l1, vi l2, vi l4] h (fun x3 h4 => (x3 = false → tX12_terms_25 G d K l1 l2 (l3 + 0) (l4 + 1) h4) ∧ (x3 = true → tX12_terms_25 G d K l1 l2 (l3 + 1) (l4 + 1) h4)))) : tX12_terms_25 G d K l1 l2 l3 l4 h := by
  unfold tX12_terms_25
  refine z_iload dX12_terms_25 rfl rfl ?_
  refine z_aload_n 0 dX12_terms_27 rfl rfl (Nat.le_of_ble_eq_true rfl) rfl ?_
  refine z_getF 12 13 (x := 496) fX12_103 rfl dX12_terms_28 rfl rfl ?_
  refine z_iload_n 1 dX12_terms_31 rfl rfl rfl ?_
  obtain ⟨i9, k⟩ := k
  refine z_iald (x := (h 496 l1)) dX12_terms_32 (by rw [zl_496]; exact i9) rfl rfl ?_
  obtain ⟨r1, r2, ka, kb⟩ := k
  refine z_icmp_ge (tgt := 61) dX12_terms_33 rfl r1 r2 rfl ⟨fun q => ?_, fun q => ?_⟩
  · have k := ka q
    refine z_aload_n 0 dX12_terms_61 rfl rfl (Nat.le_of_ble_eq_true rfl) rfl ?_
    refine z_iload_n 3 dX12_terms_62 rfl rfl rfl ?_
    refine z_callVi vX12_good kX12_196 dX12_terms_63 rfl (zRo_d d) (as := [vi l3]) (rest := []) (Nat.le_of_ble_eq_true rfl) rfl rfl (zCi_mono (fun x1 h2 k => ?_) k)
    exact z_ireturn rfl dX12_terms_66 ⟨_, rfl, k⟩
  · have k := kb q
    refine z_iload_n 3 dX12_terms_36 rfl rfl rfl ?_
    refine z_aload_n 0 dX12_terms_37 rfl rfl (Nat.le_of_ble_eq_true rfl) rfl ?_
    refine z_iload_n 1 dX12_terms_38 rfl rfl rfl ?_
    refine z_iload_n 2 dX12_terms_39 rfl rfl rfl ?_
    refine z_iload dX12_terms_40 rfl rfl ?_
    refine z_callVb vX12_beginsTerm kX12_602 dX12_terms_42 rfl (zRo_d d) (as := [vi l1, vi l2, vi l4]) (rest := [vi l3]) (Nat.le_of_ble_eq_true rfl) rfl rfl (zCb_mono (fun x3 h4 k => ?_) k)
    obtain ⟨ka, kb⟩ := k
    refine z_ifb_eq (tgt := 52) dX12_terms_45 rfl rfl ⟨fun q => ?_, fun q => ?_⟩
    · have k := ka q
      refine z_iconst dX12_terms_52 rfl ?_
      refine z_iadd dX12_terms_53 rfl ?_
      refine z_istore_n 3 dX12_terms_54 rfl (Nat.le_of_ble_eq_true rfl) (L' := [some (vr 12 466), some (vi l1), some (vi l2), some (vi (l3 + 0)), some (vi l4)]) rfl rfl ?_
      refine z_iinc dX12_terms_55 rfl (Nat.le_of_ble_eq_true rfl) (L' := [some (vr 12 466), some (vi l1), some (vi l2), some (vi (l3 + 0)), some (vi (l4 + 1))]) rfl rfl ?_
      refine z_goto (tgt := 25) dX12_terms_58 rfl ?_
      exact z_sub (L' := [some (vr 12 466), some (vi l1), some (vi l2), some (vi (l3 + 0)), some (vi (l4 + 1))]) (And.intro rfl (And.intro rfl (And.intro rfl (And.intro rfl (And.intro rfl trivial))))) k
    · have k := kb q
      refine z_iconst dX12_terms_48 rfl ?_
      refine z_goto (tgt := 53) dX12_terms_49 rfl ?_
      refine z_iadd dX12_terms_53 rfl ?_
      refine z_istore_n 3 dX12_terms_54 rfl (Nat.le_of_ble_eq_true rfl) (L' := [some (vr 12 466), some (vi l1), some (vi l2), some (vi (l3 + 1)), some (vi l4)]) rfl rfl ?_
      refine z_iinc dX12_terms_55 rfl (Nat.le_of_ble_eq_true rfl) (L' := [some (vr 12 466), some (vi l1), some (vi l2), some (vi (l3 + 1)), some (vi (l4 + 1))]) rfl rfl ?_
      refine z_goto (tgt := 25) dX12_terms_58 rfl ?_
      exact z_sub (L' := [some (vr 12 466), some (vi l1), some (vi l2), some (vi (l3 + 1)), some (vi (l4 + 1))]) (And.intro rfl (And.intro rfl (And.intro rfl (And.intro rfl (And.intro rfl trivial))))) k
theorem eX12_terms {G : zG} {d : Nat} {K : Int → zH → Prop} {l1 : Int} {l2 : Int} {h : zH} (k : tX12_terms_0 G d K l1 l2 h) : zCi G (d + 1) mX12_terms [vr 12 466, vi l1, vi l2] h K := z_entry (by decide +kernel) (Nat.le_of_ble_eq_true rfl) rfl k
def tX12_termAt_0 (G : zG) (d : Nat) (K : Int → zH → Prop) (l1 : Int) (l2 : Int) (l3 : Int) (h : zH) : Prop := zTi G (d + 1) mX12_termAt K 0 [some (vr 12 466), some (vi l1), some (vi l2), some (vi l3), none, none] [] h
def tX12_termAt_6 (G : zG) (d : Nat) (K : Int → zH → Prop) (l1 : Int) (l2 : Int) (l3 : Int) (l4 : Int) (l5 : Int) (h : zH) : Prop := zTi G (d + 1) mX12_termAt K 6 [some (vr 12 466), some (vi l1), some (vi l2), some (vi l3), some (vi l4), some (vi l5)] [] h
theorem bX12_termAt_0 {G : zG} {d : Nat} {K : Int → zH → Prop} {l1 : Int} {l2 : Int} {l3 : Int} {h : zH} (k : tX12_termAt_6 G d K l1 l2 l3 0 0 h) : tX12_termAt_0 G d K l1 l2 l3 h := by
  unfold tX12_termAt_0
  refine z_iconst dX12_termAt_0 rfl ?_
  refine z_istore dX12_termAt_1 (Nat.le_of_ble_eq_true rfl) (L' := [some (vr 12 466), some (vi l1), some (vi l2), some (vi l3), some (vi 0), none]) rfl rfl ?_
  refine z_iconst dX12_termAt_3 rfl ?_
  refine z_istore dX12_termAt_4 (Nat.le_of_ble_eq_true rfl) (L' := [some (vr 12 466), some (vi l1), some (vi l2), some (vi l3), some (vi 0), some (vi 0)]) rfl rfl ?_
  exact z_sub (L' := [some (vr 12 466), some (vi l1), some (vi l2), some (vi l3), some (vi 0), some (vi 0)]) (And.intro rfl (And.intro rfl (And.intro rfl (And.intro rfl (And.intro rfl (And.intro rfl trivial)))))) k
theorem bX12_termAt_6 {G : zG} {d : Nat} {K : Int → zH → Prop} {l1 : Int} {l2 : Int} {l3 : Int} {l4 : Int} {l5 : Int} {h : zH} (k : ((0 : Int) ≤ l1 ∧ l1 < 14) ∧ zR l5 ∧ zR (h 496 l1) ∧ ((h 496 l1) ≤ l5 → K (-1) h) ∧ (¬ (h 496 l1) ≤ l5 → zCb G d mX12_beginsTerm [vr 12 466, vi l1, vi l2, vi l5] h (fun x1 h2 => (x1 = true → zR l4 ∧ zR l3 ∧ (¬ l4 = l3 → tX12_termAt_6 G d K l1 l2 l3 (l4 + 1) (l5 + 1) h2) ∧ (l4 = l3 → K l5 h2)) ∧ (x1 = false → tX12_termAt_6 G d K l1 l2 l3 l4 (l5 + 1) h2)))) : tX12_termAt_6 G d K l1 l2 l3 l4 l5 h := by
  unfold tX12_termAt_6
  refine z_iload dX12_termAt_6 rfl rfl ?_
  refine z_aload_n 0 dX12_termAt_8 rfl rfl (Nat.le_of_ble_eq_true rfl) rfl ?_
  refine z_getF 12 13 (x := 496) fX12_103 rfl dX12_termAt_9 rfl rfl ?_
  refine z_iload_n 1 dX12_termAt_12 rfl rfl rfl ?_
  obtain ⟨i9, k⟩ := k
  refine z_iald (x := (h 496 l1)) dX12_termAt_13 (by rw [zl_496]; exact i9) rfl rfl ?_
  obtain ⟨r1, r2, ka, kb⟩ := k
  refine z_icmp_ge (tgt := 49) dX12_termAt_14 rfl r1 r2 rfl ⟨fun q => ?_, fun q => ?_⟩
  · have k := ka q
    refine z_iconst dX12_termAt_49 rfl ?_
    exact z_ireturn rfl dX12_termAt_50 ⟨_, rfl, k⟩
  · have k := kb q
    refine z_aload_n 0 dX12_termAt_17 rfl rfl (Nat.le_of_ble_eq_true rfl) rfl ?_
    refine z_iload_n 1 dX12_termAt_18 rfl rfl rfl ?_
    refine z_iload_n 2 dX12_termAt_19 rfl rfl rfl ?_
    refine z_iload dX12_termAt_20 rfl rfl ?_
    refine z_callVb vX12_beginsTerm kX12_602 dX12_termAt_22 rfl (zRo_d d) (as := [vi l1, vi l2, vi l5]) (rest := []) (Nat.le_of_ble_eq_true rfl) rfl rfl (zCb_mono (fun x1 h2 k => ?_) k)
    obtain ⟨ka, kb⟩ := k
    refine z_ifb_ne (tgt := 31) dX12_termAt_25 rfl rfl ⟨fun q => ?_, fun q => ?_⟩
    · have k := ka q
      refine z_iload dX12_termAt_31 rfl rfl ?_
      refine z_iload_n 3 dX12_termAt_33 rfl rfl rfl ?_
      obtain ⟨r1, r2, ka, kb⟩ := k
      refine z_icmp_ne (tgt := 40) dX12_termAt_34 rfl r1 r2 rfl ⟨fun q => ?_, fun q => ?_⟩
      · have k := ka q
        refine z_iinc dX12_termAt_40 rfl (Nat.le_of_ble_eq_true rfl) (L' := [some (vr 12 466), some (vi l1), some (vi l2), some (vi l3), some (vi (l4 + 1)), some (vi l5)]) rfl rfl ?_
        refine z_iinc dX12_termAt_43 rfl (Nat.le_of_ble_eq_true rfl) (L' := [some (vr 12 466), some (vi l1), some (vi l2), some (vi l3), some (vi (l4 + 1)), some (vi (l5 + 1))]) rfl rfl ?_
        refine z_goto (tgt := 6) dX12_termAt_46 rfl ?_
        exact z_sub (L' := [some (vr 12 466), some (vi l1), some (vi l2), some (vi l3), some (vi (l4 + 1)), some (vi (l5 + 1))]) (And.intro rfl (And.intro rfl (And.intro rfl (And.intro rfl (And.intro rfl (And.intro rfl trivial)))))) k
      · have k := kb q
        refine z_iload dX12_termAt_37 rfl rfl ?_
        exact z_ireturn rfl dX12_termAt_39 ⟨_, rfl, k⟩
    · have k := kb q
      refine z_goto (tgt := 43) dX12_termAt_28 rfl ?_
      refine z_iinc dX12_termAt_43 rfl (Nat.le_of_ble_eq_true rfl) (L' := [some (vr 12 466), some (vi l1), some (vi l2), some (vi l3), some (vi l4), some (vi (l5 + 1))]) rfl rfl ?_
      refine z_goto (tgt := 6) dX12_termAt_46 rfl ?_
      exact z_sub (L' := [some (vr 12 466), some (vi l1), some (vi l2), some (vi l3), some (vi l4), some (vi (l5 + 1))]) (And.intro rfl (And.intro rfl (And.intro rfl (And.intro rfl (And.intro rfl (And.intro rfl trivial)))))) k
theorem eX12_termAt {G : zG} {d : Nat} {K : Int → zH → Prop} {l1 : Int} {l2 : Int} {l3 : Int} {h : zH} (k : tX12_termAt_0 G d K l1 l2 l3 h) : zCi G (d + 1) mX12_termAt [vr 12 466, vi l1, vi l2, vi l3] h K := z_entry (by decide +kernel) (Nat.le_of_ble_eq_true rfl) rfl k
def tX12_term_0 (G : zG) (d : Nat) (K : Int → zH → Prop) (l1 : Int) (l2 : Int) (l3 : Int) (l4 : Int) (h : zH) : Prop := zTi G (d + 1) mX12_term K 0 [some (vr 12 466), some (vi l1), some (vi l2), some (vi l3), some (vi l4), none, none, none] [] h
def tX12_term_87 (G : zG) (d : Nat) (K : Int → zH → Prop) (l1 : Int) (l2 : Int) (l5 : Int) (l6 : Int) (l7 : Int) (h : zH) : Prop := zTi G (d + 1) mX12_term K 87 [some (vr 12 466), some (vi l1), some (vi l2), none, none, some (vi l5), some (vi l6), some (vi l7)] [] h
def tX12_term_153 (G : zG) (d : Nat) (K : Int → zH → Prop) (l1 : Int) (l2 : Int) (l5 : Int) (l6 : Int) (l7 : Int) (h : zH) : Prop := zTi G (d + 1) mX12_term K 153 [some (vr 12 466), some (vi l1), some (vi l2), none, none, some (vi l5), some (vi l6), some (vi l7)] [] h
theorem bX12_term_0 {G : zG} {d : Nat} {K : Int → zH → Prop} {l1 : Int} {l2 : Int} {l3 : Int} {l4 : Int} {h : zH} (k : zCb G d mX12_isState [vr 12 466, vi l1, vi l2] (zup h 466 0 0) (fun x1 h2 => (x1 = false → zCi G d mX12_refused [vr 12 466, vi 1] h2 (fun x3 h4 => K x3 h4)) ∧ (x1 = true → zCb G d mX12_in [vi l4, vi 0, vi 2] h2 (fun x5 h6 => (x5 = true → zCi G d mX12_termAt [vr 12 466, vi l1, vi l2, vi l3] h6 (fun x7 h8 => zR x7 ∧ (¬ x7 = (-1) → zR l4 ∧ (¬ l4 = 0 → zR l4 ∧ (¬ l4 = 1 → tX12_term_153 G d K l1 l2 x7 0 0 h8) ∧ (l4 = 1 → tX12_term_87 G d K l1 l2 x7 0 x7 h8)) ∧ (l4 = 0 → ((0 : Int) ≤ ((l1 * 128) + x7) ∧ ((l1 * 128) + x7) < 1792) ∧ zCi G d mX12_good [vr 12 466, vi (h8 497 ((l1 * 128) + x7))] h8 (fun x9 h10 => K x9 h10))) ∧ (x7 = (-1) → zCi G d mX12_refused [vr 12 466, vi 1] h8 (fun x11 h12 => K x11 h12)))) ∧ (x5 = false → zCi G d mX12_refused [vr 12 466, vi 1] h6 (fun x13 h14 => K x13 h14)))))) : tX12_term_0 G d K l1 l2 l3 l4 h := by
  unfold tX12_term_0
  refine z_aload_n 0 dX12_term_0 rfl rfl (Nat.le_of_ble_eq_true rfl) rfl ?_
  refine z_iconst dX12_term_1 rfl ?_
  refine z_putI 12 gX12_190 dX12_term_2 rfl ?_
  refine z_aload_n 0 dX12_term_5 rfl rfl (Nat.le_of_ble_eq_true rfl) rfl ?_
  refine z_iload_n 1 dX12_term_6 rfl rfl rfl ?_
  refine z_iload_n 2 dX12_term_7 rfl rfl rfl ?_
  refine z_callVb vX12_isState kX12_599 dX12_term_8 rfl (zRo_d d) (as := [vi l1, vi l2]) (rest := []) (Nat.le_of_ble_eq_true rfl) rfl rfl (zCb_mono (fun x1 h2 k => ?_) k)
  obtain ⟨ka, kb⟩ := k
  refine z_ifb_eq (tgt := 24) dX12_term_11 rfl rfl ⟨fun q => ?_, fun q => ?_⟩
  · have k := ka q
    refine z_aload_n 0 dX12_term_24 rfl rfl (Nat.le_of_ble_eq_true rfl) rfl ?_
    refine z_iconst dX12_term_25 rfl ?_
    refine z_callVi vX12_refused kX12_426 dX12_term_26 rfl (zRo_d d) (as := [vi 1]) (rest := []) (Nat.le_of_ble_eq_true rfl) rfl rfl (zCi_mono (fun x3 h4 k => ?_) k)
    exact z_ireturn rfl dX12_term_29 ⟨_, rfl, k⟩
  · have k := kb q
    refine z_iload dX12_term_14 rfl rfl ?_
    refine z_iconst dX12_term_16 rfl ?_
    refine z_iconst dX12_term_17 rfl ?_
    refine z_callSb sX12_in kX12_201 dX12_term_18 rfl (zRo_d d) (as := [vi l4, vi 0, vi 2]) (rest := []) (Nat.le_of_ble_eq_true rfl) rfl rfl (zCb_mono (fun x5 h6 k => ?_) k)
    obtain ⟨ka, kb⟩ := k
    refine z_ifb_ne (tgt := 30) dX12_term_21 rfl rfl ⟨fun q => ?_, fun q => ?_⟩
    · have k := ka q
      refine z_aload_n 0 dX12_term_30 rfl rfl (Nat.le_of_ble_eq_true rfl) rfl ?_
      refine z_iload_n 1 dX12_term_31 rfl rfl rfl ?_
      refine z_iload_n 2 dX12_term_32 rfl rfl rfl ?_
      refine z_iload_n 3 dX12_term_33 rfl rfl rfl ?_
      refine z_callVi vX12_termAt kX12_605 dX12_term_34 rfl (zRo_d d) (as := [vi l1, vi l2, vi l3]) (rest := []) (Nat.le_of_ble_eq_true rfl) rfl rfl (zCi_mono (fun x7 h8 k => ?_) k)
      refine z_istore dX12_term_37 (Nat.le_of_ble_eq_true rfl) (L' := [some (vr 12 466), some (vi l1), some (vi l2), some (vi l3), some (vi l4), some (vi x7), none, none]) rfl rfl ?_
      refine z_iload dX12_term_39 rfl rfl ?_
      refine z_iconst dX12_term_41 rfl ?_
      obtain ⟨r1, ka, kb⟩ := k
      refine z_icmp_ne (tgt := 51) dX12_term_42 rfl r1 ⟨by decide, by decide⟩ rfl ⟨fun q => ?_, fun q => ?_⟩
      · have k := ka q
        refine z_iload dX12_term_51 rfl rfl ?_
        obtain ⟨r1, ka, kb⟩ := k
        refine z_if_ne (tgt := 74) dX12_term_53 rfl r1 rfl ⟨fun q => ?_, fun q => ?_⟩
        · have k := ka q
          refine z_iconst dX12_term_74 rfl ?_
          refine z_istore dX12_term_75 (Nat.le_of_ble_eq_true rfl) (L' := [some (vr 12 466), some (vi l1), some (vi l2), some (vi l3), some (vi l4), some (vi x7), some (vi 0), none]) rfl rfl ?_
          refine z_iload dX12_term_77 rfl rfl ?_
          refine z_iconst dX12_term_79 rfl ?_
          obtain ⟨r1, ka, kb⟩ := k
          refine z_icmp_ne (tgt := 150) dX12_term_80 rfl r1 ⟨by decide, by decide⟩ rfl ⟨fun q => ?_, fun q => ?_⟩
          · have k := ka q
            refine z_iconst dX12_term_150 rfl ?_
            refine z_istore dX12_term_151 (Nat.le_of_ble_eq_true rfl) (L' := [some (vr 12 466), some (vi l1), some (vi l2), some (vi l3), some (vi l4), some (vi x7), some (vi 0), some (vi 0)]) rfl rfl ?_
            exact z_sub (L' := [some (vr 12 466), some (vi l1), some (vi l2), none, none, some (vi x7), some (vi 0), some (vi 0)]) (And.intro rfl (And.intro rfl (And.intro rfl (And.intro rfl (And.intro rfl (And.intro rfl trivial)))))) k
          · have k := kb q
            refine z_iload dX12_term_83 rfl rfl ?_
            refine z_istore dX12_term_85 (Nat.le_of_ble_eq_true rfl) (L' := [some (vr 12 466), some (vi l1), some (vi l2), some (vi l3), some (vi l4), some (vi x7), some (vi 0), some (vi x7)]) rfl rfl ?_
            exact z_sub (L' := [some (vr 12 466), some (vi l1), some (vi l2), none, none, some (vi x7), some (vi 0), some (vi x7)]) (And.intro rfl (And.intro rfl (And.intro rfl (And.intro rfl (And.intro rfl (And.intro rfl trivial)))))) k
        · have k := kb q
          refine z_aload_n 0 dX12_term_56 rfl rfl (Nat.le_of_ble_eq_true rfl) rfl ?_
          refine z_aload_n 0 dX12_term_57 rfl rfl (Nat.le_of_ble_eq_true rfl) rfl ?_
          refine z_getF 12 13 (x := 497) fX12_106 rfl dX12_term_58 rfl rfl ?_
          refine z_iload_n 1 dX12_term_61 rfl rfl rfl ?_
          refine z_sipush dX12_term_62 rfl rfl ?_
          refine z_imul dX12_term_65 rfl ?_
          refine z_iload dX12_term_66 rfl rfl ?_
          refine z_iadd dX12_term_68 rfl ?_
          obtain ⟨i9, k⟩ := k
          refine z_iald (x := (h8 497 ((l1 * 128) + x7))) dX12_term_69 (by rw [zl_497]; exact i9) rfl rfl ?_
          refine z_callVi vX12_good kX12_196 dX12_term_70 rfl (zRo_d d) (as := [vi (h8 497 ((l1 * 128) + x7))]) (rest := []) (Nat.le_of_ble_eq_true rfl) rfl rfl (zCi_mono (fun x9 h10 k => ?_) k)
          exact z_ireturn rfl dX12_term_73 ⟨_, rfl, k⟩
      · have k := kb q
        refine z_aload_n 0 dX12_term_45 rfl rfl (Nat.le_of_ble_eq_true rfl) rfl ?_
        refine z_iconst dX12_term_46 rfl ?_
        refine z_callVi vX12_refused kX12_426 dX12_term_47 rfl (zRo_d d) (as := [vi 1]) (rest := []) (Nat.le_of_ble_eq_true rfl) rfl rfl (zCi_mono (fun x11 h12 k => ?_) k)
        exact z_ireturn rfl dX12_term_50 ⟨_, rfl, k⟩
    · have k := kb q
      refine z_aload_n 0 dX12_term_24 rfl rfl (Nat.le_of_ble_eq_true rfl) rfl ?_
      refine z_iconst dX12_term_25 rfl ?_
      refine z_callVi vX12_refused kX12_426 dX12_term_26 rfl (zRo_d d) (as := [vi 1]) (rest := []) (Nat.le_of_ble_eq_true rfl) rfl rfl (zCi_mono (fun x13 h14 k => ?_) k)
      exact z_ireturn rfl dX12_term_29 ⟨_, rfl, k⟩
theorem bX12_term_87 {G : zG} {d : Nat} {K : Int → zH → Prop} {l1 : Int} {l2 : Int} {l5 : Int} {l6 : Int} {l7 : Int} {h : zH} (k : ((0 : Int) ≤ l1 ∧ l1 < 14) ∧ zR l7 ∧ zR (h 496 l1) ∧ ((h 496 l1) ≤ l7 → zCi G d mX12_good [vr 12 466, vi l6] h (fun x1 h2 => K x1 h2)) ∧ (¬ (h 496 l1) ≤ l7 → zCb G d mX12_isLike [vr 12 466, vi l1, vi l2, vi l5, vi l7] h (fun x3 h4 => (x3 = false → tX12_term_87 G d K l1 l2 l5 (l6 + 0) (l7 + 1) h4) ∧ (x3 = true → zCi G d mX12_blockEnd [vr 12 466, vi l1, vi l7] h4 (fun x5 h6 => ((0 : Int) ≤ ((l1 * 128) + l7) ∧ ((l1 * 128) + l7) < 1792) ∧ tX12_term_87 G d K l1 l2 l5 (l6 + (x5 - (h6 497 ((l1 * 128) + l7)))) (l7 + 1) h6))))) : tX12_term_87 G d K l1 l2 l5 l6 l7 h := by
  unfold tX12_term_87
  refine z_iload dX12_term_87 rfl rfl ?_
  refine z_aload_n 0 dX12_term_89 rfl rfl (Nat.le_of_ble_eq_true rfl) rfl ?_
  refine z_getF 12 13 (x := 496) fX12_103 rfl dX12_term_90 rfl rfl ?_
  refine z_iload_n 1 dX12_term_93 rfl rfl rfl ?_
  obtain ⟨i9, k⟩ := k
  refine z_iald (x := (h 496 l1)) dX12_term_94 (by rw [zl_496]; exact i9) rfl rfl ?_
  obtain ⟨r1, r2, ka, kb⟩ := k
  refine z_icmp_ge (tgt := 147) dX12_term_95 rfl r1 r2 rfl ⟨fun q => ?_, fun q => ?_⟩
  · have k := ka q
    refine z_goto (tgt := 209) dX12_term_147 rfl ?_
    refine z_aload_n 0 dX12_term_209 rfl rfl (Nat.le_of_ble_eq_true rfl) rfl ?_
    refine z_iload dX12_term_210 rfl rfl ?_
    refine z_callVi vX12_good kX12_196 dX12_term_212 rfl (zRo_d d) (as := [vi l6]) (rest := []) (Nat.le_of_ble_eq_true rfl) rfl rfl (zCi_mono (fun x1 h2 k => ?_) k)
    exact z_ireturn rfl dX12_term_215 ⟨_, rfl, k⟩
  · have k := kb q
    refine z_iload dX12_term_98 rfl rfl ?_
    refine z_aload_n 0 dX12_term_100 rfl rfl (Nat.le_of_ble_eq_true rfl) rfl ?_
    refine z_iload_n 1 dX12_term_101 rfl rfl rfl ?_
    refine z_iload_n 2 dX12_term_102 rfl rfl rfl ?_
    refine z_iload dX12_term_103 rfl rfl ?_
    refine z_iload dX12_term_105 rfl rfl ?_
    refine z_callVb vX12_isLike kX12_595 dX12_term_107 rfl (zRo_d d) (as := [vi l1, vi l2, vi l5, vi l7]) (rest := [vi l6]) (Nat.le_of_ble_eq_true rfl) rfl rfl (zCb_mono (fun x3 h4 k => ?_) k)
    obtain ⟨ka, kb⟩ := k
    refine z_ifb_eq (tgt := 137) dX12_term_110 rfl rfl ⟨fun q => ?_, fun q => ?_⟩
    · have k := ka q
      refine z_iconst dX12_term_137 rfl ?_
      refine z_iadd dX12_term_138 rfl ?_
      refine z_istore dX12_term_139 (Nat.le_of_ble_eq_true rfl) (L' := [some (vr 12 466), some (vi l1), some (vi l2), none, none, some (vi l5), some (vi (l6 + 0)), some (vi l7)]) rfl rfl ?_
      refine z_iinc dX12_term_141 rfl (Nat.le_of_ble_eq_true rfl) (L' := [some (vr 12 466), some (vi l1), some (vi l2), none, none, some (vi l5), some (vi (l6 + 0)), some (vi (l7 + 1))]) rfl rfl ?_
      refine z_goto (tgt := 87) dX12_term_144 rfl ?_
      exact z_sub (L' := [some (vr 12 466), some (vi l1), some (vi l2), none, none, some (vi l5), some (vi (l6 + 0)), some (vi (l7 + 1))]) (And.intro rfl (And.intro rfl (And.intro rfl (And.intro rfl (And.intro rfl (And.intro rfl trivial)))))) k
    · have k := kb q
      refine z_aload_n 0 dX12_term_113 rfl rfl (Nat.le_of_ble_eq_true rfl) rfl ?_
      refine z_iload_n 1 dX12_term_114 rfl rfl rfl ?_
      refine z_iload dX12_term_115 rfl rfl ?_
      refine z_callVi vX12_blockEnd kX12_571 dX12_term_117 rfl (zRo_d d) (as := [vi l1, vi l7]) (rest := [vi l6]) (Nat.le_of_ble_eq_true rfl) rfl rfl (zCi_mono (fun x5 h6 k => ?_) k)
      refine z_aload_n 0 dX12_term_120 rfl rfl (Nat.le_of_ble_eq_true rfl) rfl ?_
      refine z_getF 12 13 (x := 497) fX12_106 rfl dX12_term_121 rfl rfl ?_
      refine z_iload_n 1 dX12_term_124 rfl rfl rfl ?_
      refine z_sipush dX12_term_125 rfl rfl ?_
      refine z_imul dX12_term_128 rfl ?_
      refine z_iload dX12_term_129 rfl rfl ?_
      refine z_iadd dX12_term_131 rfl ?_
      obtain ⟨i9, k⟩ := k
      refine z_iald (x := (h6 497 ((l1 * 128) + l7))) dX12_term_132 (by rw [zl_497]; exact i9) rfl rfl ?_
      refine z_isub dX12_term_133 rfl ?_
      refine z_goto (tgt := 138) dX12_term_134 rfl ?_
      refine z_iadd dX12_term_138 rfl ?_
      refine z_istore dX12_term_139 (Nat.le_of_ble_eq_true rfl) (L' := [some (vr 12 466), some (vi l1), some (vi l2), none, none, some (vi l5), some (vi (l6 + (x5 - (h6 497 ((l1 * 128) + l7))))), some (vi l7)]) rfl rfl ?_
      refine z_iinc dX12_term_141 rfl (Nat.le_of_ble_eq_true rfl) (L' := [some (vr 12 466), some (vi l1), some (vi l2), none, none, some (vi l5), some (vi (l6 + (x5 - (h6 497 ((l1 * 128) + l7))))), some (vi (l7 + 1))]) rfl rfl ?_
      refine z_goto (tgt := 87) dX12_term_144 rfl ?_
      exact z_sub (L' := [some (vr 12 466), some (vi l1), some (vi l2), none, none, some (vi l5), some (vi (l6 + (x5 - (h6 497 ((l1 * 128) + l7))))), some (vi (l7 + 1))]) (And.intro rfl (And.intro rfl (And.intro rfl (And.intro rfl (And.intro rfl (And.intro rfl trivial)))))) k
theorem bX12_term_153 {G : zG} {d : Nat} {K : Int → zH → Prop} {l1 : Int} {l2 : Int} {l5 : Int} {l6 : Int} {l7 : Int} {h : zH} (k : ((0 : Int) ≤ l1 ∧ l1 < 14) ∧ zR l7 ∧ zR (h 494 l1) ∧ ((h 494 l1) ≤ l7 → zCi G d mX12_good [vr 12 466, vi l6] h (fun x1 h2 => K x1 h2)) ∧ (¬ (h 494 l1) ≤ l7 → ((0 : Int) ≤ ((l1 * 160) + l7) ∧ ((l1 * 160) + l7) < 2240) ∧ zR (h 498 ((l1 * 160) + l7)) ∧ zR l2 ∧ (¬ (h 498 ((l1 * 160) + l7)) = l2 → tX12_term_153 G d K l1 l2 l5 (l6 + 0) (l7 + 1) h) ∧ ((h 498 ((l1 * 160) + l7)) = l2 → zCb G d mX12_edgeHas [vr 12 466, vi l1, vi l7, vi l5] h (fun x3 h4 => (x3 = false → tX12_term_153 G d K l1 l2 l5 (l6 + 0) (l7 + 1) h4) ∧ (x3 = true → tX12_term_153 G d K l1 l2 l5 (l6 + 1) (l7 + 1) h4))))) : tX12_term_153 G d K l1 l2 l5 l6 l7 h := by
  unfold tX12_term_153
  refine z_iload dX12_term_153 rfl rfl ?_
  refine z_aload_n 0 dX12_term_155 rfl rfl (Nat.le_of_ble_eq_true rfl) rfl ?_
  refine z_getF 12 13 (x := 494) fX12_97 rfl dX12_term_156 rfl rfl ?_
  refine z_iload_n 1 dX12_term_159 rfl rfl rfl ?_
  obtain ⟨i9, k⟩ := k
  refine z_iald (x := (h 494 l1)) dX12_term_160 (by rw [zl_494]; exact i9) rfl rfl ?_
  obtain ⟨r1, r2, ka, kb⟩ := k
  refine z_icmp_ge (tgt := 209) dX12_term_161 rfl r1 r2 rfl ⟨fun q => ?_, fun q => ?_⟩
  · have k := ka q
    refine z_aload_n 0 dX12_term_209 rfl rfl (Nat.le_of_ble_eq_true rfl) rfl ?_
    refine z_iload dX12_term_210 rfl rfl ?_
    refine z_callVi vX12_good kX12_196 dX12_term_212 rfl (zRo_d d) (as := [vi l6]) (rest := []) (Nat.le_of_ble_eq_true rfl) rfl rfl (zCi_mono (fun x1 h2 k => ?_) k)
    exact z_ireturn rfl dX12_term_215 ⟨_, rfl, k⟩
  · have k := kb q
    refine z_iload dX12_term_164 rfl rfl ?_
    refine z_aload_n 0 dX12_term_166 rfl rfl (Nat.le_of_ble_eq_true rfl) rfl ?_
    refine z_getF 12 13 (x := 498) fX12_109 rfl dX12_term_167 rfl rfl ?_
    refine z_iload_n 1 dX12_term_170 rfl rfl rfl ?_
    refine z_sipush dX12_term_171 rfl rfl ?_
    refine z_imul dX12_term_174 rfl ?_
    refine z_iload dX12_term_175 rfl rfl ?_
    refine z_iadd dX12_term_177 rfl ?_
    obtain ⟨i9, k⟩ := k
    refine z_iald (x := (h 498 ((l1 * 160) + l7))) dX12_term_178 (by rw [zl_498]; exact i9) rfl rfl ?_
    refine z_iload_n 2 dX12_term_179 rfl rfl rfl ?_
    obtain ⟨r1, r2, ka, kb⟩ := k
    refine z_icmp_ne (tgt := 199) dX12_term_180 rfl r1 r2 rfl ⟨fun q => ?_, fun q => ?_⟩
    · have k := ka q
      refine z_iconst dX12_term_199 rfl ?_
      refine z_iadd dX12_term_200 rfl ?_
      refine z_istore dX12_term_201 (Nat.le_of_ble_eq_true rfl) (L' := [some (vr 12 466), some (vi l1), some (vi l2), none, none, some (vi l5), some (vi (l6 + 0)), some (vi l7)]) rfl rfl ?_
      refine z_iinc dX12_term_203 rfl (Nat.le_of_ble_eq_true rfl) (L' := [some (vr 12 466), some (vi l1), some (vi l2), none, none, some (vi l5), some (vi (l6 + 0)), some (vi (l7 + 1))]) rfl rfl ?_
      refine z_goto (tgt := 153) dX12_term_206 rfl ?_
      exact z_sub (L' := [some (vr 12 466), some (vi l1), some (vi l2), none, none, some (vi l5), some (vi (l6 + 0)), some (vi (l7 + 1))]) (And.intro rfl (And.intro rfl (And.intro rfl (And.intro rfl (And.intro rfl (And.intro rfl trivial)))))) k
    · have k := kb q
      refine z_aload_n 0 dX12_term_183 rfl rfl (Nat.le_of_ble_eq_true rfl) rfl ?_
      refine z_iload_n 1 dX12_term_184 rfl rfl rfl ?_
      refine z_iload dX12_term_185 rfl rfl ?_
      refine z_iload dX12_term_187 rfl rfl ?_
      refine z_callVb vX12_edgeHas kX12_527 dX12_term_189 rfl (zRo_d d) (as := [vi l1, vi l7, vi l5]) (rest := [vi l6]) (Nat.le_of_ble_eq_true rfl) rfl rfl (zCb_mono (fun x3 h4 k => ?_) k)
      obtain ⟨ka, kb⟩ := k
      refine z_ifb_eq (tgt := 199) dX12_term_192 rfl rfl ⟨fun q => ?_, fun q => ?_⟩
      · have k := ka q
        refine z_iconst dX12_term_199 rfl ?_
        refine z_iadd dX12_term_200 rfl ?_
        refine z_istore dX12_term_201 (Nat.le_of_ble_eq_true rfl) (L' := [some (vr 12 466), some (vi l1), some (vi l2), none, none, some (vi l5), some (vi (l6 + 0)), some (vi l7)]) rfl rfl ?_
        refine z_iinc dX12_term_203 rfl (Nat.le_of_ble_eq_true rfl) (L' := [some (vr 12 466), some (vi l1), some (vi l2), none, none, some (vi l5), some (vi (l6 + 0)), some (vi (l7 + 1))]) rfl rfl ?_
        refine z_goto (tgt := 153) dX12_term_206 rfl ?_
        exact z_sub (L' := [some (vr 12 466), some (vi l1), some (vi l2), none, none, some (vi l5), some (vi (l6 + 0)), some (vi (l7 + 1))]) (And.intro rfl (And.intro rfl (And.intro rfl (And.intro rfl (And.intro rfl (And.intro rfl trivial)))))) k
      · have k := kb q
        refine z_iconst dX12_term_195 rfl ?_
        refine z_goto (tgt := 200) dX12_term_196 rfl ?_
        refine z_iadd dX12_term_200 rfl ?_
        refine z_istore dX12_term_201 (Nat.le_of_ble_eq_true rfl) (L' := [some (vr 12 466), some (vi l1), some (vi l2), none, none, some (vi l5), some (vi (l6 + 1)), some (vi l7)]) rfl rfl ?_
        refine z_iinc dX12_term_203 rfl (Nat.le_of_ble_eq_true rfl) (L' := [some (vr 12 466), some (vi l1), some (vi l2), none, none, some (vi l5), some (vi (l6 + 1)), some (vi (l7 + 1))]) rfl rfl ?_
        refine z_goto (tgt := 153) dX12_term_206 rfl ?_
        exact z_sub (L' := [some (vr 12 466), some (vi l1), some (vi l2), none, none, some (vi l5), some (vi (l6 + 1)), some (vi (l7 + 1))]) (And.intro rfl (And.intro rfl (And.intro rfl (And.intro rfl (And.intro rfl (And.intro rfl trivial)))))) k
theorem eX12_term {G : zG} {d : Nat} {K : Int → zH → Prop} {l1 : Int} {l2 : Int} {l3 : Int} {l4 : Int} {h : zH} (k : tX12_term_0 G d K l1 l2 l3 l4 h) : zCi G (d + 1) mX12_term [vr 12 466, vi l1, vi l2, vi l3, vi l4] h K := z_entry (by decide +kernel) (Nat.le_of_ble_eq_true rfl) rfl k
def tX12_isClass_0 (G : zG) (d : Nat) (K : Bool → zH → Prop) (l1 : Int) (l2 : Int) (h : zH) : Prop := zTb G (d + 1) mX12_isClass K 0 [some (vr 12 466), some (vi l1), some (vi l2)] [] h
theorem bX12_isClass_0 {G : zG} {d : Nat} {K : Bool → zH → Prop} {l1 : Int} {l2 : Int} {h : zH} (k : zCb G d mX12_isMachine [vr 12 466, vi l1] h (fun x1 h2 => (x1 = false → K false h2) ∧ (x1 = true → zR l2 ∧ (0 ≤ l2 → zCv G d mX12_sorts [vr 12 466, vi l1, vi 0] h2 (fun h4 => zR l2 ∧ zR (h4 512 0) ∧ ((h4 512 0) ≤ l2 → K false h4) ∧ (¬ (h4 512 0) ≤ l2 → K true h4))) ∧ (¬ 0 ≤ l2 → K false h2)))) : tX12_isClass_0 G d K l1 l2 h := by
  unfold tX12_isClass_0
  refine z_aload_n 0 dX12_isClass_0 rfl rfl (Nat.le_of_ble_eq_true rfl) rfl ?_
  refine z_iload_n 1 dX12_isClass_1 rfl rfl rfl ?_
  refine z_callVb vX12_isMachine kX12_561 dX12_isClass_2 rfl (zRo_d d) (as := [vi l1]) (rest := []) (Nat.le_of_ble_eq_true rfl) rfl rfl (zCb_mono (fun x1 h2 k => ?_) k)
  obtain ⟨ka, kb⟩ := k
  refine z_ifb_eq (tgt := 12) dX12_isClass_5 rfl rfl ⟨fun q => ?_, fun q => ?_⟩
  · have k := ka q
    refine z_iconst dX12_isClass_12 rfl ?_
    exact z_zreturn rfl (Or.inl rfl) dX12_isClass_13 ⟨false, rfl, k⟩
  · have k := kb q
    refine z_iload_n 2 dX12_isClass_8 rfl rfl rfl ?_
    obtain ⟨r1, ka, kb⟩ := k
    refine z_if_ge (tgt := 14) dX12_isClass_9 rfl r1 rfl ⟨fun q => ?_, fun q => ?_⟩
    · have k := ka q
      refine z_aload_n 0 dX12_isClass_14 rfl rfl (Nat.le_of_ble_eq_true rfl) rfl ?_
      refine z_iload_n 1 dX12_isClass_15 rfl rfl rfl ?_
      refine z_iconst dX12_isClass_16 rfl ?_
      refine z_callVv vX12_sorts kX12_568 dX12_isClass_17 rfl (zRo_d d) (as := [vi l1, vi 0]) (rest := []) (Nat.le_of_ble_eq_true rfl) rfl rfl (zCv_mono (fun h4 k => ?_) k)
      refine z_iload_n 2 dX12_isClass_20 rfl rfl rfl ?_
      refine z_aload_n 0 dX12_isClass_21 rfl rfl (Nat.le_of_ble_eq_true rfl) rfl ?_
      refine z_getF 12 13 (x := 512) fX12_151 rfl dX12_isClass_22 rfl rfl ?_
      refine z_iconst dX12_isClass_25 rfl ?_
      refine z_iald (x := (h4 512 0)) dX12_isClass_26 (by rw [zl_512]; decide) rfl rfl ?_
      obtain ⟨r1, r2, ka, kb⟩ := k
      refine z_icmp_ge (tgt := 34) dX12_isClass_27 rfl r1 r2 rfl ⟨fun q => ?_, fun q => ?_⟩
      · have k := ka q
        refine z_iconst dX12_isClass_34 rfl ?_
        exact z_zreturn rfl (Or.inl rfl) dX12_isClass_35 ⟨false, rfl, k⟩
      · have k := kb q
        refine z_iconst dX12_isClass_30 rfl ?_
        refine z_goto (tgt := 35) dX12_isClass_31 rfl ?_
        exact z_zreturn rfl (Or.inr rfl) dX12_isClass_35 ⟨true, rfl, k⟩
    · have k := kb q
      refine z_iconst dX12_isClass_12 rfl ?_
      exact z_zreturn rfl (Or.inl rfl) dX12_isClass_13 ⟨false, rfl, k⟩
theorem eX12_isClass {G : zG} {d : Nat} {K : Bool → zH → Prop} {l1 : Int} {l2 : Int} {h : zH} (k : tX12_isClass_0 G d K l1 l2 h) : zCb G (d + 1) mX12_isClass [vr 12 466, vi l1, vi l2] h K := z_entry (by decide +kernel) (Nat.le_of_ble_eq_true rfl) rfl k
def tX12_go_0 (G : zG) (d : Nat) (K : Int → zH → Prop) (l1 : Int) (l2 : Int) (l3 : Int) (h : zH) : Prop := zTi G (d + 1) mX12_go K 0 [some (vr 12 466), some (vi l1), some (vi l2), some (vi l3)] [] h
theorem bX12_go_0 {G : zG} {d : Nat} {K : Int → zH → Prop} {l1 : Int} {l2 : Int} {l3 : Int} {h : zH} (k : zCb G d mX12_isClass [vr 12 466, vi l1, vi l2] (zup h 466 0 0) (fun x1 h2 => (x1 = true → zCb G d mX12_isLetter [vi l3] h2 (fun x3 h4 => (x3 = true → zCi G d mX12_blockAt [vr 12 466, vi l1, vi l3] h4 (fun x5 h6 => zCi G d mX12_classGoes [vr 12 466, vi 0, vi l2, vi x5] h6 (fun x7 h8 => zCi G d mX12_good [vr 12 466, vi x7] h8 (fun x9 h10 => K x9 h10)))) ∧ (x3 = false → zCi G d mX12_refused [vr 12 466, vi 2] h4 (fun x11 h12 => K x11 h12)))) ∧ (x1 = false → zCi G d mX12_refused [vr 12 466, vi 1] h2 (fun x13 h14 => K x13 h14)))) : tX12_go_0 G d K l1 l2 l3 h := by
  unfold tX12_go_0
  refine z_aload_n 0 dX12_go_0 rfl rfl (Nat.le_of_ble_eq_true rfl) rfl ?_
  refine z_iconst dX12_go_1 rfl ?_
  refine z_putI 12 gX12_190 dX12_go_2 rfl ?_
  refine z_aload_n 0 dX12_go_5 rfl rfl (Nat.le_of_ble_eq_true rfl) rfl ?_
  refine z_iload_n 1 dX12_go_6 rfl rfl rfl ?_
  refine z_iload_n 2 dX12_go_7 rfl rfl rfl ?_
  refine z_callVb vX12_isClass kX12_608 dX12_go_8 rfl (zRo_d d) (as := [vi l1, vi l2]) (rest := []) (Nat.le_of_ble_eq_true rfl) rfl rfl (zCb_mono (fun x1 h2 k => ?_) k)
  obtain ⟨ka, kb⟩ := k
  refine z_ifb_ne (tgt := 20) dX12_go_11 rfl rfl ⟨fun q => ?_, fun q => ?_⟩
  · have k := ka q
    refine z_iload_n 3 dX12_go_20 rfl rfl rfl ?_
    refine z_callSb sX12_isLetter kX12_450 dX12_go_21 rfl (zRo_d d) (as := [vi l3]) (rest := []) (Nat.le_of_ble_eq_true rfl) rfl rfl (zCb_mono (fun x3 h4 k => ?_) k)
    obtain ⟨ka, kb⟩ := k
    refine z_ifb_ne (tgt := 33) dX12_go_24 rfl rfl ⟨fun q => ?_, fun q => ?_⟩
    · have k := ka q
      refine z_aload_n 0 dX12_go_33 rfl rfl (Nat.le_of_ble_eq_true rfl) rfl ?_
      refine z_aload_n 0 dX12_go_34 rfl rfl (Nat.le_of_ble_eq_true rfl) rfl ?_
      refine z_iconst dX12_go_35 rfl ?_
      refine z_iload_n 2 dX12_go_36 rfl rfl rfl ?_
      refine z_aload_n 0 dX12_go_37 rfl rfl (Nat.le_of_ble_eq_true rfl) rfl ?_
      refine z_iload_n 1 dX12_go_38 rfl rfl rfl ?_
      refine z_iload_n 3 dX12_go_39 rfl rfl rfl ?_
      refine z_callVi vX12_blockAt kX12_524 dX12_go_40 rfl (zRo_d d) (as := [vi l1, vi l3]) (rest := [vi l2, vi 0, vr 12 466, vr 12 466]) (Nat.le_of_ble_eq_true rfl) rfl rfl (zCi_mono (fun x5 h6 k => ?_) k)
      refine z_callVi vX12_classGoes kX12_611 dX12_go_43 rfl (zRo_d d) (as := [vi 0, vi l2, vi x5]) (rest := [vr 12 466]) (Nat.le_of_ble_eq_true rfl) rfl rfl (zCi_mono (fun x7 h8 k => ?_) k)
      refine z_callVi vX12_good kX12_196 dX12_go_46 rfl (zRo_d d) (as := [vi x7]) (rest := []) (Nat.le_of_ble_eq_true rfl) rfl rfl (zCi_mono (fun x9 h10 k => ?_) k)
      exact z_ireturn rfl dX12_go_49 ⟨_, rfl, k⟩
    · have k := kb q
      refine z_aload_n 0 dX12_go_27 rfl rfl (Nat.le_of_ble_eq_true rfl) rfl ?_
      refine z_iconst dX12_go_28 rfl ?_
      refine z_callVi vX12_refused kX12_426 dX12_go_29 rfl (zRo_d d) (as := [vi 2]) (rest := []) (Nat.le_of_ble_eq_true rfl) rfl rfl (zCi_mono (fun x11 h12 k => ?_) k)
      exact z_ireturn rfl dX12_go_32 ⟨_, rfl, k⟩
  · have k := kb q
    refine z_aload_n 0 dX12_go_14 rfl rfl (Nat.le_of_ble_eq_true rfl) rfl ?_
    refine z_iconst dX12_go_15 rfl ?_
    refine z_callVi vX12_refused kX12_426 dX12_go_16 rfl (zRo_d d) (as := [vi 1]) (rest := []) (Nat.le_of_ble_eq_true rfl) rfl rfl (zCi_mono (fun x13 h14 k => ?_) k)
    exact z_ireturn rfl dX12_go_19 ⟨_, rfl, k⟩
theorem eX12_go {G : zG} {d : Nat} {K : Int → zH → Prop} {l1 : Int} {l2 : Int} {l3 : Int} {h : zH} (k : tX12_go_0 G d K l1 l2 l3 h) : zCi G (d + 1) mX12_go [vr 12 466, vi l1, vi l2, vi l3] h K := z_entry (by decide +kernel) (Nat.le_of_ble_eq_true rfl) rfl k
def tX12_takes_0 (G : zG) (d : Nat) (K : Int → zH → Prop) (l1 : Int) (l2 : Int) (h : zH) : Prop := zTi G (d + 1) mX12_takes K 0 [some (vr 12 466), some (vi l1), some (vi l2)] [] h
theorem bX12_takes_0 {G : zG} {d : Nat} {K : Int → zH → Prop} {l1 : Int} {l2 : Int} {h : zH} (k : zCb G d mX12_isClass [vr 12 466, vi l1, vi l2] (zup h 466 0 0) (fun x1 h2 => (x1 = true → zCb G d mX12_classEnds [vr 12 466, vi l1, vi 0, vi l2] h2 (fun x3 h4 => (x3 = false → zCi G d mX12_good [vr 12 466, vi 0] h4 (fun x5 h6 => K x5 h6)) ∧ (x3 = true → zCi G d mX12_good [vr 12 466, vi 1] h4 (fun x7 h8 => K x7 h8)))) ∧ (x1 = false → zCi G d mX12_refused [vr 12 466, vi 1] h2 (fun x9 h10 => K x9 h10)))) : tX12_takes_0 G d K l1 l2 h := by
  unfold tX12_takes_0
  refine z_aload_n 0 dX12_takes_0 rfl rfl (Nat.le_of_ble_eq_true rfl) rfl ?_
  refine z_iconst dX12_takes_1 rfl ?_
  refine z_putI 12 gX12_190 dX12_takes_2 rfl ?_
  refine z_aload_n 0 dX12_takes_5 rfl rfl (Nat.le_of_ble_eq_true rfl) rfl ?_
  refine z_iload_n 1 dX12_takes_6 rfl rfl rfl ?_
  refine z_iload_n 2 dX12_takes_7 rfl rfl rfl ?_
  refine z_callVb vX12_isClass kX12_608 dX12_takes_8 rfl (zRo_d d) (as := [vi l1, vi l2]) (rest := []) (Nat.le_of_ble_eq_true rfl) rfl rfl (zCb_mono (fun x1 h2 k => ?_) k)
  obtain ⟨ka, kb⟩ := k
  refine z_ifb_ne (tgt := 20) dX12_takes_11 rfl rfl ⟨fun q => ?_, fun q => ?_⟩
  · have k := ka q
    refine z_aload_n 0 dX12_takes_20 rfl rfl (Nat.le_of_ble_eq_true rfl) rfl ?_
    refine z_aload_n 0 dX12_takes_21 rfl rfl (Nat.le_of_ble_eq_true rfl) rfl ?_
    refine z_iload_n 1 dX12_takes_22 rfl rfl rfl ?_
    refine z_iconst dX12_takes_23 rfl ?_
    refine z_iload_n 2 dX12_takes_24 rfl rfl rfl ?_
    refine z_callVb vX12_classEnds kX12_614 dX12_takes_25 rfl (zRo_d d) (as := [vi l1, vi 0, vi l2]) (rest := [vr 12 466]) (Nat.le_of_ble_eq_true rfl) rfl rfl (zCb_mono (fun x3 h4 k => ?_) k)
    obtain ⟨ka, kb⟩ := k
    refine z_ifb_eq (tgt := 35) dX12_takes_28 rfl rfl ⟨fun q => ?_, fun q => ?_⟩
    · have k := ka q
      refine z_iconst dX12_takes_35 rfl ?_
      refine z_callVi vX12_good kX12_196 dX12_takes_36 rfl (zRo_d d) (as := [vi 0]) (rest := []) (Nat.le_of_ble_eq_true rfl) rfl rfl (zCi_mono (fun x5 h6 k => ?_) k)
      exact z_ireturn rfl dX12_takes_39 ⟨_, rfl, k⟩
    · have k := kb q
      refine z_iconst dX12_takes_31 rfl ?_
      refine z_goto (tgt := 36) dX12_takes_32 rfl ?_
      refine z_callVi vX12_good kX12_196 dX12_takes_36 rfl (zRo_d d) (as := [vi 1]) (rest := []) (Nat.le_of_ble_eq_true rfl) rfl rfl (zCi_mono (fun x7 h8 k => ?_) k)
      exact z_ireturn rfl dX12_takes_39 ⟨_, rfl, k⟩
  · have k := kb q
    refine z_aload_n 0 dX12_takes_14 rfl rfl (Nat.le_of_ble_eq_true rfl) rfl ?_
    refine z_iconst dX12_takes_15 rfl ?_
    refine z_callVi vX12_refused kX12_426 dX12_takes_16 rfl (zRo_d d) (as := [vi 1]) (rest := []) (Nat.le_of_ble_eq_true rfl) rfl rfl (zCi_mono (fun x9 h10 k => ?_) k)
    exact z_ireturn rfl dX12_takes_19 ⟨_, rfl, k⟩
theorem eX12_takes {G : zG} {d : Nat} {K : Int → zH → Prop} {l1 : Int} {l2 : Int} {h : zH} (k : tX12_takes_0 G d K l1 l2 h) : zCi G (d + 1) mX12_takes [vr 12 466, vi l1, vi l2] h K := z_entry (by decide +kernel) (Nat.le_of_ble_eq_true rfl) rfl k
def tX12_isDead_0 (G : zG) (d : Nat) (K : Bool → zH → Prop) (l1 : Int) (l2 : Int) (h : zH) : Prop := zTb G (d + 1) mX12_isDead K 0 [some (vr 12 466), some (vi l1), some (vi l2), none] [] h
def tX12_isDead_2 (G : zG) (d : Nat) (K : Bool → zH → Prop) (l1 : Int) (l2 : Int) (l3 : Int) (h : zH) : Prop := zTb G (d + 1) mX12_isDead K 2 [some (vr 12 466), some (vi l1), some (vi l2), some (vi l3)] [] h
theorem bX12_isDead_0 {G : zG} {d : Nat} {K : Bool → zH → Prop} {l1 : Int} {l2 : Int} {h : zH} (k : tX12_isDead_2 G d K l1 l2 0 h) : tX12_isDead_0 G d K l1 l2 h := by
  unfold tX12_isDead_0
  refine z_iconst dX12_isDead_0 rfl ?_
  refine z_istore_n 3 dX12_isDead_1 rfl (Nat.le_of_ble_eq_true rfl) (L' := [some (vr 12 466), some (vi l1), some (vi l2), some (vi 0)]) rfl rfl ?_
  exact z_sub (L' := [some (vr 12 466), some (vi l1), some (vi l2), some (vi 0)]) (And.intro rfl (And.intro rfl (And.intro rfl (And.intro rfl trivial)))) k
theorem bX12_isDead_2 {G : zG} {d : Nat} {K : Bool → zH → Prop} {l1 : Int} {l2 : Int} {l3 : Int} {h : zH} (k : ((0 : Int) ≤ l1 ∧ l1 < 14) ∧ zR l3 ∧ zR (h 496 l1) ∧ ((h 496 l1) ≤ l3 → zCb G d mX12_classEnds [vr 12 466, vi l1, vi 0, vi l2] h (fun x1 h2 => (x1 = true → K false h2) ∧ (x1 = false → K true h2))) ∧ (¬ (h 496 l1) ≤ l3 → zCi G d mX12_classGoes [vr 12 466, vi 0, vi l2, vi l3] h (fun x3 h4 => zR x3 ∧ zR l2 ∧ (x3 = l2 → tX12_isDead_2 G d K l1 l2 (l3 + 1) h4) ∧ (¬ x3 = l2 → K false h4)))) : tX12_isDead_2 G d K l1 l2 l3 h := by
  unfold tX12_isDead_2
  refine z_iload_n 3 dX12_isDead_2 rfl rfl rfl ?_
  refine z_aload_n 0 dX12_isDead_3 rfl rfl (Nat.le_of_ble_eq_true rfl) rfl ?_
  refine z_getF 12 13 (x := 496) fX12_103 rfl dX12_isDead_4 rfl rfl ?_
  refine z_iload_n 1 dX12_isDead_7 rfl rfl rfl ?_
  obtain ⟨i9, k⟩ := k
  refine z_iald (x := (h 496 l1)) dX12_isDead_8 (by rw [zl_496]; exact i9) rfl rfl ?_
  obtain ⟨r1, r2, ka, kb⟩ := k
  refine z_icmp_ge (tgt := 31) dX12_isDead_9 rfl r1 r2 rfl ⟨fun q => ?_, fun q => ?_⟩
  · have k := ka q
    refine z_aload_n 0 dX12_isDead_31 rfl rfl (Nat.le_of_ble_eq_true rfl) rfl ?_
    refine z_iload_n 1 dX12_isDead_32 rfl rfl rfl ?_
    refine z_iconst dX12_isDead_33 rfl ?_
    refine z_iload_n 2 dX12_isDead_34 rfl rfl rfl ?_
    refine z_callVb vX12_classEnds kX12_614 dX12_isDead_35 rfl (zRo_d d) (as := [vi l1, vi 0, vi l2]) (rest := []) (Nat.le_of_ble_eq_true rfl) rfl rfl (zCb_mono (fun x1 h2 k => ?_) k)
    obtain ⟨ka, kb⟩ := k
    refine z_ifb_ne (tgt := 45) dX12_isDead_38 rfl rfl ⟨fun q => ?_, fun q => ?_⟩
    · have k := ka q
      refine z_iconst dX12_isDead_45 rfl ?_
      exact z_zreturn rfl (Or.inl rfl) dX12_isDead_46 ⟨false, rfl, k⟩
    · have k := kb q
      refine z_iconst dX12_isDead_41 rfl ?_
      refine z_goto (tgt := 46) dX12_isDead_42 rfl ?_
      exact z_zreturn rfl (Or.inr rfl) dX12_isDead_46 ⟨true, rfl, k⟩
  · have k := kb q
    refine z_aload_n 0 dX12_isDead_12 rfl rfl (Nat.le_of_ble_eq_true rfl) rfl ?_
    refine z_iconst dX12_isDead_13 rfl ?_
    refine z_iload_n 2 dX12_isDead_14 rfl rfl rfl ?_
    refine z_iload_n 3 dX12_isDead_15 rfl rfl rfl ?_
    refine z_callVi vX12_classGoes kX12_611 dX12_isDead_16 rfl (zRo_d d) (as := [vi 0, vi l2, vi l3]) (rest := []) (Nat.le_of_ble_eq_true rfl) rfl rfl (zCi_mono (fun x3 h4 k => ?_) k)
    refine z_iload_n 2 dX12_isDead_19 rfl rfl rfl ?_
    obtain ⟨r1, r2, ka, kb⟩ := k
    refine z_icmp_eq (tgt := 25) dX12_isDead_20 rfl r1 r2 rfl ⟨fun q => ?_, fun q => ?_⟩
    · have k := ka q
      refine z_iinc dX12_isDead_25 rfl (Nat.le_of_ble_eq_true rfl) (L' := [some (vr 12 466), some (vi l1), some (vi l2), some (vi (l3 + 1))]) rfl rfl ?_
      refine z_goto (tgt := 2) dX12_isDead_28 rfl ?_
      exact z_sub (L' := [some (vr 12 466), some (vi l1), some (vi l2), some (vi (l3 + 1))]) (And.intro rfl (And.intro rfl (And.intro rfl (And.intro rfl trivial)))) k
    · have k := kb q
      refine z_iconst dX12_isDead_23 rfl ?_
      exact z_zreturn rfl (Or.inl rfl) dX12_isDead_24 ⟨false, rfl, k⟩
theorem eX12_isDead {G : zG} {d : Nat} {K : Bool → zH → Prop} {l1 : Int} {l2 : Int} {h : zH} (k : tX12_isDead_0 G d K l1 l2 h) : zCb G (d + 1) mX12_isDead [vr 12 466, vi l1, vi l2] h K := z_entry (by decide +kernel) (Nat.le_of_ble_eq_true rfl) rfl k
def tX12_dead_0 (G : zG) (d : Nat) (K : Int → zH → Prop) (l1 : Int) (h : zH) : Prop := zTi G (d + 1) mX12_dead K 0 [some (vr 12 466), some (vi l1), none] [] h
def tX12_dead_27 (G : zG) (d : Nat) (K : Int → zH → Prop) (l1 : Int) (l2 : Int) (h : zH) : Prop := zTi G (d + 1) mX12_dead K 27 [some (vr 12 466), some (vi l1), some (vi l2)] [] h
theorem bX12_dead_0 {G : zG} {d : Nat} {K : Int → zH → Prop} {l1 : Int} {h : zH} (k : zCb G d mX12_isMachine [vr 12 466, vi l1] (zup h 466 0 0) (fun x1 h2 => (x1 = true → zCv G d mX12_sorts [vr 12 466, vi l1, vi 0] h2 (fun h4 => tX12_dead_27 G d K l1 0 h4)) ∧ (x1 = false → zCi G d mX12_refused [vr 12 466, vi 1] h2 (fun x5 h6 => K x5 h6)))) : tX12_dead_0 G d K l1 h := by
  unfold tX12_dead_0
  refine z_aload_n 0 dX12_dead_0 rfl rfl (Nat.le_of_ble_eq_true rfl) rfl ?_
  refine z_iconst dX12_dead_1 rfl ?_
  refine z_putI 12 gX12_190 dX12_dead_2 rfl ?_
  refine z_aload_n 0 dX12_dead_5 rfl rfl (Nat.le_of_ble_eq_true rfl) rfl ?_
  refine z_iload_n 1 dX12_dead_6 rfl rfl rfl ?_
  refine z_callVb vX12_isMachine kX12_561 dX12_dead_7 rfl (zRo_d d) (as := [vi l1]) (rest := []) (Nat.le_of_ble_eq_true rfl) rfl rfl (zCb_mono (fun x1 h2 k => ?_) k)
  obtain ⟨ka, kb⟩ := k
  refine z_ifb_ne (tgt := 19) dX12_dead_10 rfl rfl ⟨fun q => ?_, fun q => ?_⟩
  · have k := ka q
    refine z_aload_n 0 dX12_dead_19 rfl rfl (Nat.le_of_ble_eq_true rfl) rfl ?_
    refine z_iload_n 1 dX12_dead_20 rfl rfl rfl ?_
    refine z_iconst dX12_dead_21 rfl ?_
    refine z_callVv vX12_sorts kX12_568 dX12_dead_22 rfl (zRo_d d) (as := [vi l1, vi 0]) (rest := []) (Nat.le_of_ble_eq_true rfl) rfl rfl (zCv_mono (fun h4 k => ?_) k)
    refine z_iconst dX12_dead_25 rfl ?_
    refine z_istore_n 2 dX12_dead_26 rfl (Nat.le_of_ble_eq_true rfl) (L' := [some (vr 12 466), some (vi l1), some (vi 0)]) rfl rfl ?_
    exact z_sub (L' := [some (vr 12 466), some (vi l1), some (vi 0)]) (And.intro rfl (And.intro rfl (And.intro rfl trivial))) k
  · have k := kb q
    refine z_aload_n 0 dX12_dead_13 rfl rfl (Nat.le_of_ble_eq_true rfl) rfl ?_
    refine z_iconst dX12_dead_14 rfl ?_
    refine z_callVi vX12_refused kX12_426 dX12_dead_15 rfl (zRo_d d) (as := [vi 1]) (rest := []) (Nat.le_of_ble_eq_true rfl) rfl rfl (zCi_mono (fun x5 h6 k => ?_) k)
    exact z_ireturn rfl dX12_dead_18 ⟨_, rfl, k⟩
theorem bX12_dead_27 {G : zG} {d : Nat} {K : Int → zH → Prop} {l1 : Int} {l2 : Int} {h : zH} (k : zR l2 ∧ zR (h 512 0) ∧ ((h 512 0) ≤ l2 → zCi G d mX12_good [vr 12 466, vi (-2)] h (fun x1 h2 => K x1 h2)) ∧ (¬ (h 512 0) ≤ l2 → zCb G d mX12_isDead [vr 12 466, vi l1, vi l2] h (fun x3 h4 => (x3 = false → tX12_dead_27 G d K l1 (l2 + 1) h4) ∧ (x3 = true → zCi G d mX12_good [vr 12 466, vi l2] h4 (fun x5 h6 => K x5 h6))))) : tX12_dead_27 G d K l1 l2 h := by
  unfold tX12_dead_27
  refine z_iload_n 2 dX12_dead_27 rfl rfl rfl ?_
  refine z_aload_n 0 dX12_dead_28 rfl rfl (Nat.le_of_ble_eq_true rfl) rfl ?_
  refine z_getF 12 13 (x := 512) fX12_151 rfl dX12_dead_29 rfl rfl ?_
  refine z_iconst dX12_dead_32 rfl ?_
  refine z_iald (x := (h 512 0)) dX12_dead_33 (by rw [zl_512]; decide) rfl rfl ?_
  obtain ⟨r1, r2, ka, kb⟩ := k
  refine z_icmp_ge (tgt := 58) dX12_dead_34 rfl r1 r2 rfl ⟨fun q => ?_, fun q => ?_⟩
  · have k := ka q
    refine z_aload_n 0 dX12_dead_58 rfl rfl (Nat.le_of_ble_eq_true rfl) rfl ?_
    refine z_bipush dX12_dead_59 rfl rfl ?_
    refine z_callVi vX12_good kX12_196 dX12_dead_61 rfl (zRo_d d) (as := [vi (-2)]) (rest := []) (Nat.le_of_ble_eq_true rfl) rfl rfl (zCi_mono (fun x1 h2 k => ?_) k)
    exact z_ireturn rfl dX12_dead_64 ⟨_, rfl, k⟩
  · have k := kb q
    refine z_aload_n 0 dX12_dead_37 rfl rfl (Nat.le_of_ble_eq_true rfl) rfl ?_
    refine z_iload_n 1 dX12_dead_38 rfl rfl rfl ?_
    refine z_iload_n 2 dX12_dead_39 rfl rfl rfl ?_
    refine z_callVb vX12_isDead kX12_617 dX12_dead_40 rfl (zRo_d d) (as := [vi l1, vi l2]) (rest := []) (Nat.le_of_ble_eq_true rfl) rfl rfl (zCb_mono (fun x3 h4 k => ?_) k)
    obtain ⟨ka, kb⟩ := k
    refine z_ifb_eq (tgt := 52) dX12_dead_43 rfl rfl ⟨fun q => ?_, fun q => ?_⟩
    · have k := ka q
      refine z_iinc dX12_dead_52 rfl (Nat.le_of_ble_eq_true rfl) (L' := [some (vr 12 466), some (vi l1), some (vi (l2 + 1))]) rfl rfl ?_
      refine z_goto (tgt := 27) dX12_dead_55 rfl ?_
      exact z_sub (L' := [some (vr 12 466), some (vi l1), some (vi (l2 + 1))]) (And.intro rfl (And.intro rfl (And.intro rfl trivial))) k
    · have k := kb q
      refine z_aload_n 0 dX12_dead_46 rfl rfl (Nat.le_of_ble_eq_true rfl) rfl ?_
      refine z_iload_n 2 dX12_dead_47 rfl rfl rfl ?_
      refine z_callVi vX12_good kX12_196 dX12_dead_48 rfl (zRo_d d) (as := [vi l2]) (rest := []) (Nat.le_of_ble_eq_true rfl) rfl rfl (zCi_mono (fun x5 h6 k => ?_) k)
      exact z_ireturn rfl dX12_dead_51 ⟨_, rfl, k⟩
theorem eX12_dead {G : zG} {d : Nat} {K : Int → zH → Prop} {l1 : Int} {h : zH} (k : tX12_dead_0 G d K l1 h) : zCi G (d + 1) mX12_dead [vr 12 466, vi l1] h K := z_entry (by decide +kernel) (Nat.le_of_ble_eq_true rfl) rfl k
def tX12_wordOf_0 (G : zG) (d : Nat) (K : Int → zH → Prop) (l1 : Int) (h : zH) : Prop := zTi G d mX12_wordOf K 0 [some (vr 12 466), some (vi l1), none, none] [] h
def tX12_wordOf_4 (G : zG) (d : Nat) (K : Int → zH → Prop) (l2 : Int) (l3 : Int) (h : zH) : Prop := zTi G d mX12_wordOf K 4 [some (vr 12 466), none, some (vi l2), some (vi l3)] [] h
theorem bX12_wordOf_0 {G : zG} {d : Nat} {K : Int → zH → Prop} {l1 : Int} {h : zH} (k : tX12_wordOf_4 G d K 0 l1 h) : tX12_wordOf_0 G d K l1 h := by
  unfold tX12_wordOf_0
  refine z_iconst dX12_wordOf_0 rfl ?_
  refine z_istore_n 2 dX12_wordOf_1 rfl (Nat.le_of_ble_eq_true rfl) (L' := [some (vr 12 466), some (vi l1), some (vi 0), none]) rfl rfl ?_
  refine z_iload_n 1 dX12_wordOf_2 rfl rfl rfl ?_
  refine z_istore_n 3 dX12_wordOf_3 rfl (Nat.le_of_ble_eq_true rfl) (L' := [some (vr 12 466), some (vi l1), some (vi 0), some (vi l1)]) rfl rfl ?_
  exact z_sub (L' := [some (vr 12 466), none, some (vi 0), some (vi l1)]) (And.intro rfl (And.intro rfl (And.intro rfl trivial))) k
theorem bX12_wordOf_4 {G : zG} {d : Nat} {K : Int → zH → Prop} {l2 : Int} {l3 : Int} {h : zH} (k : ((0 : Int) ≤ l3 ∧ l3 < 80) ∧ zR (h 508 l3) ∧ ((h 508 l3) = (-1) → K l2 h) ∧ (¬ (h 508 l3) = (-1) → ((0 : Int) ≤ l3 ∧ l3 < 80) ∧ tX12_wordOf_4 G d K (l2 + 1) (h 508 l3) h)) : tX12_wordOf_4 G d K l2 l3 h := by
  unfold tX12_wordOf_4
  refine z_aload_n 0 dX12_wordOf_4 rfl rfl (Nat.le_of_ble_eq_true rfl) rfl ?_
  refine z_getF 12 13 (x := 508) fX12_139 rfl dX12_wordOf_5 rfl rfl ?_
  refine z_iload_n 3 dX12_wordOf_8 rfl rfl rfl ?_
  obtain ⟨i9, k⟩ := k
  refine z_iald (x := (h 508 l3)) dX12_wordOf_9 (by rw [zl_508]; exact i9) rfl rfl ?_
  refine z_iconst dX12_wordOf_10 rfl ?_
  obtain ⟨r1, ka, kb⟩ := k
  refine z_icmp_eq (tgt := 27) dX12_wordOf_11 rfl r1 ⟨by decide, by decide⟩ rfl ⟨fun q => ?_, fun q => ?_⟩
  · have k := ka q
    refine z_iload_n 2 dX12_wordOf_27 rfl rfl rfl ?_
    exact z_ireturn rfl dX12_wordOf_28 ⟨_, rfl, k⟩
  · have k := kb q
    refine z_iinc dX12_wordOf_14 rfl (Nat.le_of_ble_eq_true rfl) (L' := [some (vr 12 466), none, some (vi (l2 + 1)), some (vi l3)]) rfl rfl ?_
    refine z_aload_n 0 dX12_wordOf_17 rfl rfl (Nat.le_of_ble_eq_true rfl) rfl ?_
    refine z_getF 12 13 (x := 508) fX12_139 rfl dX12_wordOf_18 rfl rfl ?_
    refine z_iload_n 3 dX12_wordOf_21 rfl rfl rfl ?_
    obtain ⟨i9, k⟩ := k
    refine z_iald (x := (h 508 l3)) dX12_wordOf_22 (by rw [zl_508]; exact i9) rfl rfl ?_
    refine z_istore_n 3 dX12_wordOf_23 rfl (Nat.le_of_ble_eq_true rfl) (L' := [some (vr 12 466), none, some (vi (l2 + 1)), some (vi (h 508 l3))]) rfl rfl ?_
    refine z_goto (tgt := 4) dX12_wordOf_24 rfl ?_
    exact z_sub (L' := [some (vr 12 466), none, some (vi (l2 + 1)), some (vi (h 508 l3))]) (And.intro rfl (And.intro rfl (And.intro rfl trivial))) k
theorem eX12_wordOf {G : zG} {d : Nat} {K : Int → zH → Prop} {l1 : Int} {h : zH} (k : tX12_wordOf_0 G d K l1 h) : zCi G d mX12_wordOf [vr 12 466, vi l1] h K := z_entry (by decide +kernel) (Nat.le_of_ble_eq_true rfl) rfl k
def tX12_first_0 (G : zG) (d : Nat) (K : Int → zH → Prop) (l1 : Int) (l2 : Int) (h : zH) : Prop := zTi G (d + 1) mX12_first K 0 [some (vr 12 466), some (vi l1), some (vi l2)] [] h
theorem bX12_first_0 {G : zG} {d : Nat} {K : Int → zH → Prop} {l1 : Int} {l2 : Int} {h : zH} (k : zCb G d mX12_isClass [vr 12 466, vi l1, vi l2] (zup h 466 0 0) (fun x1 h2 => (x1 = true → ((0 : Int) ≤ l2 ∧ l2 < 80) ∧ zCi G d mX12_wordOf [vr 12 466, vi (h2 511 l2)] h2 (fun x3 h4 => zCi G d mX12_good [vr 12 466, vi x3] h4 (fun x5 h6 => K x5 h6))) ∧ (x1 = false → zCi G d mX12_refused [vr 12 466, vi 1] h2 (fun x7 h8 => K x7 h8)))) : tX12_first_0 G d K l1 l2 h := by
  unfold tX12_first_0
  refine z_aload_n 0 dX12_first_0 rfl rfl (Nat.le_of_ble_eq_true rfl) rfl ?_
  refine z_iconst dX12_first_1 rfl ?_
  refine z_putI 12 gX12_190 dX12_first_2 rfl ?_
  refine z_aload_n 0 dX12_first_5 rfl rfl (Nat.le_of_ble_eq_true rfl) rfl ?_
  refine z_iload_n 1 dX12_first_6 rfl rfl rfl ?_
  refine z_iload_n 2 dX12_first_7 rfl rfl rfl ?_
  refine z_callVb vX12_isClass kX12_608 dX12_first_8 rfl (zRo_d d) (as := [vi l1, vi l2]) (rest := []) (Nat.le_of_ble_eq_true rfl) rfl rfl (zCb_mono (fun x1 h2 k => ?_) k)
  obtain ⟨ka, kb⟩ := k
  refine z_ifb_ne (tgt := 20) dX12_first_11 rfl rfl ⟨fun q => ?_, fun q => ?_⟩
  · have k := ka q
    refine z_aload_n 0 dX12_first_20 rfl rfl (Nat.le_of_ble_eq_true rfl) rfl ?_
    refine z_aload_n 0 dX12_first_21 rfl rfl (Nat.le_of_ble_eq_true rfl) rfl ?_
    refine z_aload_n 0 dX12_first_22 rfl rfl (Nat.le_of_ble_eq_true rfl) rfl ?_
    refine z_getF 12 13 (x := 511) fX12_148 rfl dX12_first_23 rfl rfl ?_
    refine z_iload_n 2 dX12_first_26 rfl rfl rfl ?_
    obtain ⟨i9, k⟩ := k
    refine z_iald (x := (h2 511 l2)) dX12_first_27 (by rw [zl_511]; exact i9) rfl rfl ?_
    refine z_callVi vX12_wordOf kX12_620 dX12_first_28 rfl (zRo_d d) (as := [vi (h2 511 l2)]) (rest := [vr 12 466]) (Nat.le_of_ble_eq_true rfl) rfl rfl (zCi_mono (fun x3 h4 k => ?_) k)
    refine z_callVi vX12_good kX12_196 dX12_first_31 rfl (zRo_d d) (as := [vi x3]) (rest := []) (Nat.le_of_ble_eq_true rfl) rfl rfl (zCi_mono (fun x5 h6 k => ?_) k)
    exact z_ireturn rfl dX12_first_34 ⟨_, rfl, k⟩
  · have k := kb q
    refine z_aload_n 0 dX12_first_14 rfl rfl (Nat.le_of_ble_eq_true rfl) rfl ?_
    refine z_iconst dX12_first_15 rfl ?_
    refine z_callVi vX12_refused kX12_426 dX12_first_16 rfl (zRo_d d) (as := [vi 1]) (rest := []) (Nat.le_of_ble_eq_true rfl) rfl rfl (zCi_mono (fun x7 h8 k => ?_) k)
    exact z_ireturn rfl dX12_first_19 ⟨_, rfl, k⟩
theorem eX12_first {G : zG} {d : Nat} {K : Int → zH → Prop} {l1 : Int} {l2 : Int} {h : zH} (k : tX12_first_0 G d K l1 l2 h) : zCi G (d + 1) mX12_first [vr 12 466, vi l1, vi l2] h K := z_entry (by decide +kernel) (Nat.le_of_ble_eq_true rfl) rfl k
def tX12_firstLetter_0 (G : zG) (d : Nat) (K : Int → zH → Prop) (l1 : Int) (l2 : Int) (l3 : Int) (h : zH) : Prop := zTi G (d + 1) mX12_firstLetter K 0 [some (vr 12 466), some (vi l1), some (vi l2), some (vi l3), none, none, none] [] h
def tX12_firstLetter_58 (G : zG) (d : Nat) (K : Int → zH → Prop) (l3 : Int) (l4 : Int) (l6 : Int) (h : zH) : Prop := zTi G (d + 1) mX12_firstLetter K 58 [some (vr 12 466), none, none, some (vi l3), some (vi l4), none, some (vi l6)] [] h
theorem bX12_firstLetter_0 {G : zG} {d : Nat} {K : Int → zH → Prop} {l1 : Int} {l2 : Int} {l3 : Int} {h : zH} (k : zCb G d mX12_isClass [vr 12 466, vi l1, vi l2] (zup h 466 0 0) (fun x1 h2 => (x1 = false → zCi G d mX12_refused [vr 12 466, vi 1] h2 (fun x3 h4 => K x3 h4)) ∧ (x1 = true → zR l3 ∧ (0 ≤ l3 → ((0 : Int) ≤ l2 ∧ l2 < 80) ∧ zCi G d mX12_wordOf [vr 12 466, vi (h2 511 l2)] h2 (fun x5 h6 => zR l3 ∧ zR x5 ∧ (l3 < x5 → tX12_firstLetter_58 G d K l3 (h2 511 l2) (x5 - 1) h6) ∧ (¬ l3 < x5 → zCi G d mX12_refused [vr 12 466, vi 1] h6 (fun x7 h8 => K x7 h8)))) ∧ (¬ 0 ≤ l3 → zCi G d mX12_refused [vr 12 466, vi 1] h2 (fun x9 h10 => K x9 h10))))) : tX12_firstLetter_0 G d K l1 l2 l3 h := by
  unfold tX12_firstLetter_0
  refine z_aload_n 0 dX12_firstLetter_0 rfl rfl (Nat.le_of_ble_eq_true rfl) rfl ?_
  refine z_iconst dX12_firstLetter_1 rfl ?_
  refine z_putI 12 gX12_190 dX12_firstLetter_2 rfl ?_
  refine z_aload_n 0 dX12_firstLetter_5 rfl rfl (Nat.le_of_ble_eq_true rfl) rfl ?_
  refine z_iload_n 1 dX12_firstLetter_6 rfl rfl rfl ?_
  refine z_iload_n 2 dX12_firstLetter_7 rfl rfl rfl ?_
  refine z_callVb vX12_isClass kX12_608 dX12_firstLetter_8 rfl (zRo_d d) (as := [vi l1, vi l2]) (rest := []) (Nat.le_of_ble_eq_true rfl) rfl rfl (zCb_mono (fun x1 h2 k => ?_) k)
  obtain ⟨ka, kb⟩ := k
  refine z_ifb_eq (tgt := 18) dX12_firstLetter_11 rfl rfl ⟨fun q => ?_, fun q => ?_⟩
  · have k := ka q
    refine z_aload_n 0 dX12_firstLetter_18 rfl rfl (Nat.le_of_ble_eq_true rfl) rfl ?_
    refine z_iconst dX12_firstLetter_19 rfl ?_
    refine z_callVi vX12_refused kX12_426 dX12_firstLetter_20 rfl (zRo_d d) (as := [vi 1]) (rest := []) (Nat.le_of_ble_eq_true rfl) rfl rfl (zCi_mono (fun x3 h4 k => ?_) k)
    exact z_ireturn rfl dX12_firstLetter_23 ⟨_, rfl, k⟩
  · have k := kb q
    refine z_iload_n 3 dX12_firstLetter_14 rfl rfl rfl ?_
    obtain ⟨r1, ka, kb⟩ := k
    refine z_if_ge (tgt := 24) dX12_firstLetter_15 rfl r1 rfl ⟨fun q => ?_, fun q => ?_⟩
    · have k := ka q
      refine z_aload_n 0 dX12_firstLetter_24 rfl rfl (Nat.le_of_ble_eq_true rfl) rfl ?_
      refine z_getF 12 13 (x := 511) fX12_148 rfl dX12_firstLetter_25 rfl rfl ?_
      refine z_iload_n 2 dX12_firstLetter_28 rfl rfl rfl ?_
      obtain ⟨i9, k⟩ := k
      refine z_iald (x := (h2 511 l2)) dX12_firstLetter_29 (by rw [zl_511]; exact i9) rfl rfl ?_
      refine z_istore dX12_firstLetter_30 (Nat.le_of_ble_eq_true rfl) (L' := [some (vr 12 466), some (vi l1), some (vi l2), some (vi l3), some (vi (h2 511 l2)), none, none]) rfl rfl ?_
      refine z_aload_n 0 dX12_firstLetter_32 rfl rfl (Nat.le_of_ble_eq_true rfl) rfl ?_
      refine z_iload dX12_firstLetter_33 rfl rfl ?_
      refine z_callVi vX12_wordOf kX12_620 dX12_firstLetter_35 rfl (zRo_d d) (as := [vi (h2 511 l2)]) (rest := []) (Nat.le_of_ble_eq_true rfl) rfl rfl (zCi_mono (fun x5 h6 k => ?_) k)
      refine z_istore dX12_firstLetter_38 (Nat.le_of_ble_eq_true rfl) (L' := [some (vr 12 466), some (vi l1), some (vi l2), some (vi l3), some (vi (h2 511 l2)), some (vi x5), none]) rfl rfl ?_
      refine z_iload_n 3 dX12_firstLetter_40 rfl rfl rfl ?_
      refine z_iload dX12_firstLetter_41 rfl rfl ?_
      obtain ⟨r1, r2, ka, kb⟩ := k
      refine z_icmp_lt (tgt := 52) dX12_firstLetter_43 rfl r1 r2 rfl ⟨fun q => ?_, fun q => ?_⟩
      · have k := ka q
        refine z_iload dX12_firstLetter_52 rfl rfl ?_
        refine z_iconst dX12_firstLetter_54 rfl ?_
        refine z_isub dX12_firstLetter_55 rfl ?_
        refine z_istore dX12_firstLetter_56 (Nat.le_of_ble_eq_true rfl) (L' := [some (vr 12 466), some (vi l1), some (vi l2), some (vi l3), some (vi (h2 511 l2)), some (vi x5), some (vi (x5 - 1))]) rfl rfl ?_
        exact z_sub (L' := [some (vr 12 466), none, none, some (vi l3), some (vi (h2 511 l2)), none, some (vi (x5 - 1))]) (And.intro rfl (And.intro rfl (And.intro rfl (And.intro rfl trivial)))) k
      · have k := kb q
        refine z_aload_n 0 dX12_firstLetter_46 rfl rfl (Nat.le_of_ble_eq_true rfl) rfl ?_
        refine z_iconst dX12_firstLetter_47 rfl ?_
        refine z_callVi vX12_refused kX12_426 dX12_firstLetter_48 rfl (zRo_d d) (as := [vi 1]) (rest := []) (Nat.le_of_ble_eq_true rfl) rfl rfl (zCi_mono (fun x7 h8 k => ?_) k)
        exact z_ireturn rfl dX12_firstLetter_51 ⟨_, rfl, k⟩
    · have k := kb q
      refine z_aload_n 0 dX12_firstLetter_18 rfl rfl (Nat.le_of_ble_eq_true rfl) rfl ?_
      refine z_iconst dX12_firstLetter_19 rfl ?_
      refine z_callVi vX12_refused kX12_426 dX12_firstLetter_20 rfl (zRo_d d) (as := [vi 1]) (rest := []) (Nat.le_of_ble_eq_true rfl) rfl rfl (zCi_mono (fun x9 h10 k => ?_) k)
      exact z_ireturn rfl dX12_firstLetter_23 ⟨_, rfl, k⟩
theorem bX12_firstLetter_58 {G : zG} {d : Nat} {K : Int → zH → Prop} {l3 : Int} {l4 : Int} {l6 : Int} {h : zH} (k : zR l6 ∧ zR l3 ∧ (l6 ≤ l3 → ((0 : Int) ≤ l4 ∧ l4 < 80) ∧ zCi G d mX12_good [vr 12 466, vi (h 509 l4)] h (fun x1 h2 => K x1 h2)) ∧ (¬ l6 ≤ l3 → ((0 : Int) ≤ l4 ∧ l4 < 80) ∧ tX12_firstLetter_58 G d K l3 (h 508 l4) (l6 + (-1)) h)) : tX12_firstLetter_58 G d K l3 l4 l6 h := by
  unfold tX12_firstLetter_58
  refine z_iload dX12_firstLetter_58 rfl rfl ?_
  refine z_iload_n 3 dX12_firstLetter_60 rfl rfl rfl ?_
  obtain ⟨r1, r2, ka, kb⟩ := k
  refine z_icmp_le (tgt := 79) dX12_firstLetter_61 rfl r1 r2 rfl ⟨fun q => ?_, fun q => ?_⟩
  · have k := ka q
    refine z_aload_n 0 dX12_firstLetter_79 rfl rfl (Nat.le_of_ble_eq_true rfl) rfl ?_
    refine z_aload_n 0 dX12_firstLetter_80 rfl rfl (Nat.le_of_ble_eq_true rfl) rfl ?_
    refine z_getF 12 13 (x := 509) fX12_142 rfl dX12_firstLetter_81 rfl rfl ?_
    refine z_iload dX12_firstLetter_84 rfl rfl ?_
    obtain ⟨i9, k⟩ := k
    refine z_iald (x := (h 509 l4)) dX12_firstLetter_86 (by rw [zl_509]; exact i9) rfl rfl ?_
    refine z_callVi vX12_good kX12_196 dX12_firstLetter_87 rfl (zRo_d d) (as := [vi (h 509 l4)]) (rest := []) (Nat.le_of_ble_eq_true rfl) rfl rfl (zCi_mono (fun x1 h2 k => ?_) k)
    exact z_ireturn rfl dX12_firstLetter_90 ⟨_, rfl, k⟩
  · have k := kb q
    refine z_aload_n 0 dX12_firstLetter_64 rfl rfl (Nat.le_of_ble_eq_true rfl) rfl ?_
    refine z_getF 12 13 (x := 508) fX12_139 rfl dX12_firstLetter_65 rfl rfl ?_
    refine z_iload dX12_firstLetter_68 rfl rfl ?_
    obtain ⟨i9, k⟩ := k
    refine z_iald (x := (h 508 l4)) dX12_firstLetter_70 (by rw [zl_508]; exact i9) rfl rfl ?_
    refine z_istore dX12_firstLetter_71 (Nat.le_of_ble_eq_true rfl) (L' := [some (vr 12 466), none, none, some (vi l3), some (vi (h 508 l4)), none, some (vi l6)]) rfl rfl ?_
    refine z_iinc dX12_firstLetter_73 rfl (Nat.le_of_ble_eq_true rfl) (L' := [some (vr 12 466), none, none, some (vi l3), some (vi (h 508 l4)), none, some (vi (l6 + (-1)))]) rfl rfl ?_
    refine z_goto (tgt := 58) dX12_firstLetter_76 rfl ?_
    exact z_sub (L' := [some (vr 12 466), none, none, some (vi l3), some (vi (h 508 l4)), none, some (vi (l6 + (-1)))]) (And.intro rfl (And.intro rfl (And.intro rfl (And.intro rfl trivial)))) k
theorem eX12_firstLetter {G : zG} {d : Nat} {K : Int → zH → Prop} {l1 : Int} {l2 : Int} {l3 : Int} {h : zH} (k : tX12_firstLetter_0 G d K l1 l2 l3 h) : zCi G (d + 1) mX12_firstLetter [vr 12 466, vi l1, vi l2, vi l3] h K := z_entry (by decide +kernel) (Nat.le_of_ble_eq_true rfl) rfl k
def tX12_partedBy_0 (G : zG) (d : Nat) (K : Int → zH → Prop) (l1 : Int) (l2 : Int) (h : zH) : Prop := zTi G d mX12_partedBy K 0 [some (vr 12 466), some (vi l1), some (vi l2)] [] h
theorem bX12_partedBy_0 {G : zG} {d : Nat} {K : Int → zH → Prop} {l1 : Int} {l2 : Int} {h : zH} (k : zR l1 ∧ zR l2 ∧ (¬ l1 = l2 → ((0 : Int) ≤ l1 ∧ l1 < 80) ∧ ((0 : Int) ≤ l2 ∧ l2 < 80) ∧ ((0 : Int) ≤ (((h 511 l1) * 40) + (h 511 l2)) ∧ (((h 511 l1) * 40) + (h 511 l2)) < 1600) ∧ K (h 513 (((h 511 l1) * 40) + (h 511 l2))) h) ∧ (l1 = l2 → K (-2) h)) : tX12_partedBy_0 G d K l1 l2 h := by
  unfold tX12_partedBy_0
  refine z_iload_n 1 dX12_partedBy_0 rfl rfl rfl ?_
  refine z_iload_n 2 dX12_partedBy_1 rfl rfl rfl ?_
  obtain ⟨r1, r2, ka, kb⟩ := k
  refine z_icmp_ne (tgt := 10) dX12_partedBy_2 rfl r1 r2 rfl ⟨fun q => ?_, fun q => ?_⟩
  · have k := ka q
    refine z_aload_n 0 dX12_partedBy_10 rfl rfl (Nat.le_of_ble_eq_true rfl) rfl ?_
    refine z_getF 12 13 (x := 513) fX12_154 rfl dX12_partedBy_11 rfl rfl ?_
    refine z_aload_n 0 dX12_partedBy_14 rfl rfl (Nat.le_of_ble_eq_true rfl) rfl ?_
    refine z_getF 12 13 (x := 511) fX12_148 rfl dX12_partedBy_15 rfl rfl ?_
    refine z_iload_n 1 dX12_partedBy_18 rfl rfl rfl ?_
    obtain ⟨i9, k⟩ := k
    refine z_iald (x := (h 511 l1)) dX12_partedBy_19 (by rw [zl_511]; exact i9) rfl rfl ?_
    refine z_bipush dX12_partedBy_20 rfl rfl ?_
    refine z_imul dX12_partedBy_22 rfl ?_
    refine z_aload_n 0 dX12_partedBy_23 rfl rfl (Nat.le_of_ble_eq_true rfl) rfl ?_
    refine z_getF 12 13 (x := 511) fX12_148 rfl dX12_partedBy_24 rfl rfl ?_
    refine z_iload_n 2 dX12_partedBy_27 rfl rfl rfl ?_
    obtain ⟨i9, k⟩ := k
    refine z_iald (x := (h 511 l2)) dX12_partedBy_28 (by rw [zl_511]; exact i9) rfl rfl ?_
    refine z_iadd dX12_partedBy_29 rfl ?_
    obtain ⟨i9, k⟩ := k
    refine z_iald (x := (h 513 (((h 511 l1) * 40) + (h 511 l2)))) dX12_partedBy_30 (by rw [zl_513]; exact i9) rfl rfl ?_
    exact z_ireturn rfl dX12_partedBy_31 ⟨_, rfl, k⟩
  · have k := kb q
    refine z_bipush dX12_partedBy_5 rfl rfl ?_
    refine z_goto (tgt := 31) dX12_partedBy_7 rfl ?_
    exact z_ireturn rfl dX12_partedBy_31 ⟨_, rfl, k⟩
theorem eX12_partedBy {G : zG} {d : Nat} {K : Int → zH → Prop} {l1 : Int} {l2 : Int} {h : zH} (k : tX12_partedBy_0 G d K l1 l2 h) : zCi G d mX12_partedBy [vr 12 466, vi l1, vi l2] h K := z_entry (by decide +kernel) (Nat.le_of_ble_eq_true rfl) rfl k
def tX12_parting_0 (G : zG) (d : Nat) (K : Int → zH → Prop) (l1 : Int) (l2 : Int) (l3 : Int) (h : zH) : Prop := zTi G (d + 1) mX12_parting K 0 [some (vr 12 466), some (vi l1), some (vi l2), some (vi l3)] [] h
theorem bX12_parting_0 {G : zG} {d : Nat} {K : Int → zH → Prop} {l1 : Int} {l2 : Int} {l3 : Int} {h : zH} (k : zCb G d mX12_isClass [vr 12 466, vi l1, vi l2] (zup h 466 0 0) (fun x1 h2 => (x1 = false → zCi G d mX12_refused [vr 12 466, vi 1] h2 (fun x3 h4 => K x3 h4)) ∧ (x1 = true → zCb G d mX12_isClass [vr 12 466, vi l1, vi l3] h2 (fun x5 h6 => (x5 = true → zCi G d mX12_partedBy [vr 12 466, vi l2, vi l3] h6 (fun x7 h8 => zCi G d mX12_good [vr 12 466, vi x7] h8 (fun x9 h10 => K x9 h10))) ∧ (x5 = false → zCi G d mX12_refused [vr 12 466, vi 1] h6 (fun x11 h12 => K x11 h12)))))) : tX12_parting_0 G d K l1 l2 l3 h := by
  unfold tX12_parting_0
  refine z_aload_n 0 dX12_parting_0 rfl rfl (Nat.le_of_ble_eq_true rfl) rfl ?_
  refine z_iconst dX12_parting_1 rfl ?_
  refine z_putI 12 gX12_190 dX12_parting_2 rfl ?_
  refine z_aload_n 0 dX12_parting_5 rfl rfl (Nat.le_of_ble_eq_true rfl) rfl ?_
  refine z_iload_n 1 dX12_parting_6 rfl rfl rfl ?_
  refine z_iload_n 2 dX12_parting_7 rfl rfl rfl ?_
  refine z_callVb vX12_isClass kX12_608 dX12_parting_8 rfl (zRo_d d) (as := [vi l1, vi l2]) (rest := []) (Nat.le_of_ble_eq_true rfl) rfl rfl (zCb_mono (fun x1 h2 k => ?_) k)
  obtain ⟨ka, kb⟩ := k
  refine z_ifb_eq (tgt := 23) dX12_parting_11 rfl rfl ⟨fun q => ?_, fun q => ?_⟩
  · have k := ka q
    refine z_aload_n 0 dX12_parting_23 rfl rfl (Nat.le_of_ble_eq_true rfl) rfl ?_
    refine z_iconst dX12_parting_24 rfl ?_
    refine z_callVi vX12_refused kX12_426 dX12_parting_25 rfl (zRo_d d) (as := [vi 1]) (rest := []) (Nat.le_of_ble_eq_true rfl) rfl rfl (zCi_mono (fun x3 h4 k => ?_) k)
    exact z_ireturn rfl dX12_parting_28 ⟨_, rfl, k⟩
  · have k := kb q
    refine z_aload_n 0 dX12_parting_14 rfl rfl (Nat.le_of_ble_eq_true rfl) rfl ?_
    refine z_iload_n 1 dX12_parting_15 rfl rfl rfl ?_
    refine z_iload_n 3 dX12_parting_16 rfl rfl rfl ?_
    refine z_callVb vX12_isClass kX12_608 dX12_parting_17 rfl (zRo_d d) (as := [vi l1, vi l3]) (rest := []) (Nat.le_of_ble_eq_true rfl) rfl rfl (zCb_mono (fun x5 h6 k => ?_) k)
    obtain ⟨ka, kb⟩ := k
    refine z_ifb_ne (tgt := 29) dX12_parting_20 rfl rfl ⟨fun q => ?_, fun q => ?_⟩
    · have k := ka q
      refine z_aload_n 0 dX12_parting_29 rfl rfl (Nat.le_of_ble_eq_true rfl) rfl ?_
      refine z_aload_n 0 dX12_parting_30 rfl rfl (Nat.le_of_ble_eq_true rfl) rfl ?_
      refine z_iload_n 2 dX12_parting_31 rfl rfl rfl ?_
      refine z_iload_n 3 dX12_parting_32 rfl rfl rfl ?_
      refine z_callVi vX12_partedBy kX12_623 dX12_parting_33 rfl (zRo_d d) (as := [vi l2, vi l3]) (rest := [vr 12 466]) (Nat.le_of_ble_eq_true rfl) rfl rfl (zCi_mono (fun x7 h8 k => ?_) k)
      refine z_callVi vX12_good kX12_196 dX12_parting_36 rfl (zRo_d d) (as := [vi x7]) (rest := []) (Nat.le_of_ble_eq_true rfl) rfl rfl (zCi_mono (fun x9 h10 k => ?_) k)
      exact z_ireturn rfl dX12_parting_39 ⟨_, rfl, k⟩
    · have k := kb q
      refine z_aload_n 0 dX12_parting_23 rfl rfl (Nat.le_of_ble_eq_true rfl) rfl ?_
      refine z_iconst dX12_parting_24 rfl ?_
      refine z_callVi vX12_refused kX12_426 dX12_parting_25 rfl (zRo_d d) (as := [vi 1]) (rest := []) (Nat.le_of_ble_eq_true rfl) rfl rfl (zCi_mono (fun x11 h12 k => ?_) k)
      exact z_ireturn rfl dX12_parting_28 ⟨_, rfl, k⟩
theorem eX12_parting {G : zG} {d : Nat} {K : Int → zH → Prop} {l1 : Int} {l2 : Int} {l3 : Int} {h : zH} (k : tX12_parting_0 G d K l1 l2 l3 h) : zCi G (d + 1) mX12_parting [vr 12 466, vi l1, vi l2, vi l3] h K := z_entry (by decide +kernel) (Nat.le_of_ble_eq_true rfl) rfl k
def tX12_partingLetter_0 (G : zG) (d : Nat) (K : Int → zH → Prop) (l1 : Int) (l2 : Int) (l3 : Int) (l4 : Int) (h : zH) : Prop := zTi G (d + 1) mX12_partingLetter K 0 [some (vr 12 466), some (vi l1), some (vi l2), some (vi l3), some (vi l4), none, none, none, none, none] [] h
def tX12_partingLetter_77 (G : zG) (d : Nat) (K : Int → zH → Prop) (l1 : Int) (l4 : Int) (l5 : Int) (l6 : Int) (l7 : Int) (l8 : Int) (l9 : Int) (h : zH) : Prop := zTi G (d + 1) mX12_partingLetter K 77 [some (vr 12 466), some (vi l1), none, none, some (vi l4), some (vi l5), some (vi l6), some (vi l7), some (vi l8), some (vi l9)] [] h
theorem bX12_partingLetter_0 {G : zG} {d : Nat} {K : Int → zH → Prop} {l1 : Int} {l2 : Int} {l3 : Int} {l4 : Int} {h : zH} (k : zCb G d mX12_isClass [vr 12 466, vi l1, vi l2] (zup h 466 0 0) (fun x1 h2 => (x1 = false → zCi G d mX12_refused [vr 12 466, vi 1] h2 (fun x3 h4 => K x3 h4)) ∧ (x1 = true → zCb G d mX12_isClass [vr 12 466, vi l1, vi l3] h2 (fun x5 h6 => (x5 = false → zCi G d mX12_refused [vr 12 466, vi 1] h6 (fun x7 h8 => K x7 h8)) ∧ (x5 = true → zR l4 ∧ (0 ≤ l4 → zCi G d mX12_partedBy [vr 12 466, vi l2, vi l3] h6 (fun x9 h10 => zR l4 ∧ zR x9 ∧ (l4 < x9 → ((0 : Int) ≤ l2 ∧ l2 < 80) ∧ ((0 : Int) ≤ l3 ∧ l3 < 80) ∧ tX12_partingLetter_77 G d K l1 l4 x9 (h10 511 l2) (h10 511 l3) (-1) 0 h10) ∧ (¬ l4 < x9 → zCi G d mX12_refused [vr 12 466, vi 1] h10 (fun x11 h12 => K x11 h12)))) ∧ (¬ 0 ≤ l4 → zCi G d mX12_refused [vr 12 466, vi 1] h6 (fun x13 h14 => K x13 h14))))))) : tX12_partingLetter_0 G d K l1 l2 l3 l4 h := by
  unfold tX12_partingLetter_0
  refine z_aload_n 0 dX12_partingLetter_0 rfl rfl (Nat.le_of_ble_eq_true rfl) rfl ?_
  refine z_iconst dX12_partingLetter_1 rfl ?_
  refine z_putI 12 gX12_190 dX12_partingLetter_2 rfl ?_
  refine z_aload_n 0 dX12_partingLetter_5 rfl rfl (Nat.le_of_ble_eq_true rfl) rfl ?_
  refine z_iload_n 1 dX12_partingLetter_6 rfl rfl rfl ?_
  refine z_iload_n 2 dX12_partingLetter_7 rfl rfl rfl ?_
  refine z_callVb vX12_isClass kX12_608 dX12_partingLetter_8 rfl (zRo_d d) (as := [vi l1, vi l2]) (rest := []) (Nat.le_of_ble_eq_true rfl) rfl rfl (zCb_mono (fun x1 h2 k => ?_) k)
  obtain ⟨ka, kb⟩ := k
  refine z_ifb_eq (tgt := 28) dX12_partingLetter_11 rfl rfl ⟨fun q => ?_, fun q => ?_⟩
  · have k := ka q
    refine z_aload_n 0 dX12_partingLetter_28 rfl rfl (Nat.le_of_ble_eq_true rfl) rfl ?_
    refine z_iconst dX12_partingLetter_29 rfl ?_
    refine z_callVi vX12_refused kX12_426 dX12_partingLetter_30 rfl (zRo_d d) (as := [vi 1]) (rest := []) (Nat.le_of_ble_eq_true rfl) rfl rfl (zCi_mono (fun x3 h4 k => ?_) k)
    exact z_ireturn rfl dX12_partingLetter_33 ⟨_, rfl, k⟩
  · have k := kb q
    refine z_aload_n 0 dX12_partingLetter_14 rfl rfl (Nat.le_of_ble_eq_true rfl) rfl ?_
    refine z_iload_n 1 dX12_partingLetter_15 rfl rfl rfl ?_
    refine z_iload_n 3 dX12_partingLetter_16 rfl rfl rfl ?_
    refine z_callVb vX12_isClass kX12_608 dX12_partingLetter_17 rfl (zRo_d d) (as := [vi l1, vi l3]) (rest := []) (Nat.le_of_ble_eq_true rfl) rfl rfl (zCb_mono (fun x5 h6 k => ?_) k)
    obtain ⟨ka, kb⟩ := k
    refine z_ifb_eq (tgt := 28) dX12_partingLetter_20 rfl rfl ⟨fun q => ?_, fun q => ?_⟩
    · have k := ka q
      refine z_aload_n 0 dX12_partingLetter_28 rfl rfl (Nat.le_of_ble_eq_true rfl) rfl ?_
      refine z_iconst dX12_partingLetter_29 rfl ?_
      refine z_callVi vX12_refused kX12_426 dX12_partingLetter_30 rfl (zRo_d d) (as := [vi 1]) (rest := []) (Nat.le_of_ble_eq_true rfl) rfl rfl (zCi_mono (fun x7 h8 k => ?_) k)
      exact z_ireturn rfl dX12_partingLetter_33 ⟨_, rfl, k⟩
    · have k := kb q
      refine z_iload dX12_partingLetter_23 rfl rfl ?_
      obtain ⟨r1, ka, kb⟩ := k
      refine z_if_ge (tgt := 34) dX12_partingLetter_25 rfl r1 rfl ⟨fun q => ?_, fun q => ?_⟩
      · have k := ka q
        refine z_aload_n 0 dX12_partingLetter_34 rfl rfl (Nat.le_of_ble_eq_true rfl) rfl ?_
        refine z_iload_n 2 dX12_partingLetter_35 rfl rfl rfl ?_
        refine z_iload_n 3 dX12_partingLetter_36 rfl rfl rfl ?_
        refine z_callVi vX12_partedBy kX12_623 dX12_partingLetter_37 rfl (zRo_d d) (as := [vi l2, vi l3]) (rest := []) (Nat.le_of_ble_eq_true rfl) rfl rfl (zCi_mono (fun x9 h10 k => ?_) k)
        refine z_istore dX12_partingLetter_40 (Nat.le_of_ble_eq_true rfl) (L' := [some (vr 12 466), some (vi l1), some (vi l2), some (vi l3), some (vi l4), some (vi x9), none, none, none, none]) rfl rfl ?_
        refine z_iload dX12_partingLetter_42 rfl rfl ?_
        refine z_iload dX12_partingLetter_44 rfl rfl ?_
        obtain ⟨r1, r2, ka, kb⟩ := k
        refine z_icmp_lt (tgt := 55) dX12_partingLetter_46 rfl r1 r2 rfl ⟨fun q => ?_, fun q => ?_⟩
        · have k := ka q
          refine z_aload_n 0 dX12_partingLetter_55 rfl rfl (Nat.le_of_ble_eq_true rfl) rfl ?_
          refine z_getF 12 13 (x := 511) fX12_148 rfl dX12_partingLetter_56 rfl rfl ?_
          refine z_iload_n 2 dX12_partingLetter_59 rfl rfl rfl ?_
          obtain ⟨i9, k⟩ := k
          refine z_iald (x := (h10 511 l2)) dX12_partingLetter_60 (by rw [zl_511]; exact i9) rfl rfl ?_
          refine z_istore dX12_partingLetter_61 (Nat.le_of_ble_eq_true rfl) (L' := [some (vr 12 466), some (vi l1), some (vi l2), some (vi l3), some (vi l4), some (vi x9), some (vi (h10 511 l2)), none, none, none]) rfl rfl ?_
          refine z_aload_n 0 dX12_partingLetter_63 rfl rfl (Nat.le_of_ble_eq_true rfl) rfl ?_
          refine z_getF 12 13 (x := 511) fX12_148 rfl dX12_partingLetter_64 rfl rfl ?_
          refine z_iload_n 3 dX12_partingLetter_67 rfl rfl rfl ?_
          obtain ⟨i9, k⟩ := k
          refine z_iald (x := (h10 511 l3)) dX12_partingLetter_68 (by rw [zl_511]; exact i9) rfl rfl ?_
          refine z_istore dX12_partingLetter_69 (Nat.le_of_ble_eq_true rfl) (L' := [some (vr 12 466), some (vi l1), some (vi l2), some (vi l3), some (vi l4), some (vi x9), some (vi (h10 511 l2)), some (vi (h10 511 l3)), none, none]) rfl rfl ?_
          refine z_iconst dX12_partingLetter_71 rfl ?_
          refine z_istore dX12_partingLetter_72 (Nat.le_of_ble_eq_true rfl) (L' := [some (vr 12 466), some (vi l1), some (vi l2), some (vi l3), some (vi l4), some (vi x9), some (vi (h10 511 l2)), some (vi (h10 511 l3)), some (vi (-1)), none]) rfl rfl ?_
          refine z_iconst dX12_partingLetter_74 rfl ?_
          refine z_istore dX12_partingLetter_75 (Nat.le_of_ble_eq_true rfl) (L' := [some (vr 12 466), some (vi l1), some (vi l2), some (vi l3), some (vi l4), some (vi x9), some (vi (h10 511 l2)), some (vi (h10 511 l3)), some (vi (-1)), some (vi 0)]) rfl rfl ?_
          exact z_sub (L' := [some (vr 12 466), some (vi l1), none, none, some (vi l4), some (vi x9), some (vi (h10 511 l2)), some (vi (h10 511 l3)), some (vi (-1)), some (vi 0)]) (And.intro rfl (And.intro rfl (And.intro rfl (And.intro rfl (And.intro rfl (And.intro rfl (And.intro rfl (And.intro rfl trivial)))))))) k
        · have k := kb q
          refine z_aload_n 0 dX12_partingLetter_49 rfl rfl (Nat.le_of_ble_eq_true rfl) rfl ?_
          refine z_iconst dX12_partingLetter_50 rfl ?_
          refine z_callVi vX12_refused kX12_426 dX12_partingLetter_51 rfl (zRo_d d) (as := [vi 1]) (rest := []) (Nat.le_of_ble_eq_true rfl) rfl rfl (zCi_mono (fun x11 h12 k => ?_) k)
          exact z_ireturn rfl dX12_partingLetter_54 ⟨_, rfl, k⟩
      · have k := kb q
        refine z_aload_n 0 dX12_partingLetter_28 rfl rfl (Nat.le_of_ble_eq_true rfl) rfl ?_
        refine z_iconst dX12_partingLetter_29 rfl ?_
        refine z_callVi vX12_refused kX12_426 dX12_partingLetter_30 rfl (zRo_d d) (as := [vi 1]) (rest := []) (Nat.le_of_ble_eq_true rfl) rfl rfl (zCi_mono (fun x13 h14 k => ?_) k)
        exact z_ireturn rfl dX12_partingLetter_33 ⟨_, rfl, k⟩
theorem bX12_partingLetter_77 {G : zG} {d : Nat} {K : Int → zH → Prop} {l1 : Int} {l4 : Int} {l5 : Int} {l6 : Int} {l7 : Int} {l8 : Int} {l9 : Int} {h : zH} (k : zR l9 ∧ zR l4 ∧ (l4 < l9 → ((0 : Int) ≤ ((l1 * 128) + l8) ∧ ((l1 * 128) + l8) < 1792) ∧ zCi G d mX12_good [vr 12 466, vi (h 497 ((l1 * 128) + l8))] h (fun x1 h2 => K x1 h2)) ∧ (¬ l4 < l9 → zCi G d mX12_partingBlock [vr 12 466, vi l1, vi 0, vi l6, vi l7, vi (l5 - l9)] h (fun x3 h4 => zCi G d mX12_goesTo [vr 12 466, vi 0, vi l6, vi x3] h4 (fun x5 h6 => zCi G d mX12_goesTo [vr 12 466, vi 0, vi l7, vi x3] h6 (fun x7 h8 => tX12_partingLetter_77 G d K l1 l4 l5 x5 x7 x3 (l9 + 1) h8))))) : tX12_partingLetter_77 G d K l1 l4 l5 l6 l7 l8 l9 h := by
  unfold tX12_partingLetter_77
  refine z_iload dX12_partingLetter_77 rfl rfl ?_
  refine z_iload dX12_partingLetter_79 rfl rfl ?_
  obtain ⟨r1, r2, ka, kb⟩ := k
  refine z_icmp_gt (tgt := 129) dX12_partingLetter_81 rfl r1 r2 rfl ⟨fun q => ?_, fun q => ?_⟩
  · have k := ka q
    refine z_aload_n 0 dX12_partingLetter_129 rfl rfl (Nat.le_of_ble_eq_true rfl) rfl ?_
    refine z_aload_n 0 dX12_partingLetter_130 rfl rfl (Nat.le_of_ble_eq_true rfl) rfl ?_
    refine z_getF 12 13 (x := 497) fX12_106 rfl dX12_partingLetter_131 rfl rfl ?_
    refine z_iload_n 1 dX12_partingLetter_134 rfl rfl rfl ?_
    refine z_sipush dX12_partingLetter_135 rfl rfl ?_
    refine z_imul dX12_partingLetter_138 rfl ?_
    refine z_iload dX12_partingLetter_139 rfl rfl ?_
    refine z_iadd dX12_partingLetter_141 rfl ?_
    obtain ⟨i9, k⟩ := k
    refine z_iald (x := (h 497 ((l1 * 128) + l8))) dX12_partingLetter_142 (by rw [zl_497]; exact i9) rfl rfl ?_
    refine z_callVi vX12_good kX12_196 dX12_partingLetter_143 rfl (zRo_d d) (as := [vi (h 497 ((l1 * 128) + l8))]) (rest := []) (Nat.le_of_ble_eq_true rfl) rfl rfl (zCi_mono (fun x1 h2 k => ?_) k)
    exact z_ireturn rfl dX12_partingLetter_146 ⟨_, rfl, k⟩
  · have k := kb q
    refine z_aload_n 0 dX12_partingLetter_84 rfl rfl (Nat.le_of_ble_eq_true rfl) rfl ?_
    refine z_iload_n 1 dX12_partingLetter_85 rfl rfl rfl ?_
    refine z_iconst dX12_partingLetter_86 rfl ?_
    refine z_iload dX12_partingLetter_87 rfl rfl ?_
    refine z_iload dX12_partingLetter_89 rfl rfl ?_
    refine z_iload dX12_partingLetter_91 rfl rfl ?_
    refine z_iload dX12_partingLetter_93 rfl rfl ?_
    refine z_isub dX12_partingLetter_95 rfl ?_
    refine z_callVi vX12_partingBlock kX12_551 dX12_partingLetter_96 rfl (zRo_d d) (as := [vi l1, vi 0, vi l6, vi l7, vi (l5 - l9)]) (rest := []) (Nat.le_of_ble_eq_true rfl) rfl rfl (zCi_mono (fun x3 h4 k => ?_) k)
    refine z_istore dX12_partingLetter_99 (Nat.le_of_ble_eq_true rfl) (L' := [some (vr 12 466), some (vi l1), none, none, some (vi l4), some (vi l5), some (vi l6), some (vi l7), some (vi x3), some (vi l9)]) rfl rfl ?_
    refine z_aload_n 0 dX12_partingLetter_101 rfl rfl (Nat.le_of_ble_eq_true rfl) rfl ?_
    refine z_iconst dX12_partingLetter_102 rfl ?_
    refine z_iload dX12_partingLetter_103 rfl rfl ?_
    refine z_iload dX12_partingLetter_105 rfl rfl ?_
    refine z_callVi vX12_goesTo kX12_555 dX12_partingLetter_107 rfl (zRo_d d) (as := [vi 0, vi l6, vi x3]) (rest := []) (Nat.le_of_ble_eq_true rfl) rfl rfl (zCi_mono (fun x5 h6 k => ?_) k)
    refine z_istore dX12_partingLetter_110 (Nat.le_of_ble_eq_true rfl) (L' := [some (vr 12 466), some (vi l1), none, none, some (vi l4), some (vi l5), some (vi x5), some (vi l7), some (vi x3), some (vi l9)]) rfl rfl ?_
    refine z_aload_n 0 dX12_partingLetter_112 rfl rfl (Nat.le_of_ble_eq_true rfl) rfl ?_
    refine z_iconst dX12_partingLetter_113 rfl ?_
    refine z_iload dX12_partingLetter_114 rfl rfl ?_
    refine z_iload dX12_partingLetter_116 rfl rfl ?_
    refine z_callVi vX12_goesTo kX12_555 dX12_partingLetter_118 rfl (zRo_d d) (as := [vi 0, vi l7, vi x3]) (rest := []) (Nat.le_of_ble_eq_true rfl) rfl rfl (zCi_mono (fun x7 h8 k => ?_) k)
    refine z_istore dX12_partingLetter_121 (Nat.le_of_ble_eq_true rfl) (L' := [some (vr 12 466), some (vi l1), none, none, some (vi l4), some (vi l5), some (vi x5), some (vi x7), some (vi x3), some (vi l9)]) rfl rfl ?_
    refine z_iinc dX12_partingLetter_123 rfl (Nat.le_of_ble_eq_true rfl) (L' := [some (vr 12 466), some (vi l1), none, none, some (vi l4), some (vi l5), some (vi x5), some (vi x7), some (vi x3), some (vi (l9 + 1))]) rfl rfl ?_
    refine z_goto (tgt := 77) dX12_partingLetter_126 rfl ?_
    exact z_sub (L' := [some (vr 12 466), some (vi l1), none, none, some (vi l4), some (vi l5), some (vi x5), some (vi x7), some (vi x3), some (vi (l9 + 1))]) (And.intro rfl (And.intro rfl (And.intro rfl (And.intro rfl (And.intro rfl (And.intro rfl (And.intro rfl (And.intro rfl trivial)))))))) k
theorem eX12_partingLetter {G : zG} {d : Nat} {K : Int → zH → Prop} {l1 : Int} {l2 : Int} {l3 : Int} {l4 : Int} {h : zH} (k : tX12_partingLetter_0 G d K l1 l2 l3 l4 h) : zCi G (d + 1) mX12_partingLetter [vr 12 466, vi l1, vi l2, vi l3, vi l4] h K := z_entry (by decide +kernel) (Nat.le_of_ble_eq_true rfl) rfl k
def tX12_rounds_0 (G : zG) (d : Nat) (K : Int → zH → Prop) (l1 : Int) (h : zH) : Prop := zTi G (d + 1) mX12_rounds K 0 [some (vr 12 466), some (vi l1)] [] h
theorem bX12_rounds_0 {G : zG} {d : Nat} {K : Int → zH → Prop} {l1 : Int} {h : zH} (k : zCb G d mX12_isMachine [vr 12 466, vi l1] (zup h 466 0 0) (fun x1 h2 => (x1 = true → zCv G d mX12_sorts [vr 12 466, vi l1, vi 0] h2 (fun h4 => zCi G d mX12_good [vr 12 466, vi (h4 466 75)] h4 (fun x5 h6 => K x5 h6))) ∧ (x1 = false → zCi G d mX12_refused [vr 12 466, vi 1] h2 (fun x7 h8 => K x7 h8)))) : tX12_rounds_0 G d K l1 h := by
  unfold tX12_rounds_0
  refine z_aload_n 0 dX12_rounds_0 rfl rfl (Nat.le_of_ble_eq_true rfl) rfl ?_
  refine z_iconst dX12_rounds_1 rfl ?_
  refine z_putI 12 gX12_190 dX12_rounds_2 rfl ?_
  refine z_aload_n 0 dX12_rounds_5 rfl rfl (Nat.le_of_ble_eq_true rfl) rfl ?_
  refine z_iload_n 1 dX12_rounds_6 rfl rfl rfl ?_
  refine z_callVb vX12_isMachine kX12_561 dX12_rounds_7 rfl (zRo_d d) (as := [vi l1]) (rest := []) (Nat.le_of_ble_eq_true rfl) rfl rfl (zCb_mono (fun x1 h2 k => ?_) k)
  obtain ⟨ka, kb⟩ := k
  refine z_ifb_ne (tgt := 19) dX12_rounds_10 rfl rfl ⟨fun q => ?_, fun q => ?_⟩
  · have k := ka q
    refine z_aload_n 0 dX12_rounds_19 rfl rfl (Nat.le_of_ble_eq_true rfl) rfl ?_
    refine z_iload_n 1 dX12_rounds_20 rfl rfl rfl ?_
    refine z_iconst dX12_rounds_21 rfl ?_
    refine z_callVv vX12_sorts kX12_568 dX12_rounds_22 rfl (zRo_d d) (as := [vi l1, vi 0]) (rest := []) (Nat.le_of_ble_eq_true rfl) rfl rfl (zCv_mono (fun h4 k => ?_) k)
    refine z_aload_n 0 dX12_rounds_25 rfl rfl (Nat.le_of_ble_eq_true rfl) rfl ?_
    refine z_aload_n 0 dX12_rounds_26 rfl rfl (Nat.le_of_ble_eq_true rfl) rfl ?_
    refine z_getI 12 (x := (h4 466 75)) fX12_545 rfl dX12_rounds_27 rfl rfl ?_
    refine z_callVi vX12_good kX12_196 dX12_rounds_30 rfl (zRo_d d) (as := [vi (h4 466 75)]) (rest := []) (Nat.le_of_ble_eq_true rfl) rfl rfl (zCi_mono (fun x5 h6 k => ?_) k)
    exact z_ireturn rfl dX12_rounds_33 ⟨_, rfl, k⟩
  · have k := kb q
    refine z_aload_n 0 dX12_rounds_13 rfl rfl (Nat.le_of_ble_eq_true rfl) rfl ?_
    refine z_iconst dX12_rounds_14 rfl ?_
    refine z_callVi vX12_refused kX12_426 dX12_rounds_15 rfl (zRo_d d) (as := [vi 1]) (rest := []) (Nat.le_of_ble_eq_true rfl) rfl rfl (zCi_mono (fun x7 h8 k => ?_) k)
    exact z_ireturn rfl dX12_rounds_18 ⟨_, rfl, k⟩
theorem eX12_rounds {G : zG} {d : Nat} {K : Int → zH → Prop} {l1 : Int} {h : zH} (k : tX12_rounds_0 G d K l1 h) : zCi G (d + 1) mX12_rounds [vr 12 466, vi l1] h K := z_entry (by decide +kernel) (Nat.le_of_ble_eq_true rfl) rfl k
def tX12_word_0 (G : zG) (d : Nat) (K : Int → zH → Prop) (l1 : Int) (l2 : Int) (l3 : Int) (l4 : Int) (l5 : Int) (h : zH) : Prop := zTi G (d + 1) mX12_word K 0 [some (vr 12 466), some (vi l1), some (vi l2), some (vi l3), some (vi l4), some (vi l5), none] [] h
def tX12_word_23 (G : zG) (d : Nat) (K : Int → zH → Prop) (l1 : Int) (l2 : Int) (l3 : Int) (l4 : Int) (l5 : Int) (l6 : Int) (h : zH) : Prop := zTi G (d + 1) mX12_word K 23 [some (vr 12 466), some (vi l1), some (vi l2), some (vi l3), some (vi l4), some (vi l5), some (vi l6)] [] h
def tX12_word_82 (G : zG) (d : Nat) (K : Int → zH → Prop) (l1 : Int) (l2 : Int) (l3 : Int) (l4 : Int) (l5 : Int) (l6 : Int) (h : zH) : Prop := zTi G (d + 1) mX12_word K 82 [some (vr 12 466), some (vi l1), some (vi l2), some (vi l3), some (vi l4), some (vi l5), some (vi l6)] [] h
theorem bX12_word_0 {G : zG} {d : Nat} {K : Int → zH → Prop} {l1 : Int} {l2 : Int} {l3 : Int} {l4 : Int} {l5 : Int} {h : zH} (k : zCb G d mX12_in [vi l1, vi 0, vi 4] (zup h 466 0 0) (fun x1 h2 => (x1 = true → tX12_word_23 G d K l1 l2 l3 l4 l5 0 h2) ∧ (x1 = false → zCi G d mX12_refused [vr 12 466, vi 2] h2 (fun x3 h4 => K x3 h4)))) : tX12_word_0 G d K l1 l2 l3 l4 l5 h := by
  unfold tX12_word_0
  refine z_aload_n 0 dX12_word_0 rfl rfl (Nat.le_of_ble_eq_true rfl) rfl ?_
  refine z_iconst dX12_word_1 rfl ?_
  refine z_putI 12 gX12_190 dX12_word_2 rfl ?_
  refine z_iload_n 1 dX12_word_5 rfl rfl rfl ?_
  refine z_iconst dX12_word_6 rfl ?_
  refine z_iconst dX12_word_7 rfl ?_
  refine z_callSb sX12_in kX12_201 dX12_word_8 rfl (zRo_d d) (as := [vi l1, vi 0, vi 4]) (rest := []) (Nat.le_of_ble_eq_true rfl) rfl rfl (zCb_mono (fun x1 h2 k => ?_) k)
  obtain ⟨ka, kb⟩ := k
  refine z_ifb_ne (tgt := 20) dX12_word_11 rfl rfl ⟨fun q => ?_, fun q => ?_⟩
  · have k := ka q
    refine z_iconst dX12_word_20 rfl ?_
    refine z_istore dX12_word_21 (Nat.le_of_ble_eq_true rfl) (L' := [some (vr 12 466), some (vi l1), some (vi l2), some (vi l3), some (vi l4), some (vi l5), some (vi 0)]) rfl rfl ?_
    exact z_sub (L' := [some (vr 12 466), some (vi l1), some (vi l2), some (vi l3), some (vi l4), some (vi l5), some (vi 0)]) (And.intro rfl (And.intro rfl (And.intro rfl (And.intro rfl (And.intro rfl (And.intro rfl (And.intro rfl trivial))))))) k
  · have k := kb q
    refine z_aload_n 0 dX12_word_14 rfl rfl (Nat.le_of_ble_eq_true rfl) rfl ?_
    refine z_iconst dX12_word_15 rfl ?_
    refine z_callVi vX12_refused kX12_426 dX12_word_16 rfl (zRo_d d) (as := [vi 2]) (rest := []) (Nat.le_of_ble_eq_true rfl) rfl rfl (zCi_mono (fun x3 h4 k => ?_) k)
    exact z_ireturn rfl dX12_word_19 ⟨_, rfl, k⟩
theorem bX12_word_23 {G : zG} {d : Nat} {K : Int → zH → Prop} {l1 : Int} {l2 : Int} {l3 : Int} {l4 : Int} {l5 : Int} {l6 : Int} {h : zH} (k : zR l6 ∧ zR l1 ∧ (l1 ≤ l6 → tX12_word_82 G d K l1 l2 l3 l4 l5 0 h) ∧ (¬ l1 ≤ l6 → zR l6 ∧ (¬ l6 = 0 → zR l6 ∧ (¬ l6 = 1 → zR l6 ∧ (¬ l6 = 2 → zCb G d mX12_isLetter [vi l5] h (fun x1 h2 => (x1 = true → tX12_word_23 G d K l1 l2 l3 l4 l5 (l6 + 1) h2) ∧ (x1 = false → zCi G d mX12_refused [vr 12 466, vi 2] h2 (fun x3 h4 => K x3 h4)))) ∧ (l6 = 2 → zCb G d mX12_isLetter [vi l4] h (fun x5 h6 => (x5 = true → tX12_word_23 G d K l1 l2 l3 l4 l5 (l6 + 1) h6) ∧ (x5 = false → zCi G d mX12_refused [vr 12 466, vi 2] h6 (fun x7 h8 => K x7 h8))))) ∧ (l6 = 1 → zCb G d mX12_isLetter [vi l3] h (fun x9 h10 => (x9 = true → tX12_word_23 G d K l1 l2 l3 l4 l5 (l6 + 1) h10) ∧ (x9 = false → zCi G d mX12_refused [vr 12 466, vi 2] h10 (fun x11 h12 => K x11 h12))))) ∧ (l6 = 0 → zCb G d mX12_isLetter [vi l2] h (fun x13 h14 => (x13 = true → tX12_word_23 G d K l1 l2 l3 l4 l5 (l6 + 1) h14) ∧ (x13 = false → zCi G d mX12_refused [vr 12 466, vi 2] h14 (fun x15 h16 => K x15 h16)))))) : tX12_word_23 G d K l1 l2 l3 l4 l5 l6 h := by
  unfold tX12_word_23
  refine z_iload dX12_word_23 rfl rfl ?_
  refine z_iload_n 1 dX12_word_25 rfl rfl rfl ?_
  obtain ⟨r1, r2, ka, kb⟩ := k
  refine z_icmp_ge (tgt := 79) dX12_word_26 rfl r1 r2 rfl ⟨fun q => ?_, fun q => ?_⟩
  · have k := ka q
    refine z_iconst dX12_word_79 rfl ?_
    refine z_istore dX12_word_80 (Nat.le_of_ble_eq_true rfl) (L' := [some (vr 12 466), some (vi l1), some (vi l2), some (vi l3), some (vi l4), some (vi l5), some (vi 0)]) rfl rfl ?_
    exact z_sub (L' := [some (vr 12 466), some (vi l1), some (vi l2), some (vi l3), some (vi l4), some (vi l5), some (vi 0)]) (And.intro rfl (And.intro rfl (And.intro rfl (And.intro rfl (And.intro rfl (And.intro rfl (And.intro rfl trivial))))))) k
  · have k := kb q
    refine z_iload dX12_word_29 rfl rfl ?_
    obtain ⟨r1, ka, kb⟩ := k
    refine z_if_ne (tgt := 38) dX12_word_31 rfl r1 rfl ⟨fun q => ?_, fun q => ?_⟩
    · have k := ka q
      refine z_iload dX12_word_38 rfl rfl ?_
      refine z_iconst dX12_word_40 rfl ?_
      obtain ⟨r1, ka, kb⟩ := k
      refine z_icmp_ne (tgt := 48) dX12_word_41 rfl r1 ⟨by decide, by decide⟩ rfl ⟨fun q => ?_, fun q => ?_⟩
      · have k := ka q
        refine z_iload dX12_word_48 rfl rfl ?_
        refine z_iconst dX12_word_50 rfl ?_
        obtain ⟨r1, ka, kb⟩ := k
        refine z_icmp_ne (tgt := 59) dX12_word_51 rfl r1 ⟨by decide, by decide⟩ rfl ⟨fun q => ?_, fun q => ?_⟩
        · have k := ka q
          refine z_iload dX12_word_59 rfl rfl ?_
          refine z_callSb sX12_isLetter kX12_450 dX12_word_61 rfl (zRo_d d) (as := [vi l5]) (rest := []) (Nat.le_of_ble_eq_true rfl) rfl rfl (zCb_mono (fun x1 h2 k => ?_) k)
          obtain ⟨ka, kb⟩ := k
          refine z_ifb_ne (tgt := 73) dX12_word_64 rfl rfl ⟨fun q => ?_, fun q => ?_⟩
          · have k := ka q
            refine z_iinc dX12_word_73 rfl (Nat.le_of_ble_eq_true rfl) (L' := [some (vr 12 466), some (vi l1), some (vi l2), some (vi l3), some (vi l4), some (vi l5), some (vi (l6 + 1))]) rfl rfl ?_
            refine z_goto (tgt := 23) dX12_word_76 rfl ?_
            exact z_sub (L' := [some (vr 12 466), some (vi l1), some (vi l2), some (vi l3), some (vi l4), some (vi l5), some (vi (l6 + 1))]) (And.intro rfl (And.intro rfl (And.intro rfl (And.intro rfl (And.intro rfl (And.intro rfl (And.intro rfl trivial))))))) k
          · have k := kb q
            refine z_aload_n 0 dX12_word_67 rfl rfl (Nat.le_of_ble_eq_true rfl) rfl ?_
            refine z_iconst dX12_word_68 rfl ?_
            refine z_callVi vX12_refused kX12_426 dX12_word_69 rfl (zRo_d d) (as := [vi 2]) (rest := []) (Nat.le_of_ble_eq_true rfl) rfl rfl (zCi_mono (fun x3 h4 k => ?_) k)
            exact z_ireturn rfl dX12_word_72 ⟨_, rfl, k⟩
        · have k := kb q
          refine z_iload dX12_word_54 rfl rfl ?_
          refine z_goto (tgt := 61) dX12_word_56 rfl ?_
          refine z_callSb sX12_isLetter kX12_450 dX12_word_61 rfl (zRo_d d) (as := [vi l4]) (rest := []) (Nat.le_of_ble_eq_true rfl) rfl rfl (zCb_mono (fun x5 h6 k => ?_) k)
          obtain ⟨ka, kb⟩ := k
          refine z_ifb_ne (tgt := 73) dX12_word_64 rfl rfl ⟨fun q => ?_, fun q => ?_⟩
          · have k := ka q
            refine z_iinc dX12_word_73 rfl (Nat.le_of_ble_eq_true rfl) (L' := [some (vr 12 466), some (vi l1), some (vi l2), some (vi l3), some (vi l4), some (vi l5), some (vi (l6 + 1))]) rfl rfl ?_
            refine z_goto (tgt := 23) dX12_word_76 rfl ?_
            exact z_sub (L' := [some (vr 12 466), some (vi l1), some (vi l2), some (vi l3), some (vi l4), some (vi l5), some (vi (l6 + 1))]) (And.intro rfl (And.intro rfl (And.intro rfl (And.intro rfl (And.intro rfl (And.intro rfl (And.intro rfl trivial))))))) k
          · have k := kb q
            refine z_aload_n 0 dX12_word_67 rfl rfl (Nat.le_of_ble_eq_true rfl) rfl ?_
            refine z_iconst dX12_word_68 rfl ?_
            refine z_callVi vX12_refused kX12_426 dX12_word_69 rfl (zRo_d d) (as := [vi 2]) (rest := []) (Nat.le_of_ble_eq_true rfl) rfl rfl (zCi_mono (fun x7 h8 k => ?_) k)
            exact z_ireturn rfl dX12_word_72 ⟨_, rfl, k⟩
      · have k := kb q
        refine z_iload_n 3 dX12_word_44 rfl rfl rfl ?_
        refine z_goto (tgt := 61) dX12_word_45 rfl ?_
        refine z_callSb sX12_isLetter kX12_450 dX12_word_61 rfl (zRo_d d) (as := [vi l3]) (rest := []) (Nat.le_of_ble_eq_true rfl) rfl rfl (zCb_mono (fun x9 h10 k => ?_) k)
        obtain ⟨ka, kb⟩ := k
        refine z_ifb_ne (tgt := 73) dX12_word_64 rfl rfl ⟨fun q => ?_, fun q => ?_⟩
        · have k := ka q
          refine z_iinc dX12_word_73 rfl (Nat.le_of_ble_eq_true rfl) (L' := [some (vr 12 466), some (vi l1), some (vi l2), some (vi l3), some (vi l4), some (vi l5), some (vi (l6 + 1))]) rfl rfl ?_
          refine z_goto (tgt := 23) dX12_word_76 rfl ?_
          exact z_sub (L' := [some (vr 12 466), some (vi l1), some (vi l2), some (vi l3), some (vi l4), some (vi l5), some (vi (l6 + 1))]) (And.intro rfl (And.intro rfl (And.intro rfl (And.intro rfl (And.intro rfl (And.intro rfl (And.intro rfl trivial))))))) k
        · have k := kb q
          refine z_aload_n 0 dX12_word_67 rfl rfl (Nat.le_of_ble_eq_true rfl) rfl ?_
          refine z_iconst dX12_word_68 rfl ?_
          refine z_callVi vX12_refused kX12_426 dX12_word_69 rfl (zRo_d d) (as := [vi 2]) (rest := []) (Nat.le_of_ble_eq_true rfl) rfl rfl (zCi_mono (fun x11 h12 k => ?_) k)
          exact z_ireturn rfl dX12_word_72 ⟨_, rfl, k⟩
    · have k := kb q
      refine z_iload_n 2 dX12_word_34 rfl rfl rfl ?_
      refine z_goto (tgt := 61) dX12_word_35 rfl ?_
      refine z_callSb sX12_isLetter kX12_450 dX12_word_61 rfl (zRo_d d) (as := [vi l2]) (rest := []) (Nat.le_of_ble_eq_true rfl) rfl rfl (zCb_mono (fun x13 h14 k => ?_) k)
      obtain ⟨ka, kb⟩ := k
      refine z_ifb_ne (tgt := 73) dX12_word_64 rfl rfl ⟨fun q => ?_, fun q => ?_⟩
      · have k := ka q
        refine z_iinc dX12_word_73 rfl (Nat.le_of_ble_eq_true rfl) (L' := [some (vr 12 466), some (vi l1), some (vi l2), some (vi l3), some (vi l4), some (vi l5), some (vi (l6 + 1))]) rfl rfl ?_
        refine z_goto (tgt := 23) dX12_word_76 rfl ?_
        exact z_sub (L' := [some (vr 12 466), some (vi l1), some (vi l2), some (vi l3), some (vi l4), some (vi l5), some (vi (l6 + 1))]) (And.intro rfl (And.intro rfl (And.intro rfl (And.intro rfl (And.intro rfl (And.intro rfl (And.intro rfl trivial))))))) k
      · have k := kb q
        refine z_aload_n 0 dX12_word_67 rfl rfl (Nat.le_of_ble_eq_true rfl) rfl ?_
        refine z_iconst dX12_word_68 rfl ?_
        refine z_callVi vX12_refused kX12_426 dX12_word_69 rfl (zRo_d d) (as := [vi 2]) (rest := []) (Nat.le_of_ble_eq_true rfl) rfl rfl (zCi_mono (fun x15 h16 k => ?_) k)
        exact z_ireturn rfl dX12_word_72 ⟨_, rfl, k⟩
theorem bX12_word_82 {G : zG} {d : Nat} {K : Int → zH → Prop} {l1 : Int} {l2 : Int} {l3 : Int} {l4 : Int} {l5 : Int} {l6 : Int} {h : zH} (k : zR l6 ∧ zR l1 ∧ (l1 ≤ l6 → zCi G d mX12_good [vr 12 466, vi l1] (zup h 466 77 l1) (fun x1 h2 => K x1 h2)) ∧ (¬ l1 ≤ l6 → zR l6 ∧ (¬ l6 = 0 → zR l6 ∧ (¬ l6 = 1 → zR l6 ∧ (¬ l6 = 2 → ((0 : Int) ≤ l6 ∧ l6 < 16) ∧ tX12_word_82 G d K l1 l2 l3 l4 l5 (l6 + 1) (zup h 514 l6 l5)) ∧ (l6 = 2 → ((0 : Int) ≤ l6 ∧ l6 < 16) ∧ tX12_word_82 G d K l1 l2 l3 l4 l5 (l6 + 1) (zup h 514 l6 l4))) ∧ (l6 = 1 → ((0 : Int) ≤ l6 ∧ l6 < 16) ∧ tX12_word_82 G d K l1 l2 l3 l4 l5 (l6 + 1) (zup h 514 l6 l3))) ∧ (l6 = 0 → ((0 : Int) ≤ l6 ∧ l6 < 16) ∧ tX12_word_82 G d K l1 l2 l3 l4 l5 (l6 + 1) (zup h 514 l6 l2)))) : tX12_word_82 G d K l1 l2 l3 l4 l5 l6 h := by
  unfold tX12_word_82
  refine z_iload dX12_word_82 rfl rfl ?_
  refine z_iload_n 1 dX12_word_84 rfl rfl rfl ?_
  obtain ⟨r1, r2, ka, kb⟩ := k
  refine z_icmp_ge (tgt := 133) dX12_word_85 rfl r1 r2 rfl ⟨fun q => ?_, fun q => ?_⟩
  · have k := ka q
    refine z_aload_n 0 dX12_word_133 rfl rfl (Nat.le_of_ble_eq_true rfl) rfl ?_
    refine z_iload_n 1 dX12_word_134 rfl rfl rfl ?_
    refine z_putI 12 gX12_626 dX12_word_135 rfl ?_
    refine z_aload_n 0 dX12_word_138 rfl rfl (Nat.le_of_ble_eq_true rfl) rfl ?_
    refine z_iload_n 1 dX12_word_139 rfl rfl rfl ?_
    refine z_callVi vX12_good kX12_196 dX12_word_140 rfl (zRo_d d) (as := [vi l1]) (rest := []) (Nat.le_of_ble_eq_true rfl) rfl rfl (zCi_mono (fun x1 h2 k => ?_) k)
    exact z_ireturn rfl dX12_word_143 ⟨_, rfl, k⟩
  · have k := kb q
    refine z_aload_n 0 dX12_word_88 rfl rfl (Nat.le_of_ble_eq_true rfl) rfl ?_
    refine z_getF 12 13 (x := 514) fX12_157 rfl dX12_word_89 rfl rfl ?_
    refine z_iload dX12_word_92 rfl rfl ?_
    refine z_iload dX12_word_94 rfl rfl ?_
    obtain ⟨r1, ka, kb⟩ := k
    refine z_if_ne (tgt := 103) dX12_word_96 rfl r1 rfl ⟨fun q => ?_, fun q => ?_⟩
    · have k := ka q
      refine z_iload dX12_word_103 rfl rfl ?_
      refine z_iconst dX12_word_105 rfl ?_
      obtain ⟨r1, ka, kb⟩ := k
      refine z_icmp_ne (tgt := 113) dX12_word_106 rfl r1 ⟨by decide, by decide⟩ rfl ⟨fun q => ?_, fun q => ?_⟩
      · have k := ka q
        refine z_iload dX12_word_113 rfl rfl ?_
        refine z_iconst dX12_word_115 rfl ?_
        obtain ⟨r1, ka, kb⟩ := k
        refine z_icmp_ne (tgt := 124) dX12_word_116 rfl r1 ⟨by decide, by decide⟩ rfl ⟨fun q => ?_, fun q => ?_⟩
        · have k := ka q
          refine z_iload dX12_word_124 rfl rfl ?_
          obtain ⟨i9, k⟩ := k
          refine z_iast dX12_word_126 (by rw [zl_514]; exact i9) rfl ?_
          refine z_iinc dX12_word_127 rfl (Nat.le_of_ble_eq_true rfl) (L' := [some (vr 12 466), some (vi l1), some (vi l2), some (vi l3), some (vi l4), some (vi l5), some (vi (l6 + 1))]) rfl rfl ?_
          refine z_goto (tgt := 82) dX12_word_130 rfl ?_
          exact z_sub (L' := [some (vr 12 466), some (vi l1), some (vi l2), some (vi l3), some (vi l4), some (vi l5), some (vi (l6 + 1))]) (And.intro rfl (And.intro rfl (And.intro rfl (And.intro rfl (And.intro rfl (And.intro rfl (And.intro rfl trivial))))))) k
        · have k := kb q
          refine z_iload dX12_word_119 rfl rfl ?_
          refine z_goto (tgt := 126) dX12_word_121 rfl ?_
          obtain ⟨i9, k⟩ := k
          refine z_iast dX12_word_126 (by rw [zl_514]; exact i9) rfl ?_
          refine z_iinc dX12_word_127 rfl (Nat.le_of_ble_eq_true rfl) (L' := [some (vr 12 466), some (vi l1), some (vi l2), some (vi l3), some (vi l4), some (vi l5), some (vi (l6 + 1))]) rfl rfl ?_
          refine z_goto (tgt := 82) dX12_word_130 rfl ?_
          exact z_sub (L' := [some (vr 12 466), some (vi l1), some (vi l2), some (vi l3), some (vi l4), some (vi l5), some (vi (l6 + 1))]) (And.intro rfl (And.intro rfl (And.intro rfl (And.intro rfl (And.intro rfl (And.intro rfl (And.intro rfl trivial))))))) k
      · have k := kb q
        refine z_iload_n 3 dX12_word_109 rfl rfl rfl ?_
        refine z_goto (tgt := 126) dX12_word_110 rfl ?_
        obtain ⟨i9, k⟩ := k
        refine z_iast dX12_word_126 (by rw [zl_514]; exact i9) rfl ?_
        refine z_iinc dX12_word_127 rfl (Nat.le_of_ble_eq_true rfl) (L' := [some (vr 12 466), some (vi l1), some (vi l2), some (vi l3), some (vi l4), some (vi l5), some (vi (l6 + 1))]) rfl rfl ?_
        refine z_goto (tgt := 82) dX12_word_130 rfl ?_
        exact z_sub (L' := [some (vr 12 466), some (vi l1), some (vi l2), some (vi l3), some (vi l4), some (vi l5), some (vi (l6 + 1))]) (And.intro rfl (And.intro rfl (And.intro rfl (And.intro rfl (And.intro rfl (And.intro rfl (And.intro rfl trivial))))))) k
    · have k := kb q
      refine z_iload_n 2 dX12_word_99 rfl rfl rfl ?_
      refine z_goto (tgt := 126) dX12_word_100 rfl ?_
      obtain ⟨i9, k⟩ := k
      refine z_iast dX12_word_126 (by rw [zl_514]; exact i9) rfl ?_
      refine z_iinc dX12_word_127 rfl (Nat.le_of_ble_eq_true rfl) (L' := [some (vr 12 466), some (vi l1), some (vi l2), some (vi l3), some (vi l4), some (vi l5), some (vi (l6 + 1))]) rfl rfl ?_
      refine z_goto (tgt := 82) dX12_word_130 rfl ?_
      exact z_sub (L' := [some (vr 12 466), some (vi l1), some (vi l2), some (vi l3), some (vi l4), some (vi l5), some (vi (l6 + 1))]) (And.intro rfl (And.intro rfl (And.intro rfl (And.intro rfl (And.intro rfl (And.intro rfl (And.intro rfl trivial))))))) k
theorem eX12_word {G : zG} {d : Nat} {K : Int → zH → Prop} {l1 : Int} {l2 : Int} {l3 : Int} {l4 : Int} {l5 : Int} {h : zH} (k : tX12_word_0 G d K l1 l2 l3 l4 l5 h) : zCi G (d + 1) mX12_word [vr 12 466, vi l1, vi l2, vi l3, vi l4, vi l5] h K := z_entry (by decide +kernel) (Nat.le_of_ble_eq_true rfl) rfl k
def tX12_more_0 (G : zG) (d : Nat) (K : Int → zH → Prop) (l1 : Int) (h : zH) : Prop := zTi G (d + 1) mX12_more K 0 [some (vr 12 466), some (vi l1)] [] h
theorem bX12_more_0 {G : zG} {d : Nat} {K : Int → zH → Prop} {l1 : Int} {h : zH} (k : zCb G d mX12_isLetter [vi l1] (zup h 466 0 0) (fun x1 h2 => (x1 = true → zR (h2 466 77) ∧ (¬ (h2 466 77) = 16 → ((0 : Int) ≤ (h2 466 77) ∧ (h2 466 77) < 16) ∧ zCi G d mX12_good [vr 12 466, vi ((h2 466 77) + 1)] (zup (zup h2 514 (h2 466 77) l1) 466 77 ((h2 466 77) + 1)) (fun x3 h4 => K x3 h4)) ∧ ((h2 466 77) = 16 → zCi G d mX12_refused [vr 12 466, vi 3] h2 (fun x5 h6 => K x5 h6))) ∧ (x1 = false → zCi G d mX12_refused [vr 12 466, vi 2] h2 (fun x7 h8 => K x7 h8)))) : tX12_more_0 G d K l1 h := by
  unfold tX12_more_0
  refine z_aload_n 0 dX12_more_0 rfl rfl (Nat.le_of_ble_eq_true rfl) rfl ?_
  refine z_iconst dX12_more_1 rfl ?_
  refine z_putI 12 gX12_190 dX12_more_2 rfl ?_
  refine z_iload_n 1 dX12_more_5 rfl rfl rfl ?_
  refine z_callSb sX12_isLetter kX12_450 dX12_more_6 rfl (zRo_d d) (as := [vi l1]) (rest := []) (Nat.le_of_ble_eq_true rfl) rfl rfl (zCb_mono (fun x1 h2 k => ?_) k)
  obtain ⟨ka, kb⟩ := k
  refine z_ifb_ne (tgt := 18) dX12_more_9 rfl rfl ⟨fun q => ?_, fun q => ?_⟩
  · have k := ka q
    refine z_aload_n 0 dX12_more_18 rfl rfl (Nat.le_of_ble_eq_true rfl) rfl ?_
    refine z_getI 12 (x := (h2 466 77)) fX12_626 rfl dX12_more_19 rfl rfl ?_
    refine z_bipush dX12_more_22 rfl rfl ?_
    obtain ⟨r1, ka, kb⟩ := k
    refine z_icmp_ne (tgt := 33) dX12_more_24 rfl r1 ⟨by decide, by decide⟩ rfl ⟨fun q => ?_, fun q => ?_⟩
    · have k := ka q
      refine z_aload_n 0 dX12_more_33 rfl rfl (Nat.le_of_ble_eq_true rfl) rfl ?_
      refine z_getF 12 13 (x := 514) fX12_157 rfl dX12_more_34 rfl rfl ?_
      refine z_aload_n 0 dX12_more_37 rfl rfl (Nat.le_of_ble_eq_true rfl) rfl ?_
      refine z_getI 12 (x := (h2 466 77)) fX12_626 rfl dX12_more_38 rfl rfl ?_
      refine z_iload_n 1 dX12_more_41 rfl rfl rfl ?_
      obtain ⟨i9, k⟩ := k
      refine z_iast dX12_more_42 (by rw [zl_514]; exact i9) rfl ?_
      refine z_aload_n 0 dX12_more_43 rfl rfl (Nat.le_of_ble_eq_true rfl) rfl ?_
      refine z_dup dX12_more_44 (fun q => by cases q) rfl ?_
      refine z_getI 12 (x := (h2 466 77)) fX12_626 rfl dX12_more_45 (by simp [zup]) rfl ?_
      refine z_iconst dX12_more_48 rfl ?_
      refine z_iadd dX12_more_49 rfl ?_
      refine z_putI 12 gX12_626 dX12_more_50 rfl ?_
      refine z_aload_n 0 dX12_more_53 rfl rfl (Nat.le_of_ble_eq_true rfl) rfl ?_
      refine z_aload_n 0 dX12_more_54 rfl rfl (Nat.le_of_ble_eq_true rfl) rfl ?_
      refine z_getI 12 (x := ((h2 466 77) + 1)) fX12_626 rfl dX12_more_55 (by simp [zup]) rfl ?_
      refine z_callVi vX12_good kX12_196 dX12_more_58 rfl (zRo_d d) (as := [vi ((h2 466 77) + 1)]) (rest := []) (Nat.le_of_ble_eq_true rfl) rfl rfl (zCi_mono (fun x3 h4 k => ?_) k)
      exact z_ireturn rfl dX12_more_61 ⟨_, rfl, k⟩
    · have k := kb q
      refine z_aload_n 0 dX12_more_27 rfl rfl (Nat.le_of_ble_eq_true rfl) rfl ?_
      refine z_iconst dX12_more_28 rfl ?_
      refine z_callVi vX12_refused kX12_426 dX12_more_29 rfl (zRo_d d) (as := [vi 3]) (rest := []) (Nat.le_of_ble_eq_true rfl) rfl rfl (zCi_mono (fun x5 h6 k => ?_) k)
      exact z_ireturn rfl dX12_more_32 ⟨_, rfl, k⟩
  · have k := kb q
    refine z_aload_n 0 dX12_more_12 rfl rfl (Nat.le_of_ble_eq_true rfl) rfl ?_
    refine z_iconst dX12_more_13 rfl ?_
    refine z_callVi vX12_refused kX12_426 dX12_more_14 rfl (zRo_d d) (as := [vi 2]) (rest := []) (Nat.le_of_ble_eq_true rfl) rfl rfl (zCi_mono (fun x7 h8 k => ?_) k)
    exact z_ireturn rfl dX12_more_17 ⟨_, rfl, k⟩
theorem eX12_more {G : zG} {d : Nat} {K : Int → zH → Prop} {l1 : Int} {h : zH} (k : tX12_more_0 G d K l1 h) : zCi G (d + 1) mX12_more [vr 12 466, vi l1] h K := z_entry (by decide +kernel) (Nat.le_of_ble_eq_true rfl) rfl k
def tX12_led_0 (G : zG) (d : Nat) (K : Int → zH → Prop) (l1 : Int) (h : zH) : Prop := zTl G (d + 1) mX12_led K 0 [some (vr 12 466), some (vi l1), none, none, none] [] h
def tX12_led_10 (G : zG) (d : Nat) (K : Int → zH → Prop) (l1 : Int) (l2 : Int) (l4 : Int) (h : zH) : Prop := zTl G (d + 1) mX12_led K 10 [some (vr 12 466), some (vi l1), some (vl l2), none, some (vi l4)] [] h
theorem bX12_led_0 {G : zG} {d : Nat} {K : Int → zH → Prop} {l1 : Int} {h : zH} (k : zCl G d mX12_freed [vr 12 466, vi l1, vl 1] h (fun x1 h2 => tX12_led_10 G d K l1 x1 0 h2)) : tX12_led_0 G d K l1 h := by
  unfold tX12_led_0
  refine z_aload_n 0 dX12_led_0 rfl rfl (Nat.le_of_ble_eq_true rfl) rfl ?_
  refine z_iload_n 1 dX12_led_1 rfl rfl rfl ?_
  refine z_lconst (x := 1) dX12_led_2 rfl rfl ?_
  refine z_callVl vX12_freed kX12_530 dX12_led_3 rfl (zRo_d d) (as := [vi l1, vl 1]) (rest := []) (Nat.le_of_ble_eq_true rfl) rfl rfl (zCl_mono (fun x1 h2 k => ?_) k)
  refine z_lstore_n 2 dX12_led_6 rfl (Nat.le_of_ble_eq_true rfl) (L' := [some (vr 12 466), some (vi l1), some (vl x1), none, none]) rfl rfl ?_
  refine z_iconst dX12_led_7 rfl ?_
  refine z_istore dX12_led_8 (Nat.le_of_ble_eq_true rfl) (L' := [some (vr 12 466), some (vi l1), some (vl x1), none, some (vi 0)]) rfl rfl ?_
  exact z_sub (L' := [some (vr 12 466), some (vi l1), some (vl x1), none, some (vi 0)]) (And.intro rfl (And.intro rfl (And.intro rfl (And.intro rfl trivial)))) k
theorem bX12_led_10 {G : zG} {d : Nat} {K : Int → zH → Prop} {l1 : Int} {l2 : Int} {l4 : Int} {h : zH} (k : zR l4 ∧ zR (h 466 77) ∧ ((h 466 77) ≤ l4 → K l2 h) ∧ (¬ (h 466 77) ≤ l4 → ((0 : Int) ≤ l4 ∧ l4 < 16) ∧ zCi G d mX12_blockAt [vr 12 466, vi l1, vi (h 514 l4)] h (fun x1 h2 => zCl G d mX12_stepped [vr 12 466, vi l1, vl l2, vi x1] h2 (fun x3 h4 => tX12_led_10 G d K l1 x3 (l4 + 1) h4)))) : tX12_led_10 G d K l1 l2 l4 h := by
  unfold tX12_led_10
  refine z_iload dX12_led_10 rfl rfl ?_
  refine z_aload_n 0 dX12_led_12 rfl rfl (Nat.le_of_ble_eq_true rfl) rfl ?_
  refine z_getI 12 (x := (h 466 77)) fX12_626 rfl dX12_led_13 rfl rfl ?_
  obtain ⟨r1, r2, ka, kb⟩ := k
  refine z_icmp_ge (tgt := 44) dX12_led_16 rfl r1 r2 rfl ⟨fun q => ?_, fun q => ?_⟩
  · have k := ka q
    refine z_lload_n 2 dX12_led_44 rfl rfl rfl ?_
    exact z_lreturn rfl dX12_led_45 ⟨_, rfl, k⟩
  · have k := kb q
    refine z_aload_n 0 dX12_led_19 rfl rfl (Nat.le_of_ble_eq_true rfl) rfl ?_
    refine z_iload_n 1 dX12_led_20 rfl rfl rfl ?_
    refine z_lload_n 2 dX12_led_21 rfl rfl rfl ?_
    refine z_aload_n 0 dX12_led_22 rfl rfl (Nat.le_of_ble_eq_true rfl) rfl ?_
    refine z_iload_n 1 dX12_led_23 rfl rfl rfl ?_
    refine z_aload_n 0 dX12_led_24 rfl rfl (Nat.le_of_ble_eq_true rfl) rfl ?_
    refine z_getF 12 13 (x := 514) fX12_157 rfl dX12_led_25 rfl rfl ?_
    refine z_iload dX12_led_28 rfl rfl ?_
    obtain ⟨i9, k⟩ := k
    refine z_iald (x := (h 514 l4)) dX12_led_30 (by rw [zl_514]; exact i9) rfl rfl ?_
    refine z_callVi vX12_blockAt kX12_524 dX12_led_31 rfl (zRo_d d) (as := [vi l1, vi (h 514 l4)]) (rest := [vl l2, vi l1, vr 12 466]) (Nat.le_of_ble_eq_true rfl) rfl rfl (zCi_mono (fun x1 h2 k => ?_) k)
    refine z_callVl vX12_stepped kX12_534 dX12_led_34 rfl (zRo_d d) (as := [vi l1, vl l2, vi x1]) (rest := []) (Nat.le_of_ble_eq_true rfl) rfl rfl (zCl_mono (fun x3 h4 k => ?_) k)
    refine z_lstore_n 2 dX12_led_37 rfl (Nat.le_of_ble_eq_true rfl) (L' := [some (vr 12 466), some (vi l1), some (vl x3), none, some (vi l4)]) rfl rfl ?_
    refine z_iinc dX12_led_38 rfl (Nat.le_of_ble_eq_true rfl) (L' := [some (vr 12 466), some (vi l1), some (vl x3), none, some (vi (l4 + 1))]) rfl rfl ?_
    refine z_goto (tgt := 10) dX12_led_41 rfl ?_
    exact z_sub (L' := [some (vr 12 466), some (vi l1), some (vl x3), none, some (vi (l4 + 1))]) (And.intro rfl (And.intro rfl (And.intro rfl (And.intro rfl trivial)))) k
theorem eX12_led {G : zG} {d : Nat} {K : Int → zH → Prop} {l1 : Int} {h : zH} (k : tX12_led_0 G d K l1 h) : zCl G (d + 1) mX12_led [vr 12 466, vi l1] h K := z_entry (by decide +kernel) (Nat.le_of_ble_eq_true rfl) rfl k
def tX12_taken_0 (G : zG) (d : Nat) (K : Int → zH → Prop) (l1 : Int) (h : zH) : Prop := zTi G (d + 1) mX12_taken K 0 [some (vr 12 466), some (vi l1)] [] h
theorem bX12_taken_0 {G : zG} {d : Nat} {K : Int → zH → Prop} {l1 : Int} {h : zH} (k : zCb G d mX12_isMachine [vr 12 466, vi l1] (zup h 466 0 0) (fun x1 h2 => (x1 = true → zCl G d mX12_led [vr 12 466, vi l1] h2 (fun x3 h4 => ((0 : Int) ≤ l1 ∧ l1 < 14) ∧ ((zcmp (zland x3 (h4 502 l1)) 0) = 0 → zCi G d mX12_good [vr 12 466, vi 0] h4 (fun x5 h6 => K x5 h6)) ∧ (¬ (zcmp (zland x3 (h4 502 l1)) 0) = 0 → zCi G d mX12_good [vr 12 466, vi 1] h4 (fun x7 h8 => K x7 h8)))) ∧ (x1 = false → zCi G d mX12_refused [vr 12 466, vi 1] h2 (fun x9 h10 => K x9 h10)))) : tX12_taken_0 G d K l1 h := by
  unfold tX12_taken_0
  refine z_aload_n 0 dX12_taken_0 rfl rfl (Nat.le_of_ble_eq_true rfl) rfl ?_
  refine z_iconst dX12_taken_1 rfl ?_
  refine z_putI 12 gX12_190 dX12_taken_2 rfl ?_
  refine z_aload_n 0 dX12_taken_5 rfl rfl (Nat.le_of_ble_eq_true rfl) rfl ?_
  refine z_iload_n 1 dX12_taken_6 rfl rfl rfl ?_
  refine z_callVb vX12_isMachine kX12_561 dX12_taken_7 rfl (zRo_d d) (as := [vi l1]) (rest := []) (Nat.le_of_ble_eq_true rfl) rfl rfl (zCb_mono (fun x1 h2 k => ?_) k)
  obtain ⟨ka, kb⟩ := k
  refine z_ifb_ne (tgt := 19) dX12_taken_10 rfl rfl ⟨fun q => ?_, fun q => ?_⟩
  · have k := ka q
    refine z_aload_n 0 dX12_taken_19 rfl rfl (Nat.le_of_ble_eq_true rfl) rfl ?_
    refine z_aload_n 0 dX12_taken_20 rfl rfl (Nat.le_of_ble_eq_true rfl) rfl ?_
    refine z_iload_n 1 dX12_taken_21 rfl rfl rfl ?_
    refine z_callVl vX12_led kX12_629 dX12_taken_22 rfl (zRo_d d) (as := [vi l1]) (rest := [vr 12 466]) (Nat.le_of_ble_eq_true rfl) rfl rfl (zCl_mono (fun x3 h4 k => ?_) k)
    refine z_aload_n 0 dX12_taken_25 rfl rfl (Nat.le_of_ble_eq_true rfl) rfl ?_
    refine z_getF 12 14 (x := 502) fX12_121 rfl dX12_taken_26 rfl rfl ?_
    refine z_iload_n 1 dX12_taken_29 rfl rfl rfl ?_
    obtain ⟨i9, k⟩ := k
    refine z_lald (x := (h4 502 l1)) dX12_taken_30 (by rw [zl_502]; exact i9) rfl rfl ?_
    refine z_land dX12_taken_31 rfl ?_
    refine z_lconst (x := 0) dX12_taken_32 rfl rfl ?_
    refine z_lcmp dX12_taken_33 rfl ?_
    obtain ⟨ka, kb⟩ := k
    refine z_if_eq (tgt := 41) dX12_taken_34 rfl (zcmp_R _ _) rfl ⟨fun q => ?_, fun q => ?_⟩
    · have k := ka q
      refine z_iconst dX12_taken_41 rfl ?_
      refine z_callVi vX12_good kX12_196 dX12_taken_42 rfl (zRo_d d) (as := [vi 0]) (rest := []) (Nat.le_of_ble_eq_true rfl) rfl rfl (zCi_mono (fun x5 h6 k => ?_) k)
      exact z_ireturn rfl dX12_taken_45 ⟨_, rfl, k⟩
    · have k := kb q
      refine z_iconst dX12_taken_37 rfl ?_
      refine z_goto (tgt := 42) dX12_taken_38 rfl ?_
      refine z_callVi vX12_good kX12_196 dX12_taken_42 rfl (zRo_d d) (as := [vi 1]) (rest := []) (Nat.le_of_ble_eq_true rfl) rfl rfl (zCi_mono (fun x7 h8 k => ?_) k)
      exact z_ireturn rfl dX12_taken_45 ⟨_, rfl, k⟩
  · have k := kb q
    refine z_aload_n 0 dX12_taken_13 rfl rfl (Nat.le_of_ble_eq_true rfl) rfl ?_
    refine z_iconst dX12_taken_14 rfl ?_
    refine z_callVi vX12_refused kX12_426 dX12_taken_15 rfl (zRo_d d) (as := [vi 1]) (rest := []) (Nat.le_of_ble_eq_true rfl) rfl rfl (zCi_mono (fun x9 h10 k => ?_) k)
    exact z_ireturn rfl dX12_taken_18 ⟨_, rfl, k⟩
theorem eX12_taken {G : zG} {d : Nat} {K : Int → zH → Prop} {l1 : Int} {h : zH} (k : tX12_taken_0 G d K l1 h) : zCi G (d + 1) mX12_taken [vr 12 466, vi l1] h K := z_entry (by decide +kernel) (Nat.le_of_ble_eq_true rfl) rfl k
def tX12_leads_0 (G : zG) (d : Nat) (K : Int → zH → Prop) (l1 : Int) (h : zH) : Prop := zTl G (d + 1) mX12_leads K 0 [some (vr 12 466), some (vi l1)] [] h
theorem bX12_leads_0 {G : zG} {d : Nat} {K : Int → zH → Prop} {l1 : Int} {h : zH} (k : zCb G d mX12_isMachine [vr 12 466, vi l1] (zup h 466 0 0) (fun x1 h2 => (x1 = true → zCl G d mX12_led [vr 12 466, vi l1] h2 (fun x3 h4 => zCl G d mX12_goodLong [vr 12 466, vl x3] h4 (fun x5 h6 => K x5 h6))) ∧ (x1 = false → zCi G d mX12_refused [vr 12 466, vi 1] h2 (fun x7 h8 => zR x7 ∧ K x7 h8)))) : tX12_leads_0 G d K l1 h := by
  unfold tX12_leads_0
  refine z_aload_n 0 dX12_leads_0 rfl rfl (Nat.le_of_ble_eq_true rfl) rfl ?_
  refine z_iconst dX12_leads_1 rfl ?_
  refine z_putI 12 gX12_190 dX12_leads_2 rfl ?_
  refine z_aload_n 0 dX12_leads_5 rfl rfl (Nat.le_of_ble_eq_true rfl) rfl ?_
  refine z_iload_n 1 dX12_leads_6 rfl rfl rfl ?_
  refine z_callVb vX12_isMachine kX12_561 dX12_leads_7 rfl (zRo_d d) (as := [vi l1]) (rest := []) (Nat.le_of_ble_eq_true rfl) rfl rfl (zCb_mono (fun x1 h2 k => ?_) k)
  obtain ⟨ka, kb⟩ := k
  refine z_ifb_ne (tgt := 20) dX12_leads_10 rfl rfl ⟨fun q => ?_, fun q => ?_⟩
  · have k := ka q
    refine z_aload_n 0 dX12_leads_20 rfl rfl (Nat.le_of_ble_eq_true rfl) rfl ?_
    refine z_aload_n 0 dX12_leads_21 rfl rfl (Nat.le_of_ble_eq_true rfl) rfl ?_
    refine z_iload_n 1 dX12_leads_22 rfl rfl rfl ?_
    refine z_callVl vX12_led kX12_629 dX12_leads_23 rfl (zRo_d d) (as := [vi l1]) (rest := [vr 12 466]) (Nat.le_of_ble_eq_true rfl) rfl rfl (zCl_mono (fun x3 h4 k => ?_) k)
    refine z_callVl vX12_goodLong kX12_583 dX12_leads_26 rfl (zRo_d d) (as := [vl x3]) (rest := []) (Nat.le_of_ble_eq_true rfl) rfl rfl (zCl_mono (fun x5 h6 k => ?_) k)
    exact z_lreturn rfl dX12_leads_29 ⟨_, rfl, k⟩
  · have k := kb q
    refine z_aload_n 0 dX12_leads_13 rfl rfl (Nat.le_of_ble_eq_true rfl) rfl ?_
    refine z_iconst dX12_leads_14 rfl ?_
    refine z_callVi vX12_refused kX12_426 dX12_leads_15 rfl (zRo_d d) (as := [vi 1]) (rest := []) (Nat.le_of_ble_eq_true rfl) rfl rfl (zCi_mono (fun x7 h8 k => ?_) k)
    obtain ⟨r9, k⟩ := k
    refine z_i2l dX12_leads_18 r9 rfl ?_
    exact z_lreturn rfl dX12_leads_19 ⟨_, rfl, k⟩
theorem eX12_leads {G : zG} {d : Nat} {K : Int → zH → Prop} {l1 : Int} {h : zH} (k : tX12_leads_0 G d K l1 h) : zCl G (d + 1) mX12_leads [vr 12 466, vi l1] h K := z_entry (by decide +kernel) (Nat.le_of_ble_eq_true rfl) rfl k
def tX12_classOf_0 (G : zG) (d : Nat) (K : Int → zH → Prop) (l1 : Int) (h : zH) : Prop := zTi G (d + 1) mX12_classOf K 0 [some (vr 12 466), some (vi l1)] [] h
theorem bX12_classOf_0 {G : zG} {d : Nat} {K : Int → zH → Prop} {l1 : Int} {h : zH} (k : zCb G d mX12_isMachine [vr 12 466, vi l1] (zup h 466 0 0) (fun x1 h2 => (x1 = true → zCv G d mX12_sorts [vr 12 466, vi l1, vi 0] h2 (fun h4 => zCl G d mX12_led [vr 12 466, vi l1] h4 (fun x5 h6 => zCi G d mX12_sheafIn [vr 12 466, vi 0, vi (h4 506 0), vl x5] h6 (fun x7 h8 => ((0 : Int) ≤ x7 ∧ x7 < 80) ∧ zCi G d mX12_good [vr 12 466, vi (h8 510 x7)] h8 (fun x9 h10 => K x9 h10))))) ∧ (x1 = false → zCi G d mX12_refused [vr 12 466, vi 1] h2 (fun x11 h12 => K x11 h12)))) : tX12_classOf_0 G d K l1 h := by
  unfold tX12_classOf_0
  refine z_aload_n 0 dX12_classOf_0 rfl rfl (Nat.le_of_ble_eq_true rfl) rfl ?_
  refine z_iconst dX12_classOf_1 rfl ?_
  refine z_putI 12 gX12_190 dX12_classOf_2 rfl ?_
  refine z_aload_n 0 dX12_classOf_5 rfl rfl (Nat.le_of_ble_eq_true rfl) rfl ?_
  refine z_iload_n 1 dX12_classOf_6 rfl rfl rfl ?_
  refine z_callVb vX12_isMachine kX12_561 dX12_classOf_7 rfl (zRo_d d) (as := [vi l1]) (rest := []) (Nat.le_of_ble_eq_true rfl) rfl rfl (zCb_mono (fun x1 h2 k => ?_) k)
  obtain ⟨ka, kb⟩ := k
  refine z_ifb_ne (tgt := 19) dX12_classOf_10 rfl rfl ⟨fun q => ?_, fun q => ?_⟩
  · have k := ka q
    refine z_aload_n 0 dX12_classOf_19 rfl rfl (Nat.le_of_ble_eq_true rfl) rfl ?_
    refine z_iload_n 1 dX12_classOf_20 rfl rfl rfl ?_
    refine z_iconst dX12_classOf_21 rfl ?_
    refine z_callVv vX12_sorts kX12_568 dX12_classOf_22 rfl (zRo_d d) (as := [vi l1, vi 0]) (rest := []) (Nat.le_of_ble_eq_true rfl) rfl rfl (zCv_mono (fun h4 k => ?_) k)
    refine z_aload_n 0 dX12_classOf_25 rfl rfl (Nat.le_of_ble_eq_true rfl) rfl ?_
    refine z_aload_n 0 dX12_classOf_26 rfl rfl (Nat.le_of_ble_eq_true rfl) rfl ?_
    refine z_getF 12 13 (x := 510) fX12_145 rfl dX12_classOf_27 rfl rfl ?_
    refine z_aload_n 0 dX12_classOf_30 rfl rfl (Nat.le_of_ble_eq_true rfl) rfl ?_
    refine z_iconst dX12_classOf_31 rfl ?_
    refine z_aload_n 0 dX12_classOf_32 rfl rfl (Nat.le_of_ble_eq_true rfl) rfl ?_
    refine z_getF 12 13 (x := 506) fX12_133 rfl dX12_classOf_33 rfl rfl ?_
    refine z_iconst dX12_classOf_36 rfl ?_
    refine z_iald (x := (h4 506 0)) dX12_classOf_37 (by rw [zl_506]; decide) rfl rfl ?_
    refine z_aload_n 0 dX12_classOf_38 rfl rfl (Nat.le_of_ble_eq_true rfl) rfl ?_
    refine z_iload_n 1 dX12_classOf_39 rfl rfl rfl ?_
    refine z_callVl vX12_led kX12_629 dX12_classOf_40 rfl (zRo_d d) (as := [vi l1]) (rest := [vi (h4 506 0), vi 0, vr 12 466, vr 13 510, vr 12 466]) (Nat.le_of_ble_eq_true rfl) rfl rfl (zCl_mono (fun x5 h6 k => ?_) k)
    refine z_callVi vX12_sheafIn kX12_538 dX12_classOf_43 rfl (zRo_d d) (as := [vi 0, vi (h4 506 0), vl x5]) (rest := [vr 13 510, vr 12 466]) (Nat.le_of_ble_eq_true rfl) rfl rfl (zCi_mono (fun x7 h8 k => ?_) k)
    obtain ⟨i9, k⟩ := k
    refine z_iald (x := (h8 510 x7)) dX12_classOf_46 (by rw [zl_510]; exact i9) rfl rfl ?_
    refine z_callVi vX12_good kX12_196 dX12_classOf_47 rfl (zRo_d d) (as := [vi (h8 510 x7)]) (rest := []) (Nat.le_of_ble_eq_true rfl) rfl rfl (zCi_mono (fun x9 h10 k => ?_) k)
    exact z_ireturn rfl dX12_classOf_50 ⟨_, rfl, k⟩
  · have k := kb q
    refine z_aload_n 0 dX12_classOf_13 rfl rfl (Nat.le_of_ble_eq_true rfl) rfl ?_
    refine z_iconst dX12_classOf_14 rfl ?_
    refine z_callVi vX12_refused kX12_426 dX12_classOf_15 rfl (zRo_d d) (as := [vi 1]) (rest := []) (Nat.le_of_ble_eq_true rfl) rfl rfl (zCi_mono (fun x11 h12 k => ?_) k)
    exact z_ireturn rfl dX12_classOf_18 ⟨_, rfl, k⟩
theorem eX12_classOf {G : zG} {d : Nat} {K : Int → zH → Prop} {l1 : Int} {h : zH} (k : tX12_classOf_0 G d K l1 h) : zCi G (d + 1) mX12_classOf [vr 12 466, vi l1] h K := z_entry (by decide +kernel) (Nat.le_of_ble_eq_true rfl) rfl k
def tX12_width_0 (G : zG) (d : Nat) (K : Int → zH → Prop) (l1 : Int) (l2 : Int) (h : zH) : Prop := zTi G (d + 1) mX12_width K 0 [some (vr 12 466), some (vi l1), some (vi l2)] [] h
theorem bX12_width_0 {G : zG} {d : Nat} {K : Int → zH → Prop} {l1 : Int} {l2 : Int} {h : zH} (k : zCi G d mX12_blockEnd [vr 12 466, vi l1, vi l2] h (fun x1 h2 => ((0 : Int) ≤ ((l1 * 128) + l2) ∧ ((l1 * 128) + l2) < 1792) ∧ K (x1 - (h2 497 ((l1 * 128) + l2))) h2)) : tX12_width_0 G d K l1 l2 h := by
  unfold tX12_width_0
  refine z_aload_n 0 dX12_width_0 rfl rfl (Nat.le_of_ble_eq_true rfl) rfl ?_
  refine z_iload_n 1 dX12_width_1 rfl rfl rfl ?_
  refine z_iload_n 2 dX12_width_2 rfl rfl rfl ?_
  refine z_callVi vX12_blockEnd kX12_571 dX12_width_3 rfl (zRo_d d) (as := [vi l1, vi l2]) (rest := []) (Nat.le_of_ble_eq_true rfl) rfl rfl (zCi_mono (fun x1 h2 k => ?_) k)
  refine z_aload_n 0 dX12_width_6 rfl rfl (Nat.le_of_ble_eq_true rfl) rfl ?_
  refine z_getF 12 13 (x := 497) fX12_106 rfl dX12_width_7 rfl rfl ?_
  refine z_iload_n 1 dX12_width_10 rfl rfl rfl ?_
  refine z_sipush dX12_width_11 rfl rfl ?_
  refine z_imul dX12_width_14 rfl ?_
  refine z_iload_n 2 dX12_width_15 rfl rfl rfl ?_
  refine z_iadd dX12_width_16 rfl ?_
  obtain ⟨i9, k⟩ := k
  refine z_iald (x := (h2 497 ((l1 * 128) + l2))) dX12_width_17 (by rw [zl_497]; exact i9) rfl rfl ?_
  refine z_isub dX12_width_18 rfl ?_
  exact z_ireturn rfl dX12_width_19 ⟨_, rfl, k⟩
theorem eX12_width {G : zG} {d : Nat} {K : Int → zH → Prop} {l1 : Int} {l2 : Int} {h : zH} (k : tX12_width_0 G d K l1 l2 h) : zCi G (d + 1) mX12_width [vr 12 466, vi l1, vi l2] h K := z_entry (by decide +kernel) (Nat.le_of_ble_eq_true rfl) rfl k
def tX12_counts_0 (G : zG) (d : Nat) (K : zH → Prop) (l1 : Int) (h : zH) : Prop := zTv G (d + 1) mX12_counts K 0 [some (vr 12 466), some (vi l1), none, none] [] h
def tX12_counts_9 (G : zG) (d : Nat) (K : zH → Prop) (l1 : Int) (l2 : Int) (h : zH) : Prop := zTv G (d + 1) mX12_counts K 9 [some (vr 12 466), some (vi l1), some (vi l2), none] [] h
def tX12_counts_16 (G : zG) (d : Nat) (K : zH → Prop) (l1 : Int) (l2 : Int) (l3 : Int) (h : zH) : Prop := zTv G (d + 1) mX12_counts K 16 [some (vr 12 466), some (vi l1), some (vi l2), some (vi l3)] [] h
theorem bX12_counts_0 {G : zG} {d : Nat} {K : zH → Prop} {l1 : Int} {h : zH} (k : zCb G d mX12_gathers [vr 12 466, vi l1, vi 0] h (fun x1 h2 => tX12_counts_9 G d K l1 0 h2)) : tX12_counts_0 G d K l1 h := by
  unfold tX12_counts_0
  refine z_aload_n 0 dX12_counts_0 rfl rfl (Nat.le_of_ble_eq_true rfl) rfl ?_
  refine z_iload_n 1 dX12_counts_1 rfl rfl rfl ?_
  refine z_iconst dX12_counts_2 rfl ?_
  refine z_callVb vX12_gathers kX12_521 dX12_counts_3 rfl (zRo_d d) (as := [vi l1, vi 0]) (rest := []) (Nat.le_of_ble_eq_true rfl) rfl rfl (zCb_mono (fun x1 h2 k => ?_) k)
  refine z_pop dX12_counts_6 (fun q => by cases q) rfl ?_
  refine z_iconst dX12_counts_7 rfl ?_
  refine z_istore_n 2 dX12_counts_8 rfl (Nat.le_of_ble_eq_true rfl) (L' := [some (vr 12 466), some (vi l1), some (vi 0), none]) rfl rfl ?_
  exact z_sub (L' := [some (vr 12 466), some (vi l1), some (vi 0), none]) (And.intro rfl (And.intro rfl (And.intro rfl trivial))) k
theorem bX12_counts_9 {G : zG} {d : Nat} {K : zH → Prop} {l1 : Int} {l2 : Int} {h : zH} (k : zR l2 ∧ (3 < l2 → K h) ∧ (¬ 3 < l2 → tX12_counts_16 G d K l1 l2 0 h)) : tX12_counts_9 G d K l1 l2 h := by
  unfold tX12_counts_9
  refine z_iload_n 2 dX12_counts_9 rfl rfl rfl ?_
  refine z_iconst dX12_counts_10 rfl ?_
  obtain ⟨r1, ka, kb⟩ := k
  refine z_icmp_gt (tgt := 78) dX12_counts_11 rfl r1 ⟨by decide, by decide⟩ rfl ⟨fun q => ?_, fun q => ?_⟩
  · have k := ka q
    exact z_return rfl dX12_counts_78 ⟨rfl, k⟩
  · have k := kb q
    refine z_iconst dX12_counts_14 rfl ?_
    refine z_istore_n 3 dX12_counts_15 rfl (Nat.le_of_ble_eq_true rfl) (L' := [some (vr 12 466), some (vi l1), some (vi l2), some (vi 0)]) rfl rfl ?_
    exact z_sub (L' := [some (vr 12 466), some (vi l1), some (vi l2), some (vi 0)]) (And.intro rfl (And.intro rfl (And.intro rfl (And.intro rfl trivial)))) k
theorem bX12_counts_16 {G : zG} {d : Nat} {K : zH → Prop} {l1 : Int} {l2 : Int} {l3 : Int} {h : zH} (k : zR l3 ∧ zR (h 506 0) ∧ ((h 506 0) ≤ l3 → tX12_counts_9 G d K l1 (l2 + 1) h) ∧ (¬ (h 506 0) ≤ l3 → zR l2 ∧ (¬ l2 = 0 → zCl G d mX12_waysFrom [vr 12 466, vi l1, vi l2, vi l3] h (fun x1 h2 => ((0 : Int) ≤ ((l2 * 40) + l3) ∧ ((l2 * 40) + l3) < 160) ∧ tX12_counts_16 G d K l1 l2 (l3 + 1) (zup h2 515 ((l2 * 40) + l3) x1))) ∧ (l2 = 0 → zCb G d mX12_sheafEnds [vr 12 466, vi l1, vi 0, vi l3] h (fun x3 h4 => (x3 = false → ((0 : Int) ≤ ((l2 * 40) + l3) ∧ ((l2 * 40) + l3) < 160) ∧ tX12_counts_16 G d K l1 l2 (l3 + 1) (zup h4 515 ((l2 * 40) + l3) 0)) ∧ (x3 = true → ((0 : Int) ≤ ((l2 * 40) + l3) ∧ ((l2 * 40) + l3) < 160) ∧ tX12_counts_16 G d K l1 l2 (l3 + 1) (zup h4 515 ((l2 * 40) + l3) 1)))))) : tX12_counts_16 G d K l1 l2 l3 h := by
  unfold tX12_counts_16
  refine z_iload_n 3 dX12_counts_16 rfl rfl rfl ?_
  refine z_aload_n 0 dX12_counts_17 rfl rfl (Nat.le_of_ble_eq_true rfl) rfl ?_
  refine z_getF 12 13 (x := 506) fX12_133 rfl dX12_counts_18 rfl rfl ?_
  refine z_iconst dX12_counts_21 rfl ?_
  refine z_iald (x := (h 506 0)) dX12_counts_22 (by rw [zl_506]; decide) rfl rfl ?_
  obtain ⟨r1, r2, ka, kb⟩ := k
  refine z_icmp_ge (tgt := 72) dX12_counts_23 rfl r1 r2 rfl ⟨fun q => ?_, fun q => ?_⟩
  · have k := ka q
    refine z_iinc dX12_counts_72 rfl (Nat.le_of_ble_eq_true rfl) (L' := [some (vr 12 466), some (vi l1), some (vi (l2 + 1)), some (vi l3)]) rfl rfl ?_
    refine z_goto (tgt := 9) dX12_counts_75 rfl ?_
    exact z_sub (L' := [some (vr 12 466), some (vi l1), some (vi (l2 + 1)), none]) (And.intro rfl (And.intro rfl (And.intro rfl trivial))) k
  · have k := kb q
    refine z_aload_n 0 dX12_counts_26 rfl rfl (Nat.le_of_ble_eq_true rfl) rfl ?_
    refine z_getF 12 14 (x := 515) fX12_160 rfl dX12_counts_27 rfl rfl ?_
    refine z_iload_n 2 dX12_counts_30 rfl rfl rfl ?_
    refine z_bipush dX12_counts_31 rfl rfl ?_
    refine z_imul dX12_counts_33 rfl ?_
    refine z_iload_n 3 dX12_counts_34 rfl rfl rfl ?_
    refine z_iadd dX12_counts_35 rfl ?_
    refine z_iload_n 2 dX12_counts_36 rfl rfl rfl ?_
    obtain ⟨r1, ka, kb⟩ := k
    refine z_if_ne (tgt := 58) dX12_counts_37 rfl r1 rfl ⟨fun q => ?_, fun q => ?_⟩
    · have k := ka q
      refine z_aload_n 0 dX12_counts_58 rfl rfl (Nat.le_of_ble_eq_true rfl) rfl ?_
      refine z_iload_n 1 dX12_counts_59 rfl rfl rfl ?_
      refine z_iload_n 2 dX12_counts_60 rfl rfl rfl ?_
      refine z_iload_n 3 dX12_counts_61 rfl rfl rfl ?_
      refine z_callVl vX12_waysFrom kX12_633 dX12_counts_62 rfl (zRo_d d) (as := [vi l1, vi l2, vi l3]) (rest := [vi ((l2 * 40) + l3), vr 14 515]) (Nat.le_of_ble_eq_true rfl) rfl rfl (zCl_mono (fun x1 h2 k => ?_) k)
      obtain ⟨i9, k⟩ := k
      refine z_last dX12_counts_65 (by rw [zl_515]; exact i9) rfl ?_
      refine z_iinc dX12_counts_66 rfl (Nat.le_of_ble_eq_true rfl) (L' := [some (vr 12 466), some (vi l1), some (vi l2), some (vi (l3 + 1))]) rfl rfl ?_
      refine z_goto (tgt := 16) dX12_counts_69 rfl ?_
      exact z_sub (L' := [some (vr 12 466), some (vi l1), some (vi l2), some (vi (l3 + 1))]) (And.intro rfl (And.intro rfl (And.intro rfl (And.intro rfl trivial)))) k
    · have k := kb q
      refine z_aload_n 0 dX12_counts_40 rfl rfl (Nat.le_of_ble_eq_true rfl) rfl ?_
      refine z_iload_n 1 dX12_counts_41 rfl rfl rfl ?_
      refine z_iconst dX12_counts_42 rfl ?_
      refine z_iload_n 3 dX12_counts_43 rfl rfl rfl ?_
      refine z_callVb vX12_sheafEnds kX12_542 dX12_counts_44 rfl (zRo_d d) (as := [vi l1, vi 0, vi l3]) (rest := [vi ((l2 * 40) + l3), vr 14 515]) (Nat.le_of_ble_eq_true rfl) rfl rfl (zCb_mono (fun x3 h4 k => ?_) k)
      obtain ⟨ka, kb⟩ := k
      refine z_ifb_eq (tgt := 54) dX12_counts_47 rfl rfl ⟨fun q => ?_, fun q => ?_⟩
      · have k := ka q
        refine z_lconst (x := 0) dX12_counts_54 rfl rfl ?_
        refine z_goto (tgt := 65) dX12_counts_55 rfl ?_
        obtain ⟨i9, k⟩ := k
        refine z_last dX12_counts_65 (by rw [zl_515]; exact i9) rfl ?_
        refine z_iinc dX12_counts_66 rfl (Nat.le_of_ble_eq_true rfl) (L' := [some (vr 12 466), some (vi l1), some (vi l2), some (vi (l3 + 1))]) rfl rfl ?_
        refine z_goto (tgt := 16) dX12_counts_69 rfl ?_
        exact z_sub (L' := [some (vr 12 466), some (vi l1), some (vi l2), some (vi (l3 + 1))]) (And.intro rfl (And.intro rfl (And.intro rfl (And.intro rfl trivial)))) k
      · have k := kb q
        refine z_lconst (x := 1) dX12_counts_50 rfl rfl ?_
        refine z_goto (tgt := 65) dX12_counts_51 rfl ?_
        obtain ⟨i9, k⟩ := k
        refine z_last dX12_counts_65 (by rw [zl_515]; exact i9) rfl ?_
        refine z_iinc dX12_counts_66 rfl (Nat.le_of_ble_eq_true rfl) (L' := [some (vr 12 466), some (vi l1), some (vi l2), some (vi (l3 + 1))]) rfl rfl ?_
        refine z_goto (tgt := 16) dX12_counts_69 rfl ?_
        exact z_sub (L' := [some (vr 12 466), some (vi l1), some (vi l2), some (vi (l3 + 1))]) (And.intro rfl (And.intro rfl (And.intro rfl (And.intro rfl trivial)))) k
theorem eX12_counts {G : zG} {d : Nat} {K : zH → Prop} {l1 : Int} {h : zH} (k : tX12_counts_0 G d K l1 h) : zCv G (d + 1) mX12_counts [vr 12 466, vi l1] h K := z_entry (by decide +kernel) (Nat.le_of_ble_eq_true rfl) rfl k
def tX12_waysFrom_0 (G : zG) (d : Nat) (K : Int → zH → Prop) (l1 : Int) (l2 : Int) (l3 : Int) (h : zH) : Prop := zTl G (d + 1) mX12_waysFrom K 0 [some (vr 12 466), some (vi l1), some (vi l2), some (vi l3), none, none, none] [] h
def tX12_waysFrom_6 (G : zG) (d : Nat) (K : Int → zH → Prop) (l1 : Int) (l2 : Int) (l3 : Int) (l4 : Int) (l6 : Int) (h : zH) : Prop := zTl G (d + 1) mX12_waysFrom K 6 [some (vr 12 466), some (vi l1), some (vi l2), some (vi l3), some (vl l4), none, some (vi l6)] [] h
theorem bX12_waysFrom_0 {G : zG} {d : Nat} {K : Int → zH → Prop} {l1 : Int} {l2 : Int} {l3 : Int} {h : zH} (k : tX12_waysFrom_6 G d K l1 l2 l3 0 0 h) : tX12_waysFrom_0 G d K l1 l2 l3 h := by
  unfold tX12_waysFrom_0
  refine z_lconst (x := 0) dX12_waysFrom_0 rfl rfl ?_
  refine z_lstore dX12_waysFrom_1 (Nat.le_of_ble_eq_true rfl) (L' := [some (vr 12 466), some (vi l1), some (vi l2), some (vi l3), some (vl 0), none, none]) rfl rfl ?_
  refine z_iconst dX12_waysFrom_3 rfl ?_
  refine z_istore dX12_waysFrom_4 (Nat.le_of_ble_eq_true rfl) (L' := [some (vr 12 466), some (vi l1), some (vi l2), some (vi l3), some (vl 0), none, some (vi 0)]) rfl rfl ?_
  exact z_sub (L' := [some (vr 12 466), some (vi l1), some (vi l2), some (vi l3), some (vl 0), none, some (vi 0)]) (And.intro rfl (And.intro rfl (And.intro rfl (And.intro rfl (And.intro rfl (And.intro rfl trivial)))))) k
theorem bX12_waysFrom_6 {G : zG} {d : Nat} {K : Int → zH → Prop} {l1 : Int} {l2 : Int} {l3 : Int} {l4 : Int} {l6 : Int} {h : zH} (k : ((0 : Int) ≤ l1 ∧ l1 < 14) ∧ zR l6 ∧ zR (h 496 l1) ∧ ((h 496 l1) ≤ l6 → K l4 h) ∧ (¬ (h 496 l1) ≤ l6 → zCl G d mX12_waysBy [vr 12 466, vi l1, vi l2, vi l3, vi l6] h (fun x1 h2 => tX12_waysFrom_6 G d K l1 l2 l3 (l4 + x1) (l6 + 1) h2))) : tX12_waysFrom_6 G d K l1 l2 l3 l4 l6 h := by
  unfold tX12_waysFrom_6
  refine z_iload dX12_waysFrom_6 rfl rfl ?_
  refine z_aload_n 0 dX12_waysFrom_8 rfl rfl (Nat.le_of_ble_eq_true rfl) rfl ?_
  refine z_getF 12 13 (x := 496) fX12_103 rfl dX12_waysFrom_9 rfl rfl ?_
  refine z_iload_n 1 dX12_waysFrom_12 rfl rfl rfl ?_
  obtain ⟨i9, k⟩ := k
  refine z_iald (x := (h 496 l1)) dX12_waysFrom_13 (by rw [zl_496]; exact i9) rfl rfl ?_
  obtain ⟨r1, r2, ka, kb⟩ := k
  refine z_icmp_ge (tgt := 37) dX12_waysFrom_14 rfl r1 r2 rfl ⟨fun q => ?_, fun q => ?_⟩
  · have k := ka q
    refine z_lload dX12_waysFrom_37 rfl rfl ?_
    exact z_lreturn rfl dX12_waysFrom_39 ⟨_, rfl, k⟩
  · have k := kb q
    refine z_lload dX12_waysFrom_17 rfl rfl ?_
    refine z_aload_n 0 dX12_waysFrom_19 rfl rfl (Nat.le_of_ble_eq_true rfl) rfl ?_
    refine z_iload_n 1 dX12_waysFrom_20 rfl rfl rfl ?_
    refine z_iload_n 2 dX12_waysFrom_21 rfl rfl rfl ?_
    refine z_iload_n 3 dX12_waysFrom_22 rfl rfl rfl ?_
    refine z_iload dX12_waysFrom_23 rfl rfl ?_
    refine z_callVl vX12_waysBy kX12_637 dX12_waysFrom_25 rfl (zRo_d d) (as := [vi l1, vi l2, vi l3, vi l6]) (rest := [vl l4]) (Nat.le_of_ble_eq_true rfl) rfl rfl (zCl_mono (fun x1 h2 k => ?_) k)
    refine z_ladd dX12_waysFrom_28 rfl ?_
    refine z_lstore dX12_waysFrom_29 (Nat.le_of_ble_eq_true rfl) (L' := [some (vr 12 466), some (vi l1), some (vi l2), some (vi l3), some (vl (l4 + x1)), none, some (vi l6)]) rfl rfl ?_
    refine z_iinc dX12_waysFrom_31 rfl (Nat.le_of_ble_eq_true rfl) (L' := [some (vr 12 466), some (vi l1), some (vi l2), some (vi l3), some (vl (l4 + x1)), none, some (vi (l6 + 1))]) rfl rfl ?_
    refine z_goto (tgt := 6) dX12_waysFrom_34 rfl ?_
    exact z_sub (L' := [some (vr 12 466), some (vi l1), some (vi l2), some (vi l3), some (vl (l4 + x1)), none, some (vi (l6 + 1))]) (And.intro rfl (And.intro rfl (And.intro rfl (And.intro rfl (And.intro rfl (And.intro rfl trivial)))))) k
theorem eX12_waysFrom {G : zG} {d : Nat} {K : Int → zH → Prop} {l1 : Int} {l2 : Int} {l3 : Int} {h : zH} (k : tX12_waysFrom_0 G d K l1 l2 l3 h) : zCl G (d + 1) mX12_waysFrom [vr 12 466, vi l1, vi l2, vi l3] h K := z_entry (by decide +kernel) (Nat.le_of_ble_eq_true rfl) rfl k
def tX12_waysBy_0 (G : zG) (d : Nat) (K : Int → zH → Prop) (l1 : Int) (l2 : Int) (l3 : Int) (l4 : Int) (h : zH) : Prop := zTl G (d + 1) mX12_waysBy K 0 [some (vr 12 466), some (vi l1), some (vi l2), some (vi l3), some (vi l4)] [] h
theorem bX12_waysBy_0 {G : zG} {d : Nat} {K : Int → zH → Prop} {l1 : Int} {l2 : Int} {l3 : Int} {l4 : Int} {h : zH} (k : zCi G d mX12_width [vr 12 466, vi l1, vi l4] h (fun x1 h2 => zR x1 ∧ zCi G d mX12_goesTo [vr 12 466, vi 0, vi l3, vi l4] h2 (fun x3 h4 => ((0 : Int) ≤ (((l2 - 1) * 40) + x3) ∧ (((l2 - 1) * 40) + x3) < 160) ∧ K (x1 * (h4 515 (((l2 - 1) * 40) + x3))) h4))) : tX12_waysBy_0 G d K l1 l2 l3 l4 h := by
  unfold tX12_waysBy_0
  refine z_aload_n 0 dX12_waysBy_0 rfl rfl (Nat.le_of_ble_eq_true rfl) rfl ?_
  refine z_iload_n 1 dX12_waysBy_1 rfl rfl rfl ?_
  refine z_iload dX12_waysBy_2 rfl rfl ?_
  refine z_callVi vX12_width kX12_641 dX12_waysBy_4 rfl (zRo_d d) (as := [vi l1, vi l4]) (rest := []) (Nat.le_of_ble_eq_true rfl) rfl rfl (zCi_mono (fun x1 h2 k => ?_) k)
  obtain ⟨r9, k⟩ := k
  refine z_i2l dX12_waysBy_7 r9 rfl ?_
  refine z_aload_n 0 dX12_waysBy_8 rfl rfl (Nat.le_of_ble_eq_true rfl) rfl ?_
  refine z_getF 12 14 (x := 515) fX12_160 rfl dX12_waysBy_9 rfl rfl ?_
  refine z_iload_n 2 dX12_waysBy_12 rfl rfl rfl ?_
  refine z_iconst dX12_waysBy_13 rfl ?_
  refine z_isub dX12_waysBy_14 rfl ?_
  refine z_bipush dX12_waysBy_15 rfl rfl ?_
  refine z_imul dX12_waysBy_17 rfl ?_
  refine z_aload_n 0 dX12_waysBy_18 rfl rfl (Nat.le_of_ble_eq_true rfl) rfl ?_
  refine z_iconst dX12_waysBy_19 rfl ?_
  refine z_iload_n 3 dX12_waysBy_20 rfl rfl rfl ?_
  refine z_iload dX12_waysBy_21 rfl rfl ?_
  refine z_callVi vX12_goesTo kX12_555 dX12_waysBy_23 rfl (zRo_d d) (as := [vi 0, vi l3, vi l4]) (rest := [vi ((l2 - 1) * 40), vr 14 515, vl x1]) (Nat.le_of_ble_eq_true rfl) rfl rfl (zCi_mono (fun x3 h4 k => ?_) k)
  refine z_iadd dX12_waysBy_26 rfl ?_
  obtain ⟨i9, k⟩ := k
  refine z_lald (x := (h4 515 (((l2 - 1) * 40) + x3))) dX12_waysBy_27 (by rw [zl_515]; exact i9) rfl rfl ?_
  refine z_lmul dX12_waysBy_28 rfl ?_
  exact z_lreturn rfl dX12_waysBy_29 ⟨_, rfl, k⟩
theorem eX12_waysBy {G : zG} {d : Nat} {K : Int → zH → Prop} {l1 : Int} {l2 : Int} {l3 : Int} {l4 : Int} {h : zH} (k : tX12_waysBy_0 G d K l1 l2 l3 l4 h) : zCl G (d + 1) mX12_waysBy [vr 12 466, vi l1, vi l2, vi l3, vi l4] h K := z_entry (by decide +kernel) (Nat.le_of_ble_eq_true rfl) rfl k
def tX12_place_0 (G : zG) (d : Nat) (K : Int → zH → Prop) (l1 : Int) (h : zH) : Prop := zTl G (d + 1) mX12_place K 0 [some (vr 12 466), some (vi l1), none, none, none, none, none, none, none] [] h
def tX12_place_48 (G : zG) (d : Nat) (K : Int → zH → Prop) (l1 : Int) (l2 : Int) (l4 : Int) (l5 : Int) (h : zH) : Prop := zTl G (d + 1) mX12_place K 48 [some (vr 12 466), some (vi l1), some (vl l2), none, some (vi l4), some (vi l5), none, none, none] [] h
def tX12_place_83 (G : zG) (d : Nat) (K : Int → zH → Prop) (l1 : Int) (l2 : Int) (l4 : Int) (l5 : Int) (l6 : Int) (l7 : Int) (l8 : Int) (h : zH) : Prop := zTl G (d + 1) mX12_place K 83 [some (vr 12 466), some (vi l1), some (vl l2), none, some (vi l4), some (vi l5), some (vi l6), some (vi l7), some (vi l8)] [] h
theorem bX12_place_0 {G : zG} {d : Nat} {K : Int → zH → Prop} {l1 : Int} {h : zH} (k : zCb G d mX12_isMachine [vr 12 466, vi l1] (zup h 466 0 0) (fun x1 h2 => (x1 = true → zR (h2 466 77) ∧ ((h2 466 77) ≤ 3 → zCv G d mX12_counts [vr 12 466, vi l1] h2 (fun h4 => tX12_place_48 G d K l1 0 0 0 h4)) ∧ (¬ (h2 466 77) ≤ 3 → zCi G d mX12_refused [vr 12 466, vi 5] h2 (fun x5 h6 => zR x5 ∧ K x5 h6))) ∧ (x1 = false → zCi G d mX12_refused [vr 12 466, vi 1] h2 (fun x7 h8 => zR x7 ∧ K x7 h8)))) : tX12_place_0 G d K l1 h := by
  unfold tX12_place_0
  refine z_aload_n 0 dX12_place_0 rfl rfl (Nat.le_of_ble_eq_true rfl) rfl ?_
  refine z_iconst dX12_place_1 rfl ?_
  refine z_putI 12 gX12_190 dX12_place_2 rfl ?_
  refine z_aload_n 0 dX12_place_5 rfl rfl (Nat.le_of_ble_eq_true rfl) rfl ?_
  refine z_iload_n 1 dX12_place_6 rfl rfl rfl ?_
  refine z_callVb vX12_isMachine kX12_561 dX12_place_7 rfl (zRo_d d) (as := [vi l1]) (rest := []) (Nat.le_of_ble_eq_true rfl) rfl rfl (zCb_mono (fun x1 h2 k => ?_) k)
  obtain ⟨ka, kb⟩ := k
  refine z_ifb_ne (tgt := 20) dX12_place_10 rfl rfl ⟨fun q => ?_, fun q => ?_⟩
  · have k := ka q
    refine z_aload_n 0 dX12_place_20 rfl rfl (Nat.le_of_ble_eq_true rfl) rfl ?_
    refine z_getI 12 (x := (h2 466 77)) fX12_626 rfl dX12_place_21 rfl rfl ?_
    refine z_iconst dX12_place_24 rfl ?_
    obtain ⟨r1, ka, kb⟩ := k
    refine z_icmp_le (tgt := 35) dX12_place_25 rfl r1 ⟨by decide, by decide⟩ rfl ⟨fun q => ?_, fun q => ?_⟩
    · have k := ka q
      refine z_aload_n 0 dX12_place_35 rfl rfl (Nat.le_of_ble_eq_true rfl) rfl ?_
      refine z_iload_n 1 dX12_place_36 rfl rfl rfl ?_
      refine z_callVv vX12_counts kX12_644 dX12_place_37 rfl (zRo_d d) (as := [vi l1]) (rest := []) (Nat.le_of_ble_eq_true rfl) rfl rfl (zCv_mono (fun h4 k => ?_) k)
      refine z_lconst (x := 0) dX12_place_40 rfl rfl ?_
      refine z_lstore_n 2 dX12_place_41 rfl (Nat.le_of_ble_eq_true rfl) (L' := [some (vr 12 466), some (vi l1), some (vl 0), none, none, none, none, none, none]) rfl rfl ?_
      refine z_iconst dX12_place_42 rfl ?_
      refine z_istore dX12_place_43 (Nat.le_of_ble_eq_true rfl) (L' := [some (vr 12 466), some (vi l1), some (vl 0), none, some (vi 0), none, none, none, none]) rfl rfl ?_
      refine z_iconst dX12_place_45 rfl ?_
      refine z_istore dX12_place_46 (Nat.le_of_ble_eq_true rfl) (L' := [some (vr 12 466), some (vi l1), some (vl 0), none, some (vi 0), some (vi 0), none, none, none]) rfl rfl ?_
      exact z_sub (L' := [some (vr 12 466), some (vi l1), some (vl 0), none, some (vi 0), some (vi 0), none, none, none]) (And.intro rfl (And.intro rfl (And.intro rfl (And.intro rfl (And.intro rfl trivial))))) k
    · have k := kb q
      refine z_aload_n 0 dX12_place_28 rfl rfl (Nat.le_of_ble_eq_true rfl) rfl ?_
      refine z_iconst dX12_place_29 rfl ?_
      refine z_callVi vX12_refused kX12_426 dX12_place_30 rfl (zRo_d d) (as := [vi 5]) (rest := []) (Nat.le_of_ble_eq_true rfl) rfl rfl (zCi_mono (fun x5 h6 k => ?_) k)
      obtain ⟨r9, k⟩ := k
      refine z_i2l dX12_place_33 r9 rfl ?_
      exact z_lreturn rfl dX12_place_34 ⟨_, rfl, k⟩
  · have k := kb q
    refine z_aload_n 0 dX12_place_13 rfl rfl (Nat.le_of_ble_eq_true rfl) rfl ?_
    refine z_iconst dX12_place_14 rfl ?_
    refine z_callVi vX12_refused kX12_426 dX12_place_15 rfl (zRo_d d) (as := [vi 1]) (rest := []) (Nat.le_of_ble_eq_true rfl) rfl rfl (zCi_mono (fun x7 h8 k => ?_) k)
    obtain ⟨r9, k⟩ := k
    refine z_i2l dX12_place_18 r9 rfl ?_
    exact z_lreturn rfl dX12_place_19 ⟨_, rfl, k⟩
theorem bX12_place_48 {G : zG} {d : Nat} {K : Int → zH → Prop} {l1 : Int} {l2 : Int} {l4 : Int} {l5 : Int} {h : zH} (k : zR l5 ∧ zR (h 466 77) ∧ ((h 466 77) ≤ l5 → zCl G d mX12_goodLong [vr 12 466, vl l2] h (fun x1 h2 => K x1 h2)) ∧ (¬ (h 466 77) ≤ l5 → ((0 : Int) ≤ l5 ∧ l5 < 16) ∧ zCi G d mX12_blockAt [vr 12 466, vi l1, vi (h 514 l5)] h (fun x3 h4 => tX12_place_83 G d K l1 l2 l4 l5 ((h 466 77) - l5) x3 0 h4))) : tX12_place_48 G d K l1 l2 l4 l5 h := by
  unfold tX12_place_48
  refine z_iload dX12_place_48 rfl rfl ?_
  refine z_aload_n 0 dX12_place_50 rfl rfl (Nat.le_of_ble_eq_true rfl) rfl ?_
  refine z_getI 12 (x := (h 466 77)) fX12_626 rfl dX12_place_51 rfl rfl ?_
  obtain ⟨r1, r2, ka, kb⟩ := k
  refine z_icmp_ge (tgt := 168) dX12_place_54 rfl r1 r2 rfl ⟨fun q => ?_, fun q => ?_⟩
  · have k := ka q
    refine z_aload_n 0 dX12_place_168 rfl rfl (Nat.le_of_ble_eq_true rfl) rfl ?_
    refine z_lload_n 2 dX12_place_169 rfl rfl rfl ?_
    refine z_callVl vX12_goodLong kX12_583 dX12_place_170 rfl (zRo_d d) (as := [vl l2]) (rest := []) (Nat.le_of_ble_eq_true rfl) rfl rfl (zCl_mono (fun x1 h2 k => ?_) k)
    exact z_lreturn rfl dX12_place_173 ⟨_, rfl, k⟩
  · have k := kb q
    refine z_aload_n 0 dX12_place_57 rfl rfl (Nat.le_of_ble_eq_true rfl) rfl ?_
    refine z_getI 12 (x := (h 466 77)) fX12_626 rfl dX12_place_58 rfl rfl ?_
    refine z_iload dX12_place_61 rfl rfl ?_
    refine z_isub dX12_place_63 rfl ?_
    refine z_istore dX12_place_64 (Nat.le_of_ble_eq_true rfl) (L' := [some (vr 12 466), some (vi l1), some (vl l2), none, some (vi l4), some (vi l5), some (vi ((h 466 77) - l5)), none, none]) rfl rfl ?_
    refine z_aload_n 0 dX12_place_66 rfl rfl (Nat.le_of_ble_eq_true rfl) rfl ?_
    refine z_iload_n 1 dX12_place_67 rfl rfl rfl ?_
    refine z_aload_n 0 dX12_place_68 rfl rfl (Nat.le_of_ble_eq_true rfl) rfl ?_
    refine z_getF 12 13 (x := 514) fX12_157 rfl dX12_place_69 rfl rfl ?_
    refine z_iload dX12_place_72 rfl rfl ?_
    obtain ⟨i9, k⟩ := k
    refine z_iald (x := (h 514 l5)) dX12_place_74 (by rw [zl_514]; exact i9) rfl rfl ?_
    refine z_callVi vX12_blockAt kX12_524 dX12_place_75 rfl (zRo_d d) (as := [vi l1, vi (h 514 l5)]) (rest := []) (Nat.le_of_ble_eq_true rfl) rfl rfl (zCi_mono (fun x3 h4 k => ?_) k)
    refine z_istore dX12_place_78 (Nat.le_of_ble_eq_true rfl) (L' := [some (vr 12 466), some (vi l1), some (vl l2), none, some (vi l4), some (vi l5), some (vi ((h 466 77) - l5)), some (vi x3), none]) rfl rfl ?_
    refine z_iconst dX12_place_80 rfl ?_
    refine z_istore dX12_place_81 (Nat.le_of_ble_eq_true rfl) (L' := [some (vr 12 466), some (vi l1), some (vl l2), none, some (vi l4), some (vi l5), some (vi ((h 466 77) - l5)), some (vi x3), some (vi 0)]) rfl rfl ?_
    exact z_sub (L' := [some (vr 12 466), some (vi l1), some (vl l2), none, some (vi l4), some (vi l5), some (vi ((h 466 77) - l5)), some (vi x3), some (vi 0)]) (And.intro rfl (And.intro rfl (And.intro rfl (And.intro rfl (And.intro rfl (And.intro rfl (And.intro rfl (And.intro rfl trivial)))))))) k
theorem bX12_place_83 {G : zG} {d : Nat} {K : Int → zH → Prop} {l1 : Int} {l2 : Int} {l4 : Int} {l5 : Int} {l6 : Int} {l7 : Int} {l8 : Int} {h : zH} (k : zR l8 ∧ zR l7 ∧ (l7 ≤ l8 → zCi G d mX12_goesTo [vr 12 466, vi 0, vi l4, vi l7] h (fun x1 h2 => ((0 : Int) ≤ l5 ∧ l5 < 16) ∧ ((0 : Int) ≤ ((l1 * 128) + l7) ∧ ((l1 * 128) + l7) < 1792) ∧ zR ((h2 514 l5) - (h2 497 ((l1 * 128) + l7))) ∧ ((0 : Int) ≤ (((l6 - 1) * 40) + x1) ∧ (((l6 - 1) * 40) + x1) < 160) ∧ tX12_place_48 G d K l1 (l2 + (((h2 514 l5) - (h2 497 ((l1 * 128) + l7))) * (h2 515 (((l6 - 1) * 40) + x1)))) x1 (l5 + 1) h2)) ∧ (¬ l7 ≤ l8 → zCl G d mX12_waysBy [vr 12 466, vi l1, vi l6, vi l4, vi l8] h (fun x3 h4 => tX12_place_83 G d K l1 (l2 + x3) l4 l5 l6 l7 (l8 + 1) h4))) : tX12_place_83 G d K l1 l2 l4 l5 l6 l7 l8 h := by
  unfold tX12_place_83
  refine z_iload dX12_place_83 rfl rfl ?_
  refine z_iload dX12_place_85 rfl rfl ?_
  obtain ⟨r1, r2, ka, kb⟩ := k
  refine z_icmp_ge (tgt := 110) dX12_place_87 rfl r1 r2 rfl ⟨fun q => ?_, fun q => ?_⟩
  · have k := ka q
    refine z_aload_n 0 dX12_place_110 rfl rfl (Nat.le_of_ble_eq_true rfl) rfl ?_
    refine z_iconst dX12_place_111 rfl ?_
    refine z_iload dX12_place_112 rfl rfl ?_
    refine z_iload dX12_place_114 rfl rfl ?_
    refine z_callVi vX12_goesTo kX12_555 dX12_place_116 rfl (zRo_d d) (as := [vi 0, vi l4, vi l7]) (rest := []) (Nat.le_of_ble_eq_true rfl) rfl rfl (zCi_mono (fun x1 h2 k => ?_) k)
    refine z_istore dX12_place_119 (Nat.le_of_ble_eq_true rfl) (L' := [some (vr 12 466), some (vi l1), some (vl l2), none, some (vi x1), some (vi l5), some (vi l6), some (vi l7), some (vi l8)]) rfl rfl ?_
    refine z_lload_n 2 dX12_place_121 rfl rfl rfl ?_
    refine z_aload_n 0 dX12_place_122 rfl rfl (Nat.le_of_ble_eq_true rfl) rfl ?_
    refine z_getF 12 13 (x := 514) fX12_157 rfl dX12_place_123 rfl rfl ?_
    refine z_iload dX12_place_126 rfl rfl ?_
    obtain ⟨i9, k⟩ := k
    refine z_iald (x := (h2 514 l5)) dX12_place_128 (by rw [zl_514]; exact i9) rfl rfl ?_
    refine z_aload_n 0 dX12_place_129 rfl rfl (Nat.le_of_ble_eq_true rfl) rfl ?_
    refine z_getF 12 13 (x := 497) fX12_106 rfl dX12_place_130 rfl rfl ?_
    refine z_iload_n 1 dX12_place_133 rfl rfl rfl ?_
    refine z_sipush dX12_place_134 rfl rfl ?_
    refine z_imul dX12_place_137 rfl ?_
    refine z_iload dX12_place_138 rfl rfl ?_
    refine z_iadd dX12_place_140 rfl ?_
    obtain ⟨i9, k⟩ := k
    refine z_iald (x := (h2 497 ((l1 * 128) + l7))) dX12_place_141 (by rw [zl_497]; exact i9) rfl rfl ?_
    refine z_isub dX12_place_142 rfl ?_
    obtain ⟨r9, k⟩ := k
    refine z_i2l dX12_place_143 r9 rfl ?_
    refine z_aload_n 0 dX12_place_144 rfl rfl (Nat.le_of_ble_eq_true rfl) rfl ?_
    refine z_getF 12 14 (x := 515) fX12_160 rfl dX12_place_145 rfl rfl ?_
    refine z_iload dX12_place_148 rfl rfl ?_
    refine z_iconst dX12_place_150 rfl ?_
    refine z_isub dX12_place_151 rfl ?_
    refine z_bipush dX12_place_152 rfl rfl ?_
    refine z_imul dX12_place_154 rfl ?_
    refine z_iload dX12_place_155 rfl rfl ?_
    refine z_iadd dX12_place_157 rfl ?_
    obtain ⟨i9, k⟩ := k
    refine z_lald (x := (h2 515 (((l6 - 1) * 40) + x1))) dX12_place_158 (by rw [zl_515]; exact i9) rfl rfl ?_
    refine z_lmul dX12_place_159 rfl ?_
    refine z_ladd dX12_place_160 rfl ?_
    refine z_lstore_n 2 dX12_place_161 rfl (Nat.le_of_ble_eq_true rfl) (L' := [some (vr 12 466), some (vi l1), some (vl (l2 + (((h2 514 l5) - (h2 497 ((l1 * 128) + l7))) * (h2 515 (((l6 - 1) * 40) + x1))))), none, some (vi x1), some (vi l5), some (vi l6), some (vi l7), some (vi l8)]) rfl rfl ?_
    refine z_iinc dX12_place_162 rfl (Nat.le_of_ble_eq_true rfl) (L' := [some (vr 12 466), some (vi l1), some (vl (l2 + (((h2 514 l5) - (h2 497 ((l1 * 128) + l7))) * (h2 515 (((l6 - 1) * 40) + x1))))), none, some (vi x1), some (vi (l5 + 1)), some (vi l6), some (vi l7), some (vi l8)]) rfl rfl ?_
    refine z_goto (tgt := 48) dX12_place_165 rfl ?_
    exact z_sub (L' := [some (vr 12 466), some (vi l1), some (vl (l2 + (((h2 514 l5) - (h2 497 ((l1 * 128) + l7))) * (h2 515 (((l6 - 1) * 40) + x1))))), none, some (vi x1), some (vi (l5 + 1)), none, none, none]) (And.intro rfl (And.intro rfl (And.intro rfl (And.intro rfl (And.intro rfl trivial))))) k
  · have k := kb q
    refine z_lload_n 2 dX12_place_90 rfl rfl rfl ?_
    refine z_aload_n 0 dX12_place_91 rfl rfl (Nat.le_of_ble_eq_true rfl) rfl ?_
    refine z_iload_n 1 dX12_place_92 rfl rfl rfl ?_
    refine z_iload dX12_place_93 rfl rfl ?_
    refine z_iload dX12_place_95 rfl rfl ?_
    refine z_iload dX12_place_97 rfl rfl ?_
    refine z_callVl vX12_waysBy kX12_637 dX12_place_99 rfl (zRo_d d) (as := [vi l1, vi l6, vi l4, vi l8]) (rest := [vl l2]) (Nat.le_of_ble_eq_true rfl) rfl rfl (zCl_mono (fun x3 h4 k => ?_) k)
    refine z_ladd dX12_place_102 rfl ?_
    refine z_lstore_n 2 dX12_place_103 rfl (Nat.le_of_ble_eq_true rfl) (L' := [some (vr 12 466), some (vi l1), some (vl (l2 + x3)), none, some (vi l4), some (vi l5), some (vi l6), some (vi l7), some (vi l8)]) rfl rfl ?_
    refine z_iinc dX12_place_104 rfl (Nat.le_of_ble_eq_true rfl) (L' := [some (vr 12 466), some (vi l1), some (vl (l2 + x3)), none, some (vi l4), some (vi l5), some (vi l6), some (vi l7), some (vi (l8 + 1))]) rfl rfl ?_
    refine z_goto (tgt := 83) dX12_place_107 rfl ?_
    exact z_sub (L' := [some (vr 12 466), some (vi l1), some (vl (l2 + x3)), none, some (vi l4), some (vi l5), some (vi l6), some (vi l7), some (vi (l8 + 1))]) (And.intro rfl (And.intro rfl (And.intro rfl (And.intro rfl (And.intro rfl (And.intro rfl (And.intro rfl (And.intro rfl trivial)))))))) k
theorem eX12_place {G : zG} {d : Nat} {K : Int → zH → Prop} {l1 : Int} {h : zH} (k : tX12_place_0 G d K l1 h) : zCl G (d + 1) mX12_place [vr 12 466, vi l1] h K := z_entry (by decide +kernel) (Nat.le_of_ble_eq_true rfl) rfl k
def tX12_count_0 (G : zG) (d : Nat) (K : Int → zH → Prop) (l1 : Int) (l2 : Int) (h : zH) : Prop := zTl G (d + 1) mX12_count K 0 [some (vr 12 466), some (vi l1), some (vi l2)] [] h
theorem bX12_count_0 {G : zG} {d : Nat} {K : Int → zH → Prop} {l1 : Int} {l2 : Int} {h : zH} (k : zCb G d mX12_isMachine [vr 12 466, vi l1] (zup h 466 0 0) (fun x1 h2 => (x1 = true → zCb G d mX12_in [vi l2, vi 0, vi 3] h2 (fun x3 h4 => (x3 = true → zCv G d mX12_counts [vr 12 466, vi l1] h4 (fun h6 => ((0 : Int) ≤ (l2 * 40) ∧ (l2 * 40) < 160) ∧ zCl G d mX12_goodLong [vr 12 466, vl (h6 515 (l2 * 40))] h6 (fun x7 h8 => K x7 h8))) ∧ (x3 = false → zCi G d mX12_refused [vr 12 466, vi 2] h4 (fun x9 h10 => zR x9 ∧ K x9 h10)))) ∧ (x1 = false → zCi G d mX12_refused [vr 12 466, vi 1] h2 (fun x11 h12 => zR x11 ∧ K x11 h12)))) : tX12_count_0 G d K l1 l2 h := by
  unfold tX12_count_0
  refine z_aload_n 0 dX12_count_0 rfl rfl (Nat.le_of_ble_eq_true rfl) rfl ?_
  refine z_iconst dX12_count_1 rfl ?_
  refine z_putI 12 gX12_190 dX12_count_2 rfl ?_
  refine z_aload_n 0 dX12_count_5 rfl rfl (Nat.le_of_ble_eq_true rfl) rfl ?_
  refine z_iload_n 1 dX12_count_6 rfl rfl rfl ?_
  refine z_callVb vX12_isMachine kX12_561 dX12_count_7 rfl (zRo_d d) (as := [vi l1]) (rest := []) (Nat.le_of_ble_eq_true rfl) rfl rfl (zCb_mono (fun x1 h2 k => ?_) k)
  obtain ⟨ka, kb⟩ := k
  refine z_ifb_ne (tgt := 20) dX12_count_10 rfl rfl ⟨fun q => ?_, fun q => ?_⟩
  · have k := ka q
    refine z_iload_n 2 dX12_count_20 rfl rfl rfl ?_
    refine z_iconst dX12_count_21 rfl ?_
    refine z_iconst dX12_count_22 rfl ?_
    refine z_callSb sX12_in kX12_201 dX12_count_23 rfl (zRo_d d) (as := [vi l2, vi 0, vi 3]) (rest := []) (Nat.le_of_ble_eq_true rfl) rfl rfl (zCb_mono (fun x3 h4 k => ?_) k)
    obtain ⟨ka, kb⟩ := k
    refine z_ifb_ne (tgt := 36) dX12_count_26 rfl rfl ⟨fun q => ?_, fun q => ?_⟩
    · have k := ka q
      refine z_aload_n 0 dX12_count_36 rfl rfl (Nat.le_of_ble_eq_true rfl) rfl ?_
      refine z_iload_n 1 dX12_count_37 rfl rfl rfl ?_
      refine z_callVv vX12_counts kX12_644 dX12_count_38 rfl (zRo_d d) (as := [vi l1]) (rest := []) (Nat.le_of_ble_eq_true rfl) rfl rfl (zCv_mono (fun h6 k => ?_) k)
      refine z_aload_n 0 dX12_count_41 rfl rfl (Nat.le_of_ble_eq_true rfl) rfl ?_
      refine z_aload_n 0 dX12_count_42 rfl rfl (Nat.le_of_ble_eq_true rfl) rfl ?_
      refine z_getF 12 14 (x := 515) fX12_160 rfl dX12_count_43 rfl rfl ?_
      refine z_iload_n 2 dX12_count_46 rfl rfl rfl ?_
      refine z_bipush dX12_count_47 rfl rfl ?_
      refine z_imul dX12_count_49 rfl ?_
      obtain ⟨i9, k⟩ := k
      refine z_lald (x := (h6 515 (l2 * 40))) dX12_count_50 (by rw [zl_515]; exact i9) rfl rfl ?_
      refine z_callVl vX12_goodLong kX12_583 dX12_count_51 rfl (zRo_d d) (as := [vl (h6 515 (l2 * 40))]) (rest := []) (Nat.le_of_ble_eq_true rfl) rfl rfl (zCl_mono (fun x7 h8 k => ?_) k)
      exact z_lreturn rfl dX12_count_54 ⟨_, rfl, k⟩
    · have k := kb q
      refine z_aload_n 0 dX12_count_29 rfl rfl (Nat.le_of_ble_eq_true rfl) rfl ?_
      refine z_iconst dX12_count_30 rfl ?_
      refine z_callVi vX12_refused kX12_426 dX12_count_31 rfl (zRo_d d) (as := [vi 2]) (rest := []) (Nat.le_of_ble_eq_true rfl) rfl rfl (zCi_mono (fun x9 h10 k => ?_) k)
      obtain ⟨r9, k⟩ := k
      refine z_i2l dX12_count_34 r9 rfl ?_
      exact z_lreturn rfl dX12_count_35 ⟨_, rfl, k⟩
  · have k := kb q
    refine z_aload_n 0 dX12_count_13 rfl rfl (Nat.le_of_ble_eq_true rfl) rfl ?_
    refine z_iconst dX12_count_14 rfl ?_
    refine z_callVi vX12_refused kX12_426 dX12_count_15 rfl (zRo_d d) (as := [vi 1]) (rest := []) (Nat.le_of_ble_eq_true rfl) rfl rfl (zCi_mono (fun x11 h12 k => ?_) k)
    obtain ⟨r9, k⟩ := k
    refine z_i2l dX12_count_18 r9 rfl ?_
    exact z_lreturn rfl dX12_count_19 ⟨_, rfl, k⟩
theorem eX12_count {G : zG} {d : Nat} {K : Int → zH → Prop} {l1 : Int} {l2 : Int} {h : zH} (k : tX12_count_0 G d K l1 l2 h) : zCl G (d + 1) mX12_count [vr 12 466, vi l1, vi l2] h K := z_entry (by decide +kernel) (Nat.le_of_ble_eq_true rfl) rfl k
def tX12_at_0 (G : zG) (d : Nat) (K : Int → zH → Prop) (l1 : Int) (l2 : Int) (l3 : Int) (l5 : Int) (h : zH) : Prop := zTi G (d + 1) mX12_at K 0 [some (vr 12 466), some (vi l1), some (vi l2), some (vl l3), none, some (vi l5), none, none, none, none, none, none, none, none] [] h
def tX12_at_88 (G : zG) (d : Nat) (K : Int → zH → Prop) (l1 : Int) (l2 : Int) (l5 : Int) (l6 : Int) (l8 : Int) (l9 : Int) (l10 : Int) (h : zH) : Prop := zTi G (d + 1) mX12_at K 88 [some (vr 12 466), some (vi l1), some (vi l2), none, none, some (vi l5), some (vl l6), none, some (vi l8), some (vi l9), some (vi l10), none, none, none] [] h
def tX12_at_98 (G : zG) (d : Nat) (K : Int → zH → Prop) (l1 : Int) (l2 : Int) (l5 : Int) (l6 : Int) (l8 : Int) (l10 : Int) (l11 : Int) (h : zH) : Prop := zTi G (d + 1) mX12_at K 98 [some (vr 12 466), some (vi l1), some (vi l2), none, none, some (vi l5), some (vl l6), none, some (vi l8), none, some (vi l10), some (vi l11), none, none] [] h
theorem bX12_at_0 {G : zG} {d : Nat} {K : Int → zH → Prop} {l1 : Int} {l2 : Int} {l3 : Int} {l5 : Int} {h : zH} (k : zCb G d mX12_isMachine [vr 12 466, vi l1] (zup h 466 0 0) (fun x1 h2 => (x1 = true → zCb G d mX12_in [vi l2, vi 1, vi 3] h2 (fun x3 h4 => (x3 = true → zCv G d mX12_counts [vr 12 466, vi l1] h4 (fun h6 => ((zcmp l3 0) < 0 → zCi G d mX12_refused [vr 12 466, vi 1] h6 (fun x7 h8 => K x7 h8)) ∧ (¬ (zcmp l3 0) < 0 → ((0 : Int) ≤ (l2 * 40) ∧ (l2 * 40) < 160) ∧ (0 ≤ (zcmp l3 (h6 515 (l2 * 40))) → zCi G d mX12_refused [vr 12 466, vi 1] h6 (fun x9 h10 => K x9 h10)) ∧ (¬ 0 ≤ (zcmp l3 (h6 515 (l2 * 40))) → zR l5 ∧ (l5 < 0 → zCi G d mX12_refused [vr 12 466, vi 1] h6 (fun x11 h12 => K x11 h12)) ∧ (¬ l5 < 0 → zR l5 ∧ zR l2 ∧ (l5 < l2 → tX12_at_88 G d K l1 l2 l5 l3 0 (-1) 0 h6) ∧ (¬ l5 < l2 → zCi G d mX12_refused [vr 12 466, vi 1] h6 (fun x13 h14 => K x13 h14))))))) ∧ (x3 = false → zCi G d mX12_refused [vr 12 466, vi 2] h4 (fun x15 h16 => K x15 h16)))) ∧ (x1 = false → zCi G d mX12_refused [vr 12 466, vi 1] h2 (fun x17 h18 => K x17 h18)))) : tX12_at_0 G d K l1 l2 l3 l5 h := by
  unfold tX12_at_0
  refine z_aload_n 0 dX12_at_0 rfl rfl (Nat.le_of_ble_eq_true rfl) rfl ?_
  refine z_iconst dX12_at_1 rfl ?_
  refine z_putI 12 gX12_190 dX12_at_2 rfl ?_
  refine z_aload_n 0 dX12_at_5 rfl rfl (Nat.le_of_ble_eq_true rfl) rfl ?_
  refine z_iload_n 1 dX12_at_6 rfl rfl rfl ?_
  refine z_callVb vX12_isMachine kX12_561 dX12_at_7 rfl (zRo_d d) (as := [vi l1]) (rest := []) (Nat.le_of_ble_eq_true rfl) rfl rfl (zCb_mono (fun x1 h2 k => ?_) k)
  obtain ⟨ka, kb⟩ := k
  refine z_ifb_ne (tgt := 19) dX12_at_10 rfl rfl ⟨fun q => ?_, fun q => ?_⟩
  · have k := ka q
    refine z_iload_n 2 dX12_at_19 rfl rfl rfl ?_
    refine z_iconst dX12_at_20 rfl ?_
    refine z_iconst dX12_at_21 rfl ?_
    refine z_callSb sX12_in kX12_201 dX12_at_22 rfl (zRo_d d) (as := [vi l2, vi 1, vi 3]) (rest := []) (Nat.le_of_ble_eq_true rfl) rfl rfl (zCb_mono (fun x3 h4 k => ?_) k)
    obtain ⟨ka, kb⟩ := k
    refine z_ifb_ne (tgt := 34) dX12_at_25 rfl rfl ⟨fun q => ?_, fun q => ?_⟩
    · have k := ka q
      refine z_aload_n 0 dX12_at_34 rfl rfl (Nat.le_of_ble_eq_true rfl) rfl ?_
      refine z_iload_n 1 dX12_at_35 rfl rfl rfl ?_
      refine z_callVv vX12_counts kX12_644 dX12_at_36 rfl (zRo_d d) (as := [vi l1]) (rest := []) (Nat.le_of_ble_eq_true rfl) rfl rfl (zCv_mono (fun h6 k => ?_) k)
      refine z_lload_n 3 dX12_at_39 rfl rfl rfl ?_
      refine z_lconst (x := 0) dX12_at_40 rfl rfl ?_
      refine z_lcmp dX12_at_41 rfl ?_
      obtain ⟨ka, kb⟩ := k
      refine z_if_lt (tgt := 70) dX12_at_42 rfl (zcmp_R _ _) rfl ⟨fun q => ?_, fun q => ?_⟩
      · have k := ka q
        refine z_aload_n 0 dX12_at_70 rfl rfl (Nat.le_of_ble_eq_true rfl) rfl ?_
        refine z_iconst dX12_at_71 rfl ?_
        refine z_callVi vX12_refused kX12_426 dX12_at_72 rfl (zRo_d d) (as := [vi 1]) (rest := []) (Nat.le_of_ble_eq_true rfl) rfl rfl (zCi_mono (fun x7 h8 k => ?_) k)
        exact z_ireturn rfl dX12_at_75 ⟨_, rfl, k⟩
      · have k := kb q
        refine z_lload_n 3 dX12_at_45 rfl rfl rfl ?_
        refine z_aload_n 0 dX12_at_46 rfl rfl (Nat.le_of_ble_eq_true rfl) rfl ?_
        refine z_getF 12 14 (x := 515) fX12_160 rfl dX12_at_47 rfl rfl ?_
        refine z_iload_n 2 dX12_at_50 rfl rfl rfl ?_
        refine z_bipush dX12_at_51 rfl rfl ?_
        refine z_imul dX12_at_53 rfl ?_
        obtain ⟨i9, k⟩ := k
        refine z_lald (x := (h6 515 (l2 * 40))) dX12_at_54 (by rw [zl_515]; exact i9) rfl rfl ?_
        refine z_lcmp dX12_at_55 rfl ?_
        obtain ⟨ka, kb⟩ := k
        refine z_if_ge (tgt := 70) dX12_at_56 rfl (zcmp_R _ _) rfl ⟨fun q => ?_, fun q => ?_⟩
        · have k := ka q
          refine z_aload_n 0 dX12_at_70 rfl rfl (Nat.le_of_ble_eq_true rfl) rfl ?_
          refine z_iconst dX12_at_71 rfl ?_
          refine z_callVi vX12_refused kX12_426 dX12_at_72 rfl (zRo_d d) (as := [vi 1]) (rest := []) (Nat.le_of_ble_eq_true rfl) rfl rfl (zCi_mono (fun x9 h10 k => ?_) k)
          exact z_ireturn rfl dX12_at_75 ⟨_, rfl, k⟩
        · have k := kb q
          refine z_iload dX12_at_59 rfl rfl ?_
          obtain ⟨r1, ka, kb⟩ := k
          refine z_if_lt (tgt := 70) dX12_at_61 rfl r1 rfl ⟨fun q => ?_, fun q => ?_⟩
          · have k := ka q
            refine z_aload_n 0 dX12_at_70 rfl rfl (Nat.le_of_ble_eq_true rfl) rfl ?_
            refine z_iconst dX12_at_71 rfl ?_
            refine z_callVi vX12_refused kX12_426 dX12_at_72 rfl (zRo_d d) (as := [vi 1]) (rest := []) (Nat.le_of_ble_eq_true rfl) rfl rfl (zCi_mono (fun x11 h12 k => ?_) k)
            exact z_ireturn rfl dX12_at_75 ⟨_, rfl, k⟩
          · have k := kb q
            refine z_iload dX12_at_64 rfl rfl ?_
            refine z_iload_n 2 dX12_at_66 rfl rfl rfl ?_
            obtain ⟨r1, r2, ka, kb⟩ := k
            refine z_icmp_lt (tgt := 76) dX12_at_67 rfl r1 r2 rfl ⟨fun q => ?_, fun q => ?_⟩
            · have k := ka q
              refine z_lload_n 3 dX12_at_76 rfl rfl rfl ?_
              refine z_lstore dX12_at_77 (Nat.le_of_ble_eq_true rfl) (L' := [some (vr 12 466), some (vi l1), some (vi l2), some (vl l3), none, some (vi l5), some (vl l3), none, none, none, none, none, none, none]) rfl rfl ?_
              refine z_iconst dX12_at_79 rfl ?_
              refine z_istore dX12_at_80 (Nat.le_of_ble_eq_true rfl) (L' := [some (vr 12 466), some (vi l1), some (vi l2), some (vl l3), none, some (vi l5), some (vl l3), none, some (vi 0), none, none, none, none, none]) rfl rfl ?_
              refine z_iconst dX12_at_82 rfl ?_
              refine z_istore dX12_at_83 (Nat.le_of_ble_eq_true rfl) (L' := [some (vr 12 466), some (vi l1), some (vi l2), some (vl l3), none, some (vi l5), some (vl l3), none, some (vi 0), some (vi (-1)), none, none, none, none]) rfl rfl ?_
              refine z_iconst dX12_at_85 rfl ?_
              refine z_istore dX12_at_86 (Nat.le_of_ble_eq_true rfl) (L' := [some (vr 12 466), some (vi l1), some (vi l2), some (vl l3), none, some (vi l5), some (vl l3), none, some (vi 0), some (vi (-1)), some (vi 0), none, none, none]) rfl rfl ?_
              exact z_sub (L' := [some (vr 12 466), some (vi l1), some (vi l2), none, none, some (vi l5), some (vl l3), none, some (vi 0), some (vi (-1)), some (vi 0), none, none, none]) (And.intro rfl (And.intro rfl (And.intro rfl (And.intro rfl (And.intro rfl (And.intro rfl (And.intro rfl (And.intro rfl trivial)))))))) k
            · have k := kb q
              refine z_aload_n 0 dX12_at_70 rfl rfl (Nat.le_of_ble_eq_true rfl) rfl ?_
              refine z_iconst dX12_at_71 rfl ?_
              refine z_callVi vX12_refused kX12_426 dX12_at_72 rfl (zRo_d d) (as := [vi 1]) (rest := []) (Nat.le_of_ble_eq_true rfl) rfl rfl (zCi_mono (fun x13 h14 k => ?_) k)
              exact z_ireturn rfl dX12_at_75 ⟨_, rfl, k⟩
    · have k := kb q
      refine z_aload_n 0 dX12_at_28 rfl rfl (Nat.le_of_ble_eq_true rfl) rfl ?_
      refine z_iconst dX12_at_29 rfl ?_
      refine z_callVi vX12_refused kX12_426 dX12_at_30 rfl (zRo_d d) (as := [vi 2]) (rest := []) (Nat.le_of_ble_eq_true rfl) rfl rfl (zCi_mono (fun x15 h16 k => ?_) k)
      exact z_ireturn rfl dX12_at_33 ⟨_, rfl, k⟩
  · have k := kb q
    refine z_aload_n 0 dX12_at_13 rfl rfl (Nat.le_of_ble_eq_true rfl) rfl ?_
    refine z_iconst dX12_at_14 rfl ?_
    refine z_callVi vX12_refused kX12_426 dX12_at_15 rfl (zRo_d d) (as := [vi 1]) (rest := []) (Nat.le_of_ble_eq_true rfl) rfl rfl (zCi_mono (fun x17 h18 k => ?_) k)
    exact z_ireturn rfl dX12_at_18 ⟨_, rfl, k⟩
theorem bX12_at_88 {G : zG} {d : Nat} {K : Int → zH → Prop} {l1 : Int} {l2 : Int} {l5 : Int} {l6 : Int} {l8 : Int} {l9 : Int} {l10 : Int} {h : zH} (k : zR l10 ∧ zR l5 ∧ (l5 < l10 → zCi G d mX12_good [vr 12 466, vi l9] h (fun x1 h2 => K x1 h2)) ∧ (¬ l5 < l10 → tX12_at_98 G d K l1 l2 l5 l6 l8 l10 0 h)) : tX12_at_88 G d K l1 l2 l5 l6 l8 l9 l10 h := by
  unfold tX12_at_88
  refine z_iload dX12_at_88 rfl rfl ?_
  refine z_iload dX12_at_90 rfl rfl ?_
  obtain ⟨r1, r2, ka, kb⟩ := k
  refine z_icmp_gt (tgt := 206) dX12_at_92 rfl r1 r2 rfl ⟨fun q => ?_, fun q => ?_⟩
  · have k := ka q
    refine z_aload_n 0 dX12_at_206 rfl rfl (Nat.le_of_ble_eq_true rfl) rfl ?_
    refine z_iload dX12_at_207 rfl rfl ?_
    refine z_callVi vX12_good kX12_196 dX12_at_209 rfl (zRo_d d) (as := [vi l9]) (rest := []) (Nat.le_of_ble_eq_true rfl) rfl rfl (zCi_mono (fun x1 h2 k => ?_) k)
    exact z_ireturn rfl dX12_at_212 ⟨_, rfl, k⟩
  · have k := kb q
    refine z_iconst dX12_at_95 rfl ?_
    refine z_istore dX12_at_96 (Nat.le_of_ble_eq_true rfl) (L' := [some (vr 12 466), some (vi l1), some (vi l2), none, none, some (vi l5), some (vl l6), none, some (vi l8), some (vi l9), some (vi l10), some (vi 0), none, none]) rfl rfl ?_
    exact z_sub (L' := [some (vr 12 466), some (vi l1), some (vi l2), none, none, some (vi l5), some (vl l6), none, some (vi l8), none, some (vi l10), some (vi 0), none, none]) (And.intro rfl (And.intro rfl (And.intro rfl (And.intro rfl (And.intro rfl (And.intro rfl (And.intro rfl (And.intro rfl trivial)))))))) k
theorem bX12_at_98 {G : zG} {d : Nat} {K : Int → zH → Prop} {l1 : Int} {l2 : Int} {l5 : Int} {l6 : Int} {l8 : Int} {l10 : Int} {l11 : Int} {h : zH} (k : zCl G d mX12_waysBy [vr 12 466, vi l1, vi (l2 - l10), vi l8, vi l11] h (fun x1 h2 => ((zcmp l6 x1) < 0 → zCi G d mX12_goesTo [vr 12 466, vi 0, vi l8, vi l11] h2 (fun x3 h4 => ((0 : Int) ≤ ((((l2 - l10) - 1) * 40) + x3) ∧ ((((l2 - l10) - 1) * 40) + x3) < 160) ∧ ((0 : Int) ≤ ((l1 * 128) + l11) ∧ ((l1 * 128) + l11) < 1792) ∧ (0 ≤ l6 ∧ l6 < 9223372036854775808 ∧ 0 < (h4 515 ((((l2 - l10) - 1) * 40) + x3)) ∧ (h4 515 ((((l2 - l10) - 1) * 40) + x3)) < 9223372036854775808) ∧ zRL (l6 / (h4 515 ((((l2 - l10) - 1) * 40) + x3))) ∧ (0 ≤ l6 ∧ l6 < 9223372036854775808 ∧ 0 < (h4 515 ((((l2 - l10) - 1) * 40) + x3)) ∧ (h4 515 ((((l2 - l10) - 1) * 40) + x3)) < 9223372036854775808) ∧ tX12_at_88 G d K l1 l2 l5 (l6 % (h4 515 ((((l2 - l10) - 1) * 40) + x3))) x3 ((h4 497 ((l1 * 128) + l11)) + (l6 / (h4 515 ((((l2 - l10) - 1) * 40) + x3)))) (l10 + 1) h4)) ∧ (¬ (zcmp l6 x1) < 0 → zCl G d mX12_waysBy [vr 12 466, vi l1, vi (l2 - l10), vi l8, vi l11] h2 (fun x5 h6 => tX12_at_98 G d K l1 l2 l5 (l6 - x5) l8 l10 (l11 + 1) h6)))) : tX12_at_98 G d K l1 l2 l5 l6 l8 l10 l11 h := by
  unfold tX12_at_98
  refine z_lload dX12_at_98 rfl rfl ?_
  refine z_aload_n 0 dX12_at_100 rfl rfl (Nat.le_of_ble_eq_true rfl) rfl ?_
  refine z_iload_n 1 dX12_at_101 rfl rfl rfl ?_
  refine z_iload_n 2 dX12_at_102 rfl rfl rfl ?_
  refine z_iload dX12_at_103 rfl rfl ?_
  refine z_isub dX12_at_105 rfl ?_
  refine z_iload dX12_at_106 rfl rfl ?_
  refine z_iload dX12_at_108 rfl rfl ?_
  refine z_callVl vX12_waysBy kX12_637 dX12_at_110 rfl (zRo_d d) (as := [vi l1, vi (l2 - l10), vi l8, vi l11]) (rest := [vl l6]) (Nat.le_of_ble_eq_true rfl) rfl rfl (zCl_mono (fun x1 h2 k => ?_) k)
  refine z_lcmp dX12_at_113 rfl ?_
  obtain ⟨ka, kb⟩ := k
  refine z_if_lt (tgt := 141) dX12_at_114 rfl (zcmp_R _ _) rfl ⟨fun q => ?_, fun q => ?_⟩
  · have k := ka q
    refine z_aload_n 0 dX12_at_141 rfl rfl (Nat.le_of_ble_eq_true rfl) rfl ?_
    refine z_iconst dX12_at_142 rfl ?_
    refine z_iload dX12_at_143 rfl rfl ?_
    refine z_iload dX12_at_145 rfl rfl ?_
    refine z_callVi vX12_goesTo kX12_555 dX12_at_147 rfl (zRo_d d) (as := [vi 0, vi l8, vi l11]) (rest := []) (Nat.le_of_ble_eq_true rfl) rfl rfl (zCi_mono (fun x3 h4 k => ?_) k)
    refine z_istore dX12_at_150 (Nat.le_of_ble_eq_true rfl) (L' := [some (vr 12 466), some (vi l1), some (vi l2), none, none, some (vi l5), some (vl l6), none, some (vi x3), none, some (vi l10), some (vi l11), none, none]) rfl rfl ?_
    refine z_aload_n 0 dX12_at_152 rfl rfl (Nat.le_of_ble_eq_true rfl) rfl ?_
    refine z_getF 12 14 (x := 515) fX12_160 rfl dX12_at_153 rfl rfl ?_
    refine z_iload_n 2 dX12_at_156 rfl rfl rfl ?_
    refine z_iload dX12_at_157 rfl rfl ?_
    refine z_isub dX12_at_159 rfl ?_
    refine z_iconst dX12_at_160 rfl ?_
    refine z_isub dX12_at_161 rfl ?_
    refine z_bipush dX12_at_162 rfl rfl ?_
    refine z_imul dX12_at_164 rfl ?_
    refine z_iload dX12_at_165 rfl rfl ?_
    refine z_iadd dX12_at_167 rfl ?_
    obtain ⟨i9, k⟩ := k
    refine z_lald (x := (h4 515 ((((l2 - l10) - 1) * 40) + x3))) dX12_at_168 (by rw [zl_515]; exact i9) rfl rfl ?_
    refine z_lstore dX12_at_169 (Nat.le_of_ble_eq_true rfl) (L' := [some (vr 12 466), some (vi l1), some (vi l2), none, none, some (vi l5), some (vl l6), none, some (vi x3), none, some (vi l10), some (vi l11), some (vl (h4 515 ((((l2 - l10) - 1) * 40) + x3))), none]) rfl rfl ?_
    refine z_aload_n 0 dX12_at_171 rfl rfl (Nat.le_of_ble_eq_true rfl) rfl ?_
    refine z_getF 12 13 (x := 497) fX12_106 rfl dX12_at_172 rfl rfl ?_
    refine z_iload_n 1 dX12_at_175 rfl rfl rfl ?_
    refine z_sipush dX12_at_176 rfl rfl ?_
    refine z_imul dX12_at_179 rfl ?_
    refine z_iload dX12_at_180 rfl rfl ?_
    refine z_iadd dX12_at_182 rfl ?_
    obtain ⟨i9, k⟩ := k
    refine z_iald (x := (h4 497 ((l1 * 128) + l11))) dX12_at_183 (by rw [zl_497]; exact i9) rfl rfl ?_
    refine z_lload dX12_at_184 rfl rfl ?_
    refine z_lload dX12_at_186 rfl rfl ?_
    obtain ⟨i9, k⟩ := k
    refine z_ldiv dX12_at_188 i9 rfl ?_
    obtain ⟨r9, k⟩ := k
    refine z_l2i dX12_at_189 r9 rfl ?_
    refine z_iadd dX12_at_190 rfl ?_
    refine z_istore dX12_at_191 (Nat.le_of_ble_eq_true rfl) (L' := [some (vr 12 466), some (vi l1), some (vi l2), none, none, some (vi l5), some (vl l6), none, some (vi x3), some (vi ((h4 497 ((l1 * 128) + l11)) + (l6 / (h4 515 ((((l2 - l10) - 1) * 40) + x3))))), some (vi l10), some (vi l11), some (vl (h4 515 ((((l2 - l10) - 1) * 40) + x3))), none]) rfl rfl ?_
    refine z_lload dX12_at_193 rfl rfl ?_
    refine z_lload dX12_at_195 rfl rfl ?_
    obtain ⟨i9, k⟩ := k
    refine z_lrem dX12_at_197 i9 rfl ?_
    refine z_lstore dX12_at_198 (Nat.le_of_ble_eq_true rfl) (L' := [some (vr 12 466), some (vi l1), some (vi l2), none, none, some (vi l5), some (vl (l6 % (h4 515 ((((l2 - l10) - 1) * 40) + x3)))), none, some (vi x3), some (vi ((h4 497 ((l1 * 128) + l11)) + (l6 / (h4 515 ((((l2 - l10) - 1) * 40) + x3))))), some (vi l10), some (vi l11), some (vl (h4 515 ((((l2 - l10) - 1) * 40) + x3))), none]) rfl rfl ?_
    refine z_iinc dX12_at_200 rfl (Nat.le_of_ble_eq_true rfl) (L' := [some (vr 12 466), some (vi l1), some (vi l2), none, none, some (vi l5), some (vl (l6 % (h4 515 ((((l2 - l10) - 1) * 40) + x3)))), none, some (vi x3), some (vi ((h4 497 ((l1 * 128) + l11)) + (l6 / (h4 515 ((((l2 - l10) - 1) * 40) + x3))))), some (vi (l10 + 1)), some (vi l11), some (vl (h4 515 ((((l2 - l10) - 1) * 40) + x3))), none]) rfl rfl ?_
    refine z_goto (tgt := 88) dX12_at_203 rfl ?_
    exact z_sub (L' := [some (vr 12 466), some (vi l1), some (vi l2), none, none, some (vi l5), some (vl (l6 % (h4 515 ((((l2 - l10) - 1) * 40) + x3)))), none, some (vi x3), some (vi ((h4 497 ((l1 * 128) + l11)) + (l6 / (h4 515 ((((l2 - l10) - 1) * 40) + x3))))), some (vi (l10 + 1)), none, none, none]) (And.intro rfl (And.intro rfl (And.intro rfl (And.intro rfl (And.intro rfl (And.intro rfl (And.intro rfl (And.intro rfl trivial)))))))) k
  · have k := kb q
    refine z_lload dX12_at_117 rfl rfl ?_
    refine z_aload_n 0 dX12_at_119 rfl rfl (Nat.le_of_ble_eq_true rfl) rfl ?_
    refine z_iload_n 1 dX12_at_120 rfl rfl rfl ?_
    refine z_iload_n 2 dX12_at_121 rfl rfl rfl ?_
    refine z_iload dX12_at_122 rfl rfl ?_
    refine z_isub dX12_at_124 rfl ?_
    refine z_iload dX12_at_125 rfl rfl ?_
    refine z_iload dX12_at_127 rfl rfl ?_
    refine z_callVl vX12_waysBy kX12_637 dX12_at_129 rfl (zRo_d d) (as := [vi l1, vi (l2 - l10), vi l8, vi l11]) (rest := [vl l6]) (Nat.le_of_ble_eq_true rfl) rfl rfl (zCl_mono (fun x5 h6 k => ?_) k)
    refine z_lsub dX12_at_132 rfl ?_
    refine z_lstore dX12_at_133 (Nat.le_of_ble_eq_true rfl) (L' := [some (vr 12 466), some (vi l1), some (vi l2), none, none, some (vi l5), some (vl (l6 - x5)), none, some (vi l8), none, some (vi l10), some (vi l11), none, none]) rfl rfl ?_
    refine z_iinc dX12_at_135 rfl (Nat.le_of_ble_eq_true rfl) (L' := [some (vr 12 466), some (vi l1), some (vi l2), none, none, some (vi l5), some (vl (l6 - x5)), none, some (vi l8), none, some (vi l10), some (vi (l11 + 1)), none, none]) rfl rfl ?_
    refine z_goto (tgt := 98) dX12_at_138 rfl ?_
    exact z_sub (L' := [some (vr 12 466), some (vi l1), some (vi l2), none, none, some (vi l5), some (vl (l6 - x5)), none, some (vi l8), none, some (vi l10), some (vi (l11 + 1)), none, none]) (And.intro rfl (And.intro rfl (And.intro rfl (And.intro rfl (And.intro rfl (And.intro rfl (And.intro rfl (And.intro rfl trivial)))))))) k
theorem eX12_at {G : zG} {d : Nat} {K : Int → zH → Prop} {l1 : Int} {l2 : Int} {l3 : Int} {l5 : Int} {h : zH} (k : tX12_at_0 G d K l1 l2 l3 l5 h) : zCi G (d + 1) mX12_at [vr 12 466, vi l1, vi l2, vl l3, vi l5] h K := z_entry (by decide +kernel) (Nat.le_of_ble_eq_true rfl) rfl k
