def tX4_edgeLetters_0 (G : zG) (d : Nat) (K : Int → zH → Prop) (l0 : Int) (l1 : Int) (h : zH) : Prop := zTi G (d + 1) mX4_edgeLetters K 0 [some (vr 4 l0), some (vi l1), none, none] [] h
def tX4_edgeLetters_4 (G : zG) (d : Nat) (K : Int → zH → Prop) (l0 : Int) (l1 : Int) (l2 : Int) (l3 : Int) (h : zH) : Prop := zTi G (d + 1) mX4_edgeLetters K 4 [some (vr 4 l0), some (vi l1), some (vi l2), some (vi l3)] [] h
theorem bX4_edgeLetters_0 {G : zG} {d : Nat} {K : Int → zH → Prop} {l0 : Int} {l1 : Int} {h : zH} (k : tX4_edgeLetters_4 G d K l0 l1 0 0 h) : tX4_edgeLetters_0 G d K l0 l1 h := by
  unfold tX4_edgeLetters_0
  refine z_iconst dX4_edgeLetters_0 rfl ?_
  refine z_istore_n 2 dX4_edgeLetters_1 rfl (Nat.le_of_ble_eq_true rfl) (L' := [some (vr 4 l0), some (vi l1), some (vi 0), none]) rfl rfl ?_
  refine z_iconst dX4_edgeLetters_2 rfl ?_
  refine z_istore_n 3 dX4_edgeLetters_3 rfl (Nat.le_of_ble_eq_true rfl) (L' := [some (vr 4 l0), some (vi l1), some (vi 0), some (vi 0)]) rfl rfl ?_
  exact z_sub (L' := [some (vr 4 l0), some (vi l1), some (vi 0), some (vi 0)]) (And.intro rfl (And.intro rfl (And.intro rfl (And.intro rfl trivial)))) k
theorem bX4_edgeLetters_4 {G : zG} {d : Nat} {K : Int → zH → Prop} {l0 : Int} {l1 : Int} {l2 : Int} {l3 : Int} {h : zH} (k : zR l3 ∧ zR (h l0 11) ∧ ((h l0 11) ≤ l3 → K l2 h) ∧ (¬ (h l0 11) ≤ l3 → zCb G d mX4_edgeHas [vr 4 l0, vi l1, vi l3] h (fun x1 h2 => (x1 = false → tX4_edgeLetters_4 G d K l0 l1 l2 (l3 + 1) h2) ∧ (x1 = true → zCi G d mX4_lengthOf [vr 4 l0, vi l3] h2 (fun x3 h4 => tX4_edgeLetters_4 G d K l0 l1 (l2 + x3) (l3 + 1) h4))))) : tX4_edgeLetters_4 G d K l0 l1 l2 l3 h := by
  unfold tX4_edgeLetters_4
  refine z_iload_n 3 dX4_edgeLetters_4 rfl rfl rfl ?_
  refine z_aload_n 0 dX4_edgeLetters_5 rfl rfl (Nat.le_of_ble_eq_true rfl) rfl ?_
  refine z_getI 4 (x := (h l0 11)) fX4_89 rfl dX4_edgeLetters_6 rfl rfl ?_
  obtain ⟨r1, r2, ka, kb⟩ := k
  refine z_icmp_ge (tgt := 35) dX4_edgeLetters_9 rfl r1 r2 rfl ⟨fun q => ?_, fun q => ?_⟩
  · have k := ka q
    refine z_iload_n 2 dX4_edgeLetters_35 rfl rfl rfl ?_
    exact z_ireturn rfl dX4_edgeLetters_36 ⟨_, rfl, k⟩
  · have k := kb q
    refine z_aload_n 0 dX4_edgeLetters_12 rfl rfl (Nat.le_of_ble_eq_true rfl) rfl ?_
    refine z_iload_n 1 dX4_edgeLetters_13 rfl rfl rfl ?_
    refine z_iload_n 3 dX4_edgeLetters_14 rfl rfl rfl ?_
    refine z_callVb vX4_edgeHas kX4_119 dX4_edgeLetters_15 rfl (zRo_d d) (as := [vi l1, vi l3]) (rest := []) (Nat.le_of_ble_eq_true rfl) rfl rfl (zCb_mono (fun x1 h2 k => ?_) k)
    obtain ⟨ka, kb⟩ := k
    refine z_ifb_eq (tgt := 29) dX4_edgeLetters_18 rfl rfl ⟨fun q => ?_, fun q => ?_⟩
    · have k := ka q
      refine z_iinc dX4_edgeLetters_29 rfl (Nat.le_of_ble_eq_true rfl) (L' := [some (vr 4 l0), some (vi l1), some (vi l2), some (vi (l3 + 1))]) rfl rfl ?_
      refine z_goto (tgt := 4) dX4_edgeLetters_32 rfl ?_
      exact z_sub (L' := [some (vr 4 l0), some (vi l1), some (vi l2), some (vi (l3 + 1))]) (And.intro rfl (And.intro rfl (And.intro rfl (And.intro rfl trivial)))) k
    · have k := kb q
      refine z_iload_n 2 dX4_edgeLetters_21 rfl rfl rfl ?_
      refine z_aload_n 0 dX4_edgeLetters_22 rfl rfl (Nat.le_of_ble_eq_true rfl) rfl ?_
      refine z_iload_n 3 dX4_edgeLetters_23 rfl rfl rfl ?_
      refine z_callVi vX4_lengthOf kX4_122 dX4_edgeLetters_24 rfl (zRo_d d) (as := [vi l3]) (rest := [vi l2]) (Nat.le_of_ble_eq_true rfl) rfl rfl (zCi_mono (fun x3 h4 k => ?_) k)
      refine z_iadd dX4_edgeLetters_27 rfl ?_
      refine z_istore_n 2 dX4_edgeLetters_28 rfl (Nat.le_of_ble_eq_true rfl) (L' := [some (vr 4 l0), some (vi l1), some (vi (l2 + x3)), some (vi l3)]) rfl rfl ?_
      refine z_iinc dX4_edgeLetters_29 rfl (Nat.le_of_ble_eq_true rfl) (L' := [some (vr 4 l0), some (vi l1), some (vi (l2 + x3)), some (vi (l3 + 1))]) rfl rfl ?_
      refine z_goto (tgt := 4) dX4_edgeLetters_32 rfl ?_
      exact z_sub (L' := [some (vr 4 l0), some (vi l1), some (vi (l2 + x3)), some (vi (l3 + 1))]) (And.intro rfl (And.intro rfl (And.intro rfl (And.intro rfl trivial)))) k
theorem eX4_edgeLetters {G : zG} {d : Nat} {K : Int → zH → Prop} {l0 : Int} {l1 : Int} {h : zH} (k : tX4_edgeLetters_0 G d K l0 l1 h) : zCi G (d + 1) mX4_edgeLetters [vr 4 l0, vi l1] h K := z_entry (by decide +kernel) (Nat.le_of_ble_eq_true rfl) rfl k
def tX4_edgeBound_0 (G : zG) (d : Nat) (K : Int → zH → Prop) (l0 : Int) (l1 : Int) (l2 : Int) (l3 : Bool) (h : zH) : Prop := zTi G (d + 1) mX4_edgeBound K 0 [some (vr 4 l0), some (vi l1), some (vi l2), some (vi (bi l3)), none, none, none, none] [] h
def tX4_edgeBound_6 (G : zG) (d : Nat) (K : Int → zH → Prop) (l0 : Int) (l1 : Int) (l2 : Int) (l3 : Bool) (l4 : Int) (l5 : Int) (h : zH) : Prop := zTi G (d + 1) mX4_edgeBound K 6 [some (vr 4 l0), some (vi l1), some (vi l2), some (vi (bi l3)), some (vi l4), some (vi l5), none, none] [] h
def tX4_edgeBound_32 (G : zG) (d : Nat) (K : Int → zH → Prop) (l0 : Int) (l1 : Int) (l2 : Int) (l3 : Bool) (l4 : Int) (l5 : Int) (h : zH) : Prop := zTi G (d + 1) mX4_edgeBound K 32 [some (vr 4 l0), some (vi l1), some (vi l2), some (vi (bi l3)), some (vi l4), some (vi l5), none, none] [] h
def tX4_edgeBound_62 (G : zG) (d : Nat) (K : Int → zH → Prop) (l0 : Int) (l1 : Int) (l2 : Int) (l3 : Bool) (l4 : Int) (l5 : Int) (l6 : Int) (h : zH) : Prop := zTi G (d + 1) mX4_edgeBound K 62 [some (vr 4 l0), some (vi l1), some (vi l2), some (vi (bi l3)), some (vi l4), some (vi l5), some (vi l6), none] [] h
def tX4_edgeBound_87 (G : zG) (d : Nat) (K : Int → zH → Prop) (l0 : Int) (l1 : Int) (l2 : Int) (l3 : Bool) (l4 : Int) (l5 : Int) (l6 : Int) (l7 : Int) (h : zH) : Prop := zTi G (d + 1) mX4_edgeBound K 87 [some (vr 4 l0), some (vi l1), some (vi l2), some (vi (bi l3)), some (vi l4), some (vi l5), some (vi l6), some (vi l7)] [] h
def tX4_edgeBound_122 (G : zG) (d : Nat) (K : Int → zH → Prop) (l0 : Int) (l3 : Bool) (l5 : Int) (h : zH) : Prop := zTi G (d + 1) mX4_edgeBound K 122 [some (vr 4 l0), none, none, some (vi (bi l3)), none, some (vi l5), none, none] [] h
def tX4_edgeBound_145 (G : zG) (d : Nat) (K : Int → zH → Prop) (l0 : Int) (l1 : Int) (l2 : Int) (l3 : Bool) (l4 : Int) (l5 : Int) (h : zH) : Prop := zTi G (d + 1) mX4_edgeBound K 145 [some (vr 4 l0), some (vi l1), some (vi l2), some (vi (bi l3)), some (vi l4), some (vi l5), none, none] [] h
theorem bX4_edgeBound_0 {G : zG} {d : Nat} {K : Int → zH → Prop} {l0 : Int} {l1 : Int} {l2 : Int} {l3 : Bool} {h : zH} (k : tX4_edgeBound_6 G d K l0 l1 l2 l3 0 0 h) : tX4_edgeBound_0 G d K l0 l1 l2 l3 h := by
  unfold tX4_edgeBound_0
  refine z_iconst dX4_edgeBound_0 rfl ?_
  refine z_istore dX4_edgeBound_1 (Nat.le_of_ble_eq_true rfl) (L' := [some (vr 4 l0), some (vi l1), some (vi l2), some (vi (bi l3)), some (vi 0), none, none, none]) rfl rfl ?_
  refine z_iconst dX4_edgeBound_3 rfl ?_
  refine z_istore dX4_edgeBound_4 (Nat.le_of_ble_eq_true rfl) (L' := [some (vr 4 l0), some (vi l1), some (vi l2), some (vi (bi l3)), some (vi 0), some (vi 0), none, none]) rfl rfl ?_
  exact z_sub (L' := [some (vr 4 l0), some (vi l1), some (vi l2), some (vi (bi l3)), some (vi 0), some (vi 0), none, none]) (And.intro rfl (And.intro rfl (And.intro rfl (And.intro rfl (And.intro rfl (And.intro rfl trivial)))))) k
theorem bX4_edgeBound_6 {G : zG} {d : Nat} {K : Int → zH → Prop} {l0 : Int} {l1 : Int} {l2 : Int} {l3 : Bool} {l4 : Int} {l5 : Int} {h : zH} (k : zR l5 ∧ zR (h l0 11) ∧ ((h l0 11) ≤ l5 → K (-1) h) ∧ (¬ (h l0 11) ≤ l5 → zR l5 ∧ (l5 = 0 → tX4_edgeBound_32 G d K l0 l1 l2 l3 l4 l5 h) ∧ (¬ l5 = 0 → zCb G d mX4_edgeHas [vr 4 l0, vi l1, vi (l5 - 1)] h (fun x1 h2 => (x1 = true → zR (l5 + 1) ∧ zR (h2 l0 11) ∧ ((l5 + 1) = (h2 l0 11) → tX4_edgeBound_62 G d K l0 l1 l2 l3 l4 l5 0 h2) ∧ (¬ (l5 + 1) = (h2 l0 11) → zCb G d mX4_edgeHas [vr 4 l0, vi l1, vi (l5 + 1)] h2 (fun x3 h4 => (x3 = true → zCb G d mX4_edgeHas [vr 4 l0, vi l1, vi l5] h4 (fun x5 h6 => (x5 = false → tX4_edgeBound_87 G d K l0 l1 l2 l3 l4 l5 0 0 h6) ∧ (x5 = true → tX4_edgeBound_87 G d K l0 l1 l2 l3 l4 l5 0 0 h6))) ∧ (x3 = false → tX4_edgeBound_62 G d K l0 l1 l2 l3 l4 l5 0 h4)))) ∧ (x1 = false → tX4_edgeBound_32 G d K l0 l1 l2 l3 l4 l5 h2))))) : tX4_edgeBound_6 G d K l0 l1 l2 l3 l4 l5 h := by
  unfold tX4_edgeBound_6
  refine z_iload dX4_edgeBound_6 rfl rfl ?_
  refine z_aload_n 0 dX4_edgeBound_8 rfl rfl (Nat.le_of_ble_eq_true rfl) rfl ?_
  refine z_getI 4 (x := (h l0 11)) fX4_89 rfl dX4_edgeBound_9 rfl rfl ?_
  obtain ⟨r1, r2, ka, kb⟩ := k
  refine z_icmp_ge (tgt := 151) dX4_edgeBound_12 rfl r1 r2 rfl ⟨fun q => ?_, fun q => ?_⟩
  · have k := ka q
    refine z_iconst dX4_edgeBound_151 rfl ?_
    exact z_ireturn rfl dX4_edgeBound_152 ⟨_, rfl, k⟩
  · have k := kb q
    refine z_iload dX4_edgeBound_15 rfl rfl ?_
    obtain ⟨r1, ka, kb⟩ := k
    refine z_if_eq (tgt := 32) dX4_edgeBound_17 rfl r1 rfl ⟨fun q => ?_, fun q => ?_⟩
    · have k := ka q
      exact z_sub (L' := [some (vr 4 l0), some (vi l1), some (vi l2), some (vi (bi l3)), some (vi l4), some (vi l5), none, none]) (And.intro rfl (And.intro rfl (And.intro rfl (And.intro rfl (And.intro rfl (And.intro rfl trivial)))))) k
    · have k := kb q
      refine z_aload_n 0 dX4_edgeBound_20 rfl rfl (Nat.le_of_ble_eq_true rfl) rfl ?_
      refine z_iload_n 1 dX4_edgeBound_21 rfl rfl rfl ?_
      refine z_iload dX4_edgeBound_22 rfl rfl ?_
      refine z_iconst dX4_edgeBound_24 rfl ?_
      refine z_isub dX4_edgeBound_25 rfl ?_
      refine z_callVb vX4_edgeHas kX4_119 dX4_edgeBound_26 rfl (zRo_d d) (as := [vi l1, vi (l5 - 1)]) (rest := []) (Nat.le_of_ble_eq_true rfl) rfl rfl (zCb_mono (fun x1 h2 k => ?_) k)
      obtain ⟨ka, kb⟩ := k
      refine z_ifb_ne (tgt := 36) dX4_edgeBound_29 rfl rfl ⟨fun q => ?_, fun q => ?_⟩
      · have k := ka q
        refine z_iconst dX4_edgeBound_36 rfl ?_
        refine z_istore dX4_edgeBound_37 (Nat.le_of_ble_eq_true rfl) (L' := [some (vr 4 l0), some (vi l1), some (vi l2), some (vi (bi l3)), some (vi l4), some (vi l5), some (vi 0), none]) rfl rfl ?_
        refine z_iload dX4_edgeBound_39 rfl rfl ?_
        refine z_iconst dX4_edgeBound_41 rfl ?_
        refine z_iadd dX4_edgeBound_42 rfl ?_
        refine z_aload_n 0 dX4_edgeBound_43 rfl rfl (Nat.le_of_ble_eq_true rfl) rfl ?_
        refine z_getI 4 (x := (h2 l0 11)) fX4_89 rfl dX4_edgeBound_44 rfl rfl ?_
        obtain ⟨r1, r2, ka, kb⟩ := k
        refine z_icmp_eq (tgt := 62) dX4_edgeBound_47 rfl r1 r2 rfl ⟨fun q => ?_, fun q => ?_⟩
        · have k := ka q
          exact z_sub (L' := [some (vr 4 l0), some (vi l1), some (vi l2), some (vi (bi l3)), some (vi l4), some (vi l5), some (vi 0), none]) (And.intro rfl (And.intro rfl (And.intro rfl (And.intro rfl (And.intro rfl (And.intro rfl (And.intro rfl trivial))))))) k
        · have k := kb q
          refine z_aload_n 0 dX4_edgeBound_50 rfl rfl (Nat.le_of_ble_eq_true rfl) rfl ?_
          refine z_iload_n 1 dX4_edgeBound_51 rfl rfl rfl ?_
          refine z_iload dX4_edgeBound_52 rfl rfl ?_
          refine z_iconst dX4_edgeBound_54 rfl ?_
          refine z_iadd dX4_edgeBound_55 rfl ?_
          refine z_callVb vX4_edgeHas kX4_119 dX4_edgeBound_56 rfl (zRo_d d) (as := [vi l1, vi (l5 + 1)]) (rest := []) (Nat.le_of_ble_eq_true rfl) rfl rfl (zCb_mono (fun x3 h4 k => ?_) k)
          obtain ⟨ka, kb⟩ := k
          refine z_ifb_ne (tgt := 66) dX4_edgeBound_59 rfl rfl ⟨fun q => ?_, fun q => ?_⟩
          · have k := ka q
            refine z_iconst dX4_edgeBound_66 rfl ?_
            refine z_istore dX4_edgeBound_67 (Nat.le_of_ble_eq_true rfl) (L' := [some (vr 4 l0), some (vi l1), some (vi l2), some (vi (bi l3)), some (vi l4), some (vi l5), some (vi 0), some (vi 0)]) rfl rfl ?_
            refine z_aload_n 0 dX4_edgeBound_69 rfl rfl (Nat.le_of_ble_eq_true rfl) rfl ?_
            refine z_iload_n 1 dX4_edgeBound_70 rfl rfl rfl ?_
            refine z_iload dX4_edgeBound_71 rfl rfl ?_
            refine z_callVb vX4_edgeHas kX4_119 dX4_edgeBound_73 rfl (zRo_d d) (as := [vi l1, vi l5]) (rest := []) (Nat.le_of_ble_eq_true rfl) rfl rfl (zCb_mono (fun x5 h6 k => ?_) k)
            obtain ⟨ka, kb⟩ := k
            refine z_ifb_eq (tgt := 87) dX4_edgeBound_76 rfl rfl ⟨fun q => ?_, fun q => ?_⟩
            · have k := ka q
              exact z_sub (L' := [some (vr 4 l0), some (vi l1), some (vi l2), some (vi (bi l3)), some (vi l4), some (vi l5), some (vi 0), some (vi 0)]) (And.intro rfl (And.intro rfl (And.intro rfl (And.intro rfl (And.intro rfl (And.intro rfl (And.intro rfl (And.intro rfl trivial)))))))) k
            · have k := kb q
              refine z_iload dX4_edgeBound_79 rfl rfl ?_
              refine z_if_eq (tgt := 87) dX4_edgeBound_81 rfl ⟨by decide, by decide⟩ rfl ⟨fun _ => ?_, fun q => absurd q (by decide)⟩
              exact z_sub (L' := [some (vr 4 l0), some (vi l1), some (vi l2), some (vi (bi l3)), some (vi l4), some (vi l5), some (vi 0), some (vi 0)]) (And.intro rfl (And.intro rfl (And.intro rfl (And.intro rfl (And.intro rfl (And.intro rfl (And.intro rfl (And.intro rfl trivial)))))))) k
          · have k := kb q
            exact z_sub (L' := [some (vr 4 l0), some (vi l1), some (vi l2), some (vi (bi l3)), some (vi l4), some (vi l5), some (vi 0), none]) (And.intro rfl (And.intro rfl (And.intro rfl (And.intro rfl (And.intro rfl (And.intro rfl (And.intro rfl trivial))))))) k
      · have k := kb q
        exact z_sub (L' := [some (vr 4 l0), some (vi l1), some (vi l2), some (vi (bi l3)), some (vi l4), some (vi l5), none, none]) (And.intro rfl (And.intro rfl (And.intro rfl (And.intro rfl (And.intro rfl (And.intro rfl trivial)))))) k
theorem bX4_edgeBound_32 {G : zG} {d : Nat} {K : Int → zH → Prop} {l0 : Int} {l1 : Int} {l2 : Int} {l3 : Bool} {l4 : Int} {l5 : Int} {h : zH} (k : zR (l5 + 1) ∧ zR (h l0 11) ∧ ((l5 + 1) = (h l0 11) → tX4_edgeBound_62 G d K l0 l1 l2 l3 l4 l5 1 h) ∧ (¬ (l5 + 1) = (h l0 11) → zCb G d mX4_edgeHas [vr 4 l0, vi l1, vi (l5 + 1)] h (fun x1 h2 => (x1 = true → zCb G d mX4_edgeHas [vr 4 l0, vi l1, vi l5] h2 (fun x3 h4 => (x3 = false → tX4_edgeBound_87 G d K l0 l1 l2 l3 l4 l5 1 0 h4) ∧ (x3 = true → tX4_edgeBound_87 G d K l0 l1 l2 l3 (l4 + 1) l5 1 0 h4))) ∧ (x1 = false → tX4_edgeBound_62 G d K l0 l1 l2 l3 l4 l5 1 h2)))) : tX4_edgeBound_32 G d K l0 l1 l2 l3 l4 l5 h := by
  unfold tX4_edgeBound_32
  refine z_iconst dX4_edgeBound_32 rfl ?_
  refine z_goto (tgt := 37) dX4_edgeBound_33 rfl ?_
  refine z_istore dX4_edgeBound_37 (Nat.le_of_ble_eq_true rfl) (L' := [some (vr 4 l0), some (vi l1), some (vi l2), some (vi (bi l3)), some (vi l4), some (vi l5), some (vi 1), none]) rfl rfl ?_
  refine z_iload dX4_edgeBound_39 rfl rfl ?_
  refine z_iconst dX4_edgeBound_41 rfl ?_
  refine z_iadd dX4_edgeBound_42 rfl ?_
  refine z_aload_n 0 dX4_edgeBound_43 rfl rfl (Nat.le_of_ble_eq_true rfl) rfl ?_
  refine z_getI 4 (x := (h l0 11)) fX4_89 rfl dX4_edgeBound_44 rfl rfl ?_
  obtain ⟨r1, r2, ka, kb⟩ := k
  refine z_icmp_eq (tgt := 62) dX4_edgeBound_47 rfl r1 r2 rfl ⟨fun q => ?_, fun q => ?_⟩
  · have k := ka q
    exact z_sub (L' := [some (vr 4 l0), some (vi l1), some (vi l2), some (vi (bi l3)), some (vi l4), some (vi l5), some (vi 1), none]) (And.intro rfl (And.intro rfl (And.intro rfl (And.intro rfl (And.intro rfl (And.intro rfl (And.intro rfl trivial))))))) k
  · have k := kb q
    refine z_aload_n 0 dX4_edgeBound_50 rfl rfl (Nat.le_of_ble_eq_true rfl) rfl ?_
    refine z_iload_n 1 dX4_edgeBound_51 rfl rfl rfl ?_
    refine z_iload dX4_edgeBound_52 rfl rfl ?_
    refine z_iconst dX4_edgeBound_54 rfl ?_
    refine z_iadd dX4_edgeBound_55 rfl ?_
    refine z_callVb vX4_edgeHas kX4_119 dX4_edgeBound_56 rfl (zRo_d d) (as := [vi l1, vi (l5 + 1)]) (rest := []) (Nat.le_of_ble_eq_true rfl) rfl rfl (zCb_mono (fun x1 h2 k => ?_) k)
    obtain ⟨ka, kb⟩ := k
    refine z_ifb_ne (tgt := 66) dX4_edgeBound_59 rfl rfl ⟨fun q => ?_, fun q => ?_⟩
    · have k := ka q
      refine z_iconst dX4_edgeBound_66 rfl ?_
      refine z_istore dX4_edgeBound_67 (Nat.le_of_ble_eq_true rfl) (L' := [some (vr 4 l0), some (vi l1), some (vi l2), some (vi (bi l3)), some (vi l4), some (vi l5), some (vi 1), some (vi 0)]) rfl rfl ?_
      refine z_aload_n 0 dX4_edgeBound_69 rfl rfl (Nat.le_of_ble_eq_true rfl) rfl ?_
      refine z_iload_n 1 dX4_edgeBound_70 rfl rfl rfl ?_
      refine z_iload dX4_edgeBound_71 rfl rfl ?_
      refine z_callVb vX4_edgeHas kX4_119 dX4_edgeBound_73 rfl (zRo_d d) (as := [vi l1, vi l5]) (rest := []) (Nat.le_of_ble_eq_true rfl) rfl rfl (zCb_mono (fun x3 h4 k => ?_) k)
      obtain ⟨ka, kb⟩ := k
      refine z_ifb_eq (tgt := 87) dX4_edgeBound_76 rfl rfl ⟨fun q => ?_, fun q => ?_⟩
      · have k := ka q
        exact z_sub (L' := [some (vr 4 l0), some (vi l1), some (vi l2), some (vi (bi l3)), some (vi l4), some (vi l5), some (vi 1), some (vi 0)]) (And.intro rfl (And.intro rfl (And.intro rfl (And.intro rfl (And.intro rfl (And.intro rfl (And.intro rfl (And.intro rfl trivial)))))))) k
      · have k := kb q
        refine z_iload dX4_edgeBound_79 rfl rfl ?_
        refine z_if_eq (tgt := 87) dX4_edgeBound_81 rfl ⟨by decide, by decide⟩ rfl ⟨fun q => absurd q (by decide), fun _ => ?_⟩
        refine z_iinc dX4_edgeBound_84 rfl (Nat.le_of_ble_eq_true rfl) (L' := [some (vr 4 l0), some (vi l1), some (vi l2), some (vi (bi l3)), some (vi (l4 + 1)), some (vi l5), some (vi 1), some (vi 0)]) rfl rfl ?_
        exact z_sub (L' := [some (vr 4 l0), some (vi l1), some (vi l2), some (vi (bi l3)), some (vi (l4 + 1)), some (vi l5), some (vi 1), some (vi 0)]) (And.intro rfl (And.intro rfl (And.intro rfl (And.intro rfl (And.intro rfl (And.intro rfl (And.intro rfl (And.intro rfl trivial)))))))) k
    · have k := kb q
      exact z_sub (L' := [some (vr 4 l0), some (vi l1), some (vi l2), some (vi (bi l3)), some (vi l4), some (vi l5), some (vi 1), none]) (And.intro rfl (And.intro rfl (And.intro rfl (And.intro rfl (And.intro rfl (And.intro rfl (And.intro rfl trivial))))))) k
theorem bX4_edgeBound_62 {G : zG} {d : Nat} {K : Int → zH → Prop} {l0 : Int} {l1 : Int} {l2 : Int} {l3 : Bool} {l4 : Int} {l5 : Int} {l6 : Int} {h : zH} (k : zCb G d mX4_edgeHas [vr 4 l0, vi l1, vi l5] h (fun x1 h2 => (x1 = false → tX4_edgeBound_87 G d K l0 l1 l2 l3 l4 l5 l6 1 h2) ∧ (x1 = true → zR l6 ∧ (l6 = 0 → tX4_edgeBound_87 G d K l0 l1 l2 l3 l4 l5 l6 1 h2) ∧ (¬ l6 = 0 → tX4_edgeBound_87 G d K l0 l1 l2 l3 (l4 + 1) l5 l6 1 h2)))) : tX4_edgeBound_62 G d K l0 l1 l2 l3 l4 l5 l6 h := by
  unfold tX4_edgeBound_62
  refine z_iconst dX4_edgeBound_62 rfl ?_
  refine z_goto (tgt := 67) dX4_edgeBound_63 rfl ?_
  refine z_istore dX4_edgeBound_67 (Nat.le_of_ble_eq_true rfl) (L' := [some (vr 4 l0), some (vi l1), some (vi l2), some (vi (bi l3)), some (vi l4), some (vi l5), some (vi l6), some (vi 1)]) rfl rfl ?_
  refine z_aload_n 0 dX4_edgeBound_69 rfl rfl (Nat.le_of_ble_eq_true rfl) rfl ?_
  refine z_iload_n 1 dX4_edgeBound_70 rfl rfl rfl ?_
  refine z_iload dX4_edgeBound_71 rfl rfl ?_
  refine z_callVb vX4_edgeHas kX4_119 dX4_edgeBound_73 rfl (zRo_d d) (as := [vi l1, vi l5]) (rest := []) (Nat.le_of_ble_eq_true rfl) rfl rfl (zCb_mono (fun x1 h2 k => ?_) k)
  obtain ⟨ka, kb⟩ := k
  refine z_ifb_eq (tgt := 87) dX4_edgeBound_76 rfl rfl ⟨fun q => ?_, fun q => ?_⟩
  · have k := ka q
    exact z_sub (L' := [some (vr 4 l0), some (vi l1), some (vi l2), some (vi (bi l3)), some (vi l4), some (vi l5), some (vi l6), some (vi 1)]) (And.intro rfl (And.intro rfl (And.intro rfl (And.intro rfl (And.intro rfl (And.intro rfl (And.intro rfl (And.intro rfl trivial)))))))) k
  · have k := kb q
    refine z_iload dX4_edgeBound_79 rfl rfl ?_
    obtain ⟨r1, ka, kb⟩ := k
    refine z_if_eq (tgt := 87) dX4_edgeBound_81 rfl r1 rfl ⟨fun q => ?_, fun q => ?_⟩
    · have k := ka q
      exact z_sub (L' := [some (vr 4 l0), some (vi l1), some (vi l2), some (vi (bi l3)), some (vi l4), some (vi l5), some (vi l6), some (vi 1)]) (And.intro rfl (And.intro rfl (And.intro rfl (And.intro rfl (And.intro rfl (And.intro rfl (And.intro rfl (And.intro rfl trivial)))))))) k
    · have k := kb q
      refine z_iinc dX4_edgeBound_84 rfl (Nat.le_of_ble_eq_true rfl) (L' := [some (vr 4 l0), some (vi l1), some (vi l2), some (vi (bi l3)), some (vi (l4 + 1)), some (vi l5), some (vi l6), some (vi 1)]) rfl rfl ?_
      exact z_sub (L' := [some (vr 4 l0), some (vi l1), some (vi l2), some (vi (bi l3)), some (vi (l4 + 1)), some (vi l5), some (vi l6), some (vi 1)]) (And.intro rfl (And.intro rfl (And.intro rfl (And.intro rfl (And.intro rfl (And.intro rfl (And.intro rfl (And.intro rfl trivial)))))))) k
theorem bX4_edgeBound_87 {G : zG} {d : Nat} {K : Int → zH → Prop} {l0 : Int} {l1 : Int} {l2 : Int} {l3 : Bool} {l4 : Int} {l5 : Int} {l6 : Int} {l7 : Int} {h : zH} (k : zCb G d mX4_edgeHas [vr 4 l0, vi l1, vi l5] h (fun x1 h2 => (x1 = false → tX4_edgeBound_145 G d K l0 l1 l2 l3 l4 l5 h2) ∧ (x1 = true → zR l4 ∧ zR (l2 + 1) ∧ (¬ l4 = (l2 + 1) → tX4_edgeBound_145 G d K l0 l1 l2 l3 l4 l5 h2) ∧ (l4 = (l2 + 1) → (l3 = false → zR l6 ∧ (l6 = 0 → tX4_edgeBound_145 G d K l0 l1 l2 l3 l4 l5 h2) ∧ (¬ l6 = 0 → tX4_edgeBound_122 G d K l0 l3 l5 h2)) ∧ (l3 = true → zR l7 ∧ (l7 = 0 → tX4_edgeBound_145 G d K l0 l1 l2 l3 l4 l5 h2) ∧ (¬ l7 = 0 → tX4_edgeBound_122 G d K l0 l3 l5 h2)))))) : tX4_edgeBound_87 G d K l0 l1 l2 l3 l4 l5 l6 l7 h := by
  unfold tX4_edgeBound_87
  refine z_aload_n 0 dX4_edgeBound_87 rfl rfl (Nat.le_of_ble_eq_true rfl) rfl ?_
  refine z_iload_n 1 dX4_edgeBound_88 rfl rfl rfl ?_
  refine z_iload dX4_edgeBound_89 rfl rfl ?_
  refine z_callVb vX4_edgeHas kX4_119 dX4_edgeBound_91 rfl (zRo_d d) (as := [vi l1, vi l5]) (rest := []) (Nat.le_of_ble_eq_true rfl) rfl rfl (zCb_mono (fun x1 h2 k => ?_) k)
  obtain ⟨ka, kb⟩ := k
  refine z_ifb_eq (tgt := 145) dX4_edgeBound_94 rfl rfl ⟨fun q => ?_, fun q => ?_⟩
  · have k := ka q
    exact z_sub (L' := [some (vr 4 l0), some (vi l1), some (vi l2), some (vi (bi l3)), some (vi l4), some (vi l5), none, none]) (And.intro rfl (And.intro rfl (And.intro rfl (And.intro rfl (And.intro rfl (And.intro rfl trivial)))))) k
  · have k := kb q
    refine z_iload dX4_edgeBound_97 rfl rfl ?_
    refine z_iload_n 2 dX4_edgeBound_99 rfl rfl rfl ?_
    refine z_iconst dX4_edgeBound_100 rfl ?_
    refine z_iadd dX4_edgeBound_101 rfl ?_
    obtain ⟨r1, r2, ka, kb⟩ := k
    refine z_icmp_ne (tgt := 145) dX4_edgeBound_102 rfl r1 r2 rfl ⟨fun q => ?_, fun q => ?_⟩
    · have k := ka q
      exact z_sub (L' := [some (vr 4 l0), some (vi l1), some (vi l2), some (vi (bi l3)), some (vi l4), some (vi l5), none, none]) (And.intro rfl (And.intro rfl (And.intro rfl (And.intro rfl (And.intro rfl (And.intro rfl trivial)))))) k
    · have k := kb q
      refine z_iload_n 3 dX4_edgeBound_105 rfl rfl rfl ?_
      obtain ⟨ka, kb⟩ := k
      refine z_ifb_eq (tgt := 117) dX4_edgeBound_106 rfl rfl ⟨fun q => ?_, fun q => ?_⟩
      · have k := ka q
        refine z_iload dX4_edgeBound_117 rfl rfl ?_
        obtain ⟨r1, ka, kb⟩ := k
        refine z_if_eq (tgt := 145) dX4_edgeBound_119 rfl r1 rfl ⟨fun q => ?_, fun q => ?_⟩
        · have k := ka q
          exact z_sub (L' := [some (vr 4 l0), some (vi l1), some (vi l2), some (vi (bi l3)), some (vi l4), some (vi l5), none, none]) (And.intro rfl (And.intro rfl (And.intro rfl (And.intro rfl (And.intro rfl (And.intro rfl trivial)))))) k
        · have k := kb q
          exact z_sub (L' := [some (vr 4 l0), none, none, some (vi (bi l3)), none, some (vi l5), none, none]) (And.intro rfl (And.intro rfl (And.intro rfl trivial))) k
      · have k := kb q
        refine z_iload dX4_edgeBound_109 rfl rfl ?_
        obtain ⟨r1, ka, kb⟩ := k
        refine z_if_eq (tgt := 145) dX4_edgeBound_111 rfl r1 rfl ⟨fun q => ?_, fun q => ?_⟩
        · have k := ka q
          exact z_sub (L' := [some (vr 4 l0), some (vi l1), some (vi l2), some (vi (bi l3)), some (vi l4), some (vi l5), none, none]) (And.intro rfl (And.intro rfl (And.intro rfl (And.intro rfl (And.intro rfl (And.intro rfl trivial)))))) k
        · have k := kb q
          refine z_goto (tgt := 122) dX4_edgeBound_114 rfl ?_
          exact z_sub (L' := [some (vr 4 l0), none, none, some (vi (bi l3)), none, some (vi l5), none, none]) (And.intro rfl (And.intro rfl (And.intro rfl trivial))) k
theorem bX4_edgeBound_122 {G : zG} {d : Nat} {K : Int → zH → Prop} {l0 : Int} {l3 : Bool} {l5 : Int} {h : zH} (k : (l3 = false → ((0 : Int) ≤ l5 ∧ l5 < 128) ∧ K (h (l0 + 6) l5) h) ∧ (l3 = true → zCi G d mX4_endOf [vr 4 l0, vi l5] h (fun x1 h2 => K (x1 - 1) h2))) : tX4_edgeBound_122 G d K l0 l3 l5 h := by
  unfold tX4_edgeBound_122
  refine z_know (fun zo zs zv => ?_)
  have w_l0 : zvok (vr 4 l0) := zv _ (List.mem_of_getElem? (i := 0) rfl)
  refine z_iload_n 3 dX4_edgeBound_122 rfl rfl rfl ?_
  obtain ⟨ka, kb⟩ := k
  refine z_ifb_eq (tgt := 137) dX4_edgeBound_123 rfl rfl ⟨fun q => ?_, fun q => ?_⟩
  · have k := ka q
    refine z_aload_n 0 dX4_edgeBound_137 rfl rfl (Nat.le_of_ble_eq_true rfl) rfl ?_
    refine z_getF 4 13 (x := (l0 + 6)) fX4_28 rfl dX4_edgeBound_138 (by omega) rfl ?_
    refine z_iload dX4_edgeBound_141 rfl rfl ?_
    obtain ⟨i9, k⟩ := k
    refine z_iald (x := (h (l0 + 6) l5)) dX4_edgeBound_143 (by rw [zl4_6 w_l0]; exact i9) rfl rfl ?_
    exact z_ireturn rfl dX4_edgeBound_144 ⟨_, rfl, k⟩
  · have k := kb q
    refine z_aload_n 0 dX4_edgeBound_126 rfl rfl (Nat.le_of_ble_eq_true rfl) rfl ?_
    refine z_iload dX4_edgeBound_127 rfl rfl ?_
    refine z_callVi vX4_endOf kX4_103 dX4_edgeBound_129 rfl (zRo_d d) (as := [vi l5]) (rest := []) (Nat.le_of_ble_eq_true rfl) rfl rfl (zCi_mono (fun x1 h2 k => ?_) k)
    refine z_iconst dX4_edgeBound_132 rfl ?_
    refine z_isub dX4_edgeBound_133 rfl ?_
    refine z_goto (tgt := 144) dX4_edgeBound_134 rfl ?_
    exact z_ireturn rfl dX4_edgeBound_144 ⟨_, rfl, k⟩
theorem bX4_edgeBound_145 {G : zG} {d : Nat} {K : Int → zH → Prop} {l0 : Int} {l1 : Int} {l2 : Int} {l3 : Bool} {l4 : Int} {l5 : Int} {h : zH} (k : tX4_edgeBound_6 G d K l0 l1 l2 l3 l4 (l5 + 1) h) : tX4_edgeBound_145 G d K l0 l1 l2 l3 l4 l5 h := by
  unfold tX4_edgeBound_145
  refine z_iinc dX4_edgeBound_145 rfl (Nat.le_of_ble_eq_true rfl) (L' := [some (vr 4 l0), some (vi l1), some (vi l2), some (vi (bi l3)), some (vi l4), some (vi (l5 + 1)), none, none]) rfl rfl ?_
  refine z_goto (tgt := 6) dX4_edgeBound_148 rfl ?_
  exact z_sub (L' := [some (vr 4 l0), some (vi l1), some (vi l2), some (vi (bi l3)), some (vi l4), some (vi (l5 + 1)), none, none]) (And.intro rfl (And.intro rfl (And.intro rfl (And.intro rfl (And.intro rfl (And.intro rfl trivial)))))) k
theorem eX4_edgeBound {G : zG} {d : Nat} {K : Int → zH → Prop} {l0 : Int} {l1 : Int} {l2 : Int} {l3 : Bool} {h : zH} (k : tX4_edgeBound_0 G d K l0 l1 l2 l3 h) : zCi G (d + 1) mX4_edgeBound [vr 4 l0, vi l1, vi l2, vi (bi l3)] h K := z_entry (by decide +kernel) (Nat.le_of_ble_eq_true rfl) rfl k
def tX4_edgesWith_0 (G : zG) (d : Nat) (K : Int → zH → Prop) (l0 : Int) (l1 : Int) (l2 : Int) (h : zH) : Prop := zTi G (d + 1) mX4_edgesWith K 0 [some (vr 4 l0), some (vi l1), some (vi l2), none, none] [] h
def tX4_edgesWith_5 (G : zG) (d : Nat) (K : Int → zH → Prop) (l0 : Int) (l1 : Int) (l2 : Int) (l3 : Int) (l4 : Int) (h : zH) : Prop := zTi G (d + 1) mX4_edgesWith K 5 [some (vr 4 l0), some (vi l1), some (vi l2), some (vi l3), some (vi l4)] [] h
theorem bX4_edgesWith_0 {G : zG} {d : Nat} {K : Int → zH → Prop} {l0 : Int} {l1 : Int} {l2 : Int} {h : zH} (k : tX4_edgesWith_5 G d K l0 l1 l2 0 0 h) : tX4_edgesWith_0 G d K l0 l1 l2 h := by
  unfold tX4_edgesWith_0
  refine z_iconst dX4_edgesWith_0 rfl ?_
  refine z_istore_n 3 dX4_edgesWith_1 rfl (Nat.le_of_ble_eq_true rfl) (L' := [some (vr 4 l0), some (vi l1), some (vi l2), some (vi 0), none]) rfl rfl ?_
  refine z_iconst dX4_edgesWith_2 rfl ?_
  refine z_istore dX4_edgesWith_3 (Nat.le_of_ble_eq_true rfl) (L' := [some (vr 4 l0), some (vi l1), some (vi l2), some (vi 0), some (vi 0)]) rfl rfl ?_
  exact z_sub (L' := [some (vr 4 l0), some (vi l1), some (vi l2), some (vi 0), some (vi 0)]) (And.intro rfl (And.intro rfl (And.intro rfl (And.intro rfl (And.intro rfl trivial))))) k
theorem bX4_edgesWith_5 {G : zG} {d : Nat} {K : Int → zH → Prop} {l0 : Int} {l1 : Int} {l2 : Int} {l3 : Int} {l4 : Int} {h : zH} (k : zR l4 ∧ zR (h l0 9) ∧ ((h l0 9) ≤ l4 → K l3 h) ∧ (¬ (h l0 9) ≤ l4 → ((0 : Int) ≤ l4 ∧ l4 < 160) ∧ zR (h (l0 + 1) l4) ∧ zR l1 ∧ (¬ (h (l0 + 1) l4) = l1 → tX4_edgesWith_5 G d K l0 l1 l2 l3 (l4 + 1) h) ∧ ((h (l0 + 1) l4) = l1 → zCb G d mX4_edgeHas [vr 4 l0, vi l4, vi l2] h (fun x1 h2 => (x1 = false → tX4_edgesWith_5 G d K l0 l1 l2 l3 (l4 + 1) h2) ∧ (x1 = true → tX4_edgesWith_5 G d K l0 l1 l2 (l3 + 1) (l4 + 1) h2))))) : tX4_edgesWith_5 G d K l0 l1 l2 l3 l4 h := by
  unfold tX4_edgesWith_5
  refine z_know (fun zo zs zv => ?_)
  have w_l0 : zvok (vr 4 l0) := zv _ (List.mem_of_getElem? (i := 0) rfl)
  refine z_iload dX4_edgesWith_5 rfl rfl ?_
  refine z_aload_n 0 dX4_edgesWith_7 rfl rfl (Nat.le_of_ble_eq_true rfl) rfl ?_
  refine z_getI 4 (x := (h l0 9)) fX4_57 rfl dX4_edgesWith_8 rfl rfl ?_
  obtain ⟨r1, r2, ka, kb⟩ := k
  refine z_icmp_ge (tgt := 44) dX4_edgesWith_11 rfl r1 r2 rfl ⟨fun q => ?_, fun q => ?_⟩
  · have k := ka q
    refine z_iload_n 3 dX4_edgesWith_44 rfl rfl rfl ?_
    exact z_ireturn rfl dX4_edgesWith_45 ⟨_, rfl, k⟩
  · have k := kb q
    refine z_aload_n 0 dX4_edgesWith_14 rfl rfl (Nat.le_of_ble_eq_true rfl) rfl ?_
    refine z_getF 4 13 (x := (l0 + 1)) fX4_9 rfl dX4_edgesWith_15 (by omega) rfl ?_
    refine z_iload dX4_edgesWith_18 rfl rfl ?_
    obtain ⟨i9, k⟩ := k
    refine z_iald (x := (h (l0 + 1) l4)) dX4_edgesWith_20 (by rw [zl4_1 w_l0]; exact i9) rfl rfl ?_
    refine z_iload_n 1 dX4_edgesWith_21 rfl rfl rfl ?_
    obtain ⟨r1, r2, ka, kb⟩ := k
    refine z_icmp_ne (tgt := 38) dX4_edgesWith_22 rfl r1 r2 rfl ⟨fun q => ?_, fun q => ?_⟩
    · have k := ka q
      refine z_iinc dX4_edgesWith_38 rfl (Nat.le_of_ble_eq_true rfl) (L' := [some (vr 4 l0), some (vi l1), some (vi l2), some (vi l3), some (vi (l4 + 1))]) rfl rfl ?_
      refine z_goto (tgt := 5) dX4_edgesWith_41 rfl ?_
      exact z_sub (L' := [some (vr 4 l0), some (vi l1), some (vi l2), some (vi l3), some (vi (l4 + 1))]) (And.intro rfl (And.intro rfl (And.intro rfl (And.intro rfl (And.intro rfl trivial))))) k
    · have k := kb q
      refine z_aload_n 0 dX4_edgesWith_25 rfl rfl (Nat.le_of_ble_eq_true rfl) rfl ?_
      refine z_iload dX4_edgesWith_26 rfl rfl ?_
      refine z_iload_n 2 dX4_edgesWith_28 rfl rfl rfl ?_
      refine z_callVb vX4_edgeHas kX4_119 dX4_edgesWith_29 rfl (zRo_d d) (as := [vi l4, vi l2]) (rest := []) (Nat.le_of_ble_eq_true rfl) rfl rfl (zCb_mono (fun x1 h2 k => ?_) k)
      obtain ⟨ka, kb⟩ := k
      refine z_ifb_eq (tgt := 38) dX4_edgesWith_32 rfl rfl ⟨fun q => ?_, fun q => ?_⟩
      · have k := ka q
        refine z_iinc dX4_edgesWith_38 rfl (Nat.le_of_ble_eq_true rfl) (L' := [some (vr 4 l0), some (vi l1), some (vi l2), some (vi l3), some (vi (l4 + 1))]) rfl rfl ?_
        refine z_goto (tgt := 5) dX4_edgesWith_41 rfl ?_
        exact z_sub (L' := [some (vr 4 l0), some (vi l1), some (vi l2), some (vi l3), some (vi (l4 + 1))]) (And.intro rfl (And.intro rfl (And.intro rfl (And.intro rfl (And.intro rfl trivial))))) k
      · have k := kb q
        refine z_iinc dX4_edgesWith_35 rfl (Nat.le_of_ble_eq_true rfl) (L' := [some (vr 4 l0), some (vi l1), some (vi l2), some (vi (l3 + 1)), some (vi l4)]) rfl rfl ?_
        refine z_iinc dX4_edgesWith_38 rfl (Nat.le_of_ble_eq_true rfl) (L' := [some (vr 4 l0), some (vi l1), some (vi l2), some (vi (l3 + 1)), some (vi (l4 + 1))]) rfl rfl ?_
        refine z_goto (tgt := 5) dX4_edgesWith_41 rfl ?_
        exact z_sub (L' := [some (vr 4 l0), some (vi l1), some (vi l2), some (vi (l3 + 1)), some (vi (l4 + 1))]) (And.intro rfl (And.intro rfl (And.intro rfl (And.intro rfl (And.intro rfl trivial))))) k
theorem eX4_edgesWith {G : zG} {d : Nat} {K : Int → zH → Prop} {l0 : Int} {l1 : Int} {l2 : Int} {h : zH} (k : tX4_edgesWith_0 G d K l0 l1 l2 h) : zCi G (d + 1) mX4_edgesWith [vr 4 l0, vi l1, vi l2] h K := z_entry (by decide +kernel) (Nat.le_of_ble_eq_true rfl) rfl k
def tX4_uselessStates_0 (G : zG) (d : Nat) (K : Int → zH → Prop) (l0 : Int) (h : zH) : Prop := zTl G (d + 1) mX4_uselessStates K 0 [some (vr 4 l0), none, none] [] h
theorem bX4_uselessStates_0 {G : zG} {d : Nat} {K : Int → zH → Prop} {l0 : Int} {h : zH} (k : zCl G d mX4_spread [vr 4 l0, vl 1, vi (bi false)] h (fun x1 h2 => zCl G d mX4_spread [vr 4 l0, vl (h2 l0 8), vi (bi true)] h2 (fun x3 h4 => K (zland ((zlshl 1 (h4 l0 7)) - 1) (zlxor (zland x1 x3) (-1))) h4))) : tX4_uselessStates_0 G d K l0 h := by
  unfold tX4_uselessStates_0
  refine z_aload_n 0 dX4_uselessStates_0 rfl rfl (Nat.le_of_ble_eq_true rfl) rfl ?_
  refine z_lconst (x := 1) dX4_uselessStates_1 rfl rfl ?_
  refine z_iconst dX4_uselessStates_2 rfl ?_
  refine z_callVl vX4_spread kX4_125 dX4_uselessStates_3 rfl (zRo_d d) (as := [vl 1, vi (bi false)]) (rest := []) (Nat.le_of_ble_eq_true rfl) rfl rfl (zCl_mono (fun x1 h2 k => ?_) k)
  refine z_aload_n 0 dX4_uselessStates_6 rfl rfl (Nat.le_of_ble_eq_true rfl) rfl ?_
  refine z_aload_n 0 dX4_uselessStates_7 rfl rfl (Nat.le_of_ble_eq_true rfl) rfl ?_
  refine z_getL 4 (x := (h2 l0 8)) fX4_53 rfl dX4_uselessStates_8 rfl rfl ?_
  refine z_iconst dX4_uselessStates_11 rfl ?_
  refine z_callVl vX4_spread kX4_125 dX4_uselessStates_12 rfl (zRo_d d) (as := [vl (h2 l0 8), vi (bi true)]) (rest := [vl x1]) (Nat.le_of_ble_eq_true rfl) rfl rfl (zCl_mono (fun x3 h4 k => ?_) k)
  refine z_land dX4_uselessStates_15 rfl ?_
  refine z_lstore_n 1 dX4_uselessStates_16 rfl (Nat.le_of_ble_eq_true rfl) (L' := [some (vr 4 l0), some (vl (zland x1 x3)), none]) rfl rfl ?_
  refine z_lconst (x := 1) dX4_uselessStates_17 rfl rfl ?_
  refine z_aload_n 0 dX4_uselessStates_18 rfl rfl (Nat.le_of_ble_eq_true rfl) rfl ?_
  refine z_getI 4 (x := (h4 l0 7)) fX4_48 rfl dX4_uselessStates_19 rfl rfl ?_
  refine z_lshl dX4_uselessStates_22 rfl ?_
  refine z_lconst (x := 1) dX4_uselessStates_23 rfl rfl ?_
  refine z_lsub dX4_uselessStates_24 rfl ?_
  refine z_lload_n 1 dX4_uselessStates_25 rfl rfl rfl ?_
  refine z_ldc2 (x := (-1)) cX4_129 rfl dX4_uselessStates_26 rfl ?_
  refine z_lxor dX4_uselessStates_29 rfl ?_
  refine z_land dX4_uselessStates_30 rfl ?_
  exact z_lreturn rfl dX4_uselessStates_31 ⟨_, rfl, k⟩
theorem eX4_uselessStates {G : zG} {d : Nat} {K : Int → zH → Prop} {l0 : Int} {h : zH} (k : tX4_uselessStates_0 G d K l0 h) : zCl G (d + 1) mX4_uselessStates [vr 4 l0] h K := z_entry (by decide +kernel) (Nat.le_of_ble_eq_true rfl) rfl k
def tX4_spread_0 (G : zG) (d : Nat) (K : Int → zH → Prop) (l0 : Int) (l1 : Int) (l3 : Bool) (h : zH) : Prop := zTl G (d + 1) mX4_spread K 0 [some (vr 4 l0), some (vl l1), none, some (vi (bi l3)), none, none, none, none] [] h
def tX4_spread_6 (G : zG) (d : Nat) (K : Int → zH → Prop) (l0 : Int) (l3 : Bool) (l4 : Int) (l6 : Int) (h : zH) : Prop := zTl G (d + 1) mX4_spread K 6 [some (vr 4 l0), none, none, some (vi (bi l3)), some (vl l4), none, some (vi l6), none] [] h
def tX4_spread_18 (G : zG) (d : Nat) (K : Int → zH → Prop) (l0 : Int) (l3 : Bool) (l4 : Int) (l6 : Int) (l7 : Int) (h : zH) : Prop := zTl G (d + 1) mX4_spread K 18 [some (vr 4 l0), none, none, some (vi (bi l3)), some (vl l4), none, some (vi l6), some (vi l7)] [] h
def tX4_spread_58 (G : zG) (d : Nat) (K : Int → zH → Prop) (l0 : Int) (l3 : Bool) (l4 : Int) (l6 : Int) (l7 : Int) (h : zH) : Prop := zTl G (d + 1) mX4_spread K 58 [some (vr 4 l0), none, none, some (vi (bi l3)), some (vl l4), none, some (vi l6), some (vi l7)] [] h
theorem bX4_spread_0 {G : zG} {d : Nat} {K : Int → zH → Prop} {l0 : Int} {l1 : Int} {l3 : Bool} {h : zH} (k : tX4_spread_6 G d K l0 l3 l1 0 h) : tX4_spread_0 G d K l0 l1 l3 h := by
  unfold tX4_spread_0
  refine z_lload_n 1 dX4_spread_0 rfl rfl rfl ?_
  refine z_lstore dX4_spread_1 (Nat.le_of_ble_eq_true rfl) (L' := [some (vr 4 l0), some (vl l1), none, some (vi (bi l3)), some (vl l1), none, none, none]) rfl rfl ?_
  refine z_iconst dX4_spread_3 rfl ?_
  refine z_istore dX4_spread_4 (Nat.le_of_ble_eq_true rfl) (L' := [some (vr 4 l0), some (vl l1), none, some (vi (bi l3)), some (vl l1), none, some (vi 0), none]) rfl rfl ?_
  exact z_sub (L' := [some (vr 4 l0), none, none, some (vi (bi l3)), some (vl l1), none, some (vi 0), none]) (And.intro rfl (And.intro rfl (And.intro rfl (And.intro rfl trivial)))) k
theorem bX4_spread_6 {G : zG} {d : Nat} {K : Int → zH → Prop} {l0 : Int} {l3 : Bool} {l4 : Int} {l6 : Int} {h : zH} (k : zR l6 ∧ zR (h l0 7) ∧ ((h l0 7) ≤ l6 → K l4 h) ∧ (¬ (h l0 7) ≤ l6 → tX4_spread_18 G d K l0 l3 l4 l6 0 h)) : tX4_spread_6 G d K l0 l3 l4 l6 h := by
  unfold tX4_spread_6
  refine z_iload dX4_spread_6 rfl rfl ?_
  refine z_aload_n 0 dX4_spread_8 rfl rfl (Nat.le_of_ble_eq_true rfl) rfl ?_
  refine z_getI 4 (x := (h l0 7)) fX4_48 rfl dX4_spread_9 rfl rfl ?_
  obtain ⟨r1, r2, ka, kb⟩ := k
  refine z_icmp_ge (tgt := 110) dX4_spread_12 rfl r1 r2 rfl ⟨fun q => ?_, fun q => ?_⟩
  · have k := ka q
    refine z_lload dX4_spread_110 rfl rfl ?_
    exact z_lreturn rfl dX4_spread_112 ⟨_, rfl, k⟩
  · have k := kb q
    refine z_iconst dX4_spread_15 rfl ?_
    refine z_istore dX4_spread_16 (Nat.le_of_ble_eq_true rfl) (L' := [some (vr 4 l0), none, none, some (vi (bi l3)), some (vl l4), none, some (vi l6), some (vi 0)]) rfl rfl ?_
    exact z_sub (L' := [some (vr 4 l0), none, none, some (vi (bi l3)), some (vl l4), none, some (vi l6), some (vi 0)]) (And.intro rfl (And.intro rfl (And.intro rfl (And.intro rfl (And.intro rfl trivial))))) k
theorem bX4_spread_18 {G : zG} {d : Nat} {K : Int → zH → Prop} {l0 : Int} {l3 : Bool} {l4 : Int} {l6 : Int} {l7 : Int} {h : zH} (k : zR l7 ∧ zR (h l0 10) ∧ ((h l0 10) ≤ l7 → tX4_spread_58 G d K l0 l3 l4 l6 0 h) ∧ (¬ (h l0 10) ≤ l7 → ((0 : Int) ≤ l7 ∧ l7 < 64) ∧ ((0 : Int) ≤ l7 ∧ l7 < 64) ∧ zCl G d mX4_carry [vl l4, vi (h (l0 + 4) l7), vi (h (l0 + 5) l7), vi (bi l3)] h (fun x1 h2 => tX4_spread_18 G d K l0 l3 x1 l6 (l7 + 1) h2))) : tX4_spread_18 G d K l0 l3 l4 l6 l7 h := by
  unfold tX4_spread_18
  refine z_know (fun zo zs zv => ?_)
  have w_l0 : zvok (vr 4 l0) := zv _ (List.mem_of_getElem? (i := 0) rfl)
  refine z_iload dX4_spread_18 rfl rfl ?_
  refine z_aload_n 0 dX4_spread_20 rfl rfl (Nat.le_of_ble_eq_true rfl) rfl ?_
  refine z_getI 4 (x := (h l0 10)) fX4_61 rfl dX4_spread_21 rfl rfl ?_
  obtain ⟨r1, r2, ka, kb⟩ := k
  refine z_icmp_ge (tgt := 55) dX4_spread_24 rfl r1 r2 rfl ⟨fun q => ?_, fun q => ?_⟩
  · have k := ka q
    refine z_iconst dX4_spread_55 rfl ?_
    refine z_istore dX4_spread_56 (Nat.le_of_ble_eq_true rfl) (L' := [some (vr 4 l0), none, none, some (vi (bi l3)), some (vl l4), none, some (vi l6), some (vi 0)]) rfl rfl ?_
    exact z_sub (L' := [some (vr 4 l0), none, none, some (vi (bi l3)), some (vl l4), none, some (vi l6), some (vi 0)]) (And.intro rfl (And.intro rfl (And.intro rfl (And.intro rfl (And.intro rfl trivial))))) k
  · have k := kb q
    refine z_lload dX4_spread_27 rfl rfl ?_
    refine z_aload_n 0 dX4_spread_29 rfl rfl (Nat.le_of_ble_eq_true rfl) rfl ?_
    refine z_getF 4 13 (x := (l0 + 4)) fX4_22 rfl dX4_spread_30 (by omega) rfl ?_
    refine z_iload dX4_spread_33 rfl rfl ?_
    obtain ⟨i9, k⟩ := k
    refine z_iald (x := (h (l0 + 4) l7)) dX4_spread_35 (by rw [zl4_4 w_l0]; exact i9) rfl rfl ?_
    refine z_aload_n 0 dX4_spread_36 rfl rfl (Nat.le_of_ble_eq_true rfl) rfl ?_
    refine z_getF 4 13 (x := (l0 + 5)) fX4_25 rfl dX4_spread_37 (by omega) rfl ?_
    refine z_iload dX4_spread_40 rfl rfl ?_
    obtain ⟨i9, k⟩ := k
    refine z_iald (x := (h (l0 + 5) l7)) dX4_spread_42 (by rw [zl4_5 w_l0]; exact i9) rfl rfl ?_
    refine z_iload_n 3 dX4_spread_43 rfl rfl rfl ?_
    refine z_callSl sX4_carry kX4_131 dX4_spread_44 rfl (zRo_d d) (as := [vl l4, vi (h (l0 + 4) l7), vi (h (l0 + 5) l7), vi (bi l3)]) (rest := []) (Nat.le_of_ble_eq_true rfl) rfl rfl (zCl_mono (fun x1 h2 k => ?_) k)
    refine z_lstore dX4_spread_47 (Nat.le_of_ble_eq_true rfl) (L' := [some (vr 4 l0), none, none, some (vi (bi l3)), some (vl x1), none, some (vi l6), some (vi l7)]) rfl rfl ?_
    refine z_iinc dX4_spread_49 rfl (Nat.le_of_ble_eq_true rfl) (L' := [some (vr 4 l0), none, none, some (vi (bi l3)), some (vl x1), none, some (vi l6), some (vi (l7 + 1))]) rfl rfl ?_
    refine z_goto (tgt := 18) dX4_spread_52 rfl ?_
    exact z_sub (L' := [some (vr 4 l0), none, none, some (vi (bi l3)), some (vl x1), none, some (vi l6), some (vi (l7 + 1))]) (And.intro rfl (And.intro rfl (And.intro rfl (And.intro rfl (And.intro rfl trivial))))) k
theorem bX4_spread_58 {G : zG} {d : Nat} {K : Int → zH → Prop} {l0 : Int} {l3 : Bool} {l4 : Int} {l6 : Int} {l7 : Int} {h : zH} (k : zR l7 ∧ zR (h l0 9) ∧ ((h l0 9) ≤ l7 → tX4_spread_6 G d K l0 l3 l4 (l6 + 1) h) ∧ (¬ (h l0 9) ≤ l7 → zCb G d mX4_edgeIsFilled [vr 4 l0, vi l7] h (fun x1 h2 => (x1 = false → tX4_spread_58 G d K l0 l3 l4 l6 (l7 + 1) h2) ∧ (x1 = true → ((0 : Int) ≤ l7 ∧ l7 < 160) ∧ ((0 : Int) ≤ l7 ∧ l7 < 160) ∧ zCl G d mX4_carry [vl l4, vi (h2 (l0 + 1) l7), vi (h2 (l0 + 2) l7), vi (bi l3)] h2 (fun x3 h4 => tX4_spread_58 G d K l0 l3 x3 l6 (l7 + 1) h4))))) : tX4_spread_58 G d K l0 l3 l4 l6 l7 h := by
  unfold tX4_spread_58
  refine z_know (fun zo zs zv => ?_)
  have w_l0 : zvok (vr 4 l0) := zv _ (List.mem_of_getElem? (i := 0) rfl)
  refine z_iload dX4_spread_58 rfl rfl ?_
  refine z_aload_n 0 dX4_spread_60 rfl rfl (Nat.le_of_ble_eq_true rfl) rfl ?_
  refine z_getI 4 (x := (h l0 9)) fX4_57 rfl dX4_spread_61 rfl rfl ?_
  obtain ⟨r1, r2, ka, kb⟩ := k
  refine z_icmp_ge (tgt := 104) dX4_spread_64 rfl r1 r2 rfl ⟨fun q => ?_, fun q => ?_⟩
  · have k := ka q
    refine z_iinc dX4_spread_104 rfl (Nat.le_of_ble_eq_true rfl) (L' := [some (vr 4 l0), none, none, some (vi (bi l3)), some (vl l4), none, some (vi (l6 + 1)), some (vi l7)]) rfl rfl ?_
    refine z_goto (tgt := 6) dX4_spread_107 rfl ?_
    exact z_sub (L' := [some (vr 4 l0), none, none, some (vi (bi l3)), some (vl l4), none, some (vi (l6 + 1)), none]) (And.intro rfl (And.intro rfl (And.intro rfl (And.intro rfl trivial)))) k
  · have k := kb q
    refine z_aload_n 0 dX4_spread_67 rfl rfl (Nat.le_of_ble_eq_true rfl) rfl ?_
    refine z_iload dX4_spread_68 rfl rfl ?_
    refine z_callVb vX4_edgeIsFilled kX4_135 dX4_spread_70 rfl (zRo_d d) (as := [vi l7]) (rest := []) (Nat.le_of_ble_eq_true rfl) rfl rfl (zCb_mono (fun x1 h2 k => ?_) k)
    obtain ⟨ka, kb⟩ := k
    refine z_ifb_eq (tgt := 98) dX4_spread_73 rfl rfl ⟨fun q => ?_, fun q => ?_⟩
    · have k := ka q
      refine z_iinc dX4_spread_98 rfl (Nat.le_of_ble_eq_true rfl) (L' := [some (vr 4 l0), none, none, some (vi (bi l3)), some (vl l4), none, some (vi l6), some (vi (l7 + 1))]) rfl rfl ?_
      refine z_goto (tgt := 58) dX4_spread_101 rfl ?_
      exact z_sub (L' := [some (vr 4 l0), none, none, some (vi (bi l3)), some (vl l4), none, some (vi l6), some (vi (l7 + 1))]) (And.intro rfl (And.intro rfl (And.intro rfl (And.intro rfl (And.intro rfl trivial))))) k
    · have k := kb q
      refine z_lload dX4_spread_76 rfl rfl ?_
      refine z_aload_n 0 dX4_spread_78 rfl rfl (Nat.le_of_ble_eq_true rfl) rfl ?_
      refine z_getF 4 13 (x := (l0 + 1)) fX4_9 rfl dX4_spread_79 (by omega) rfl ?_
      refine z_iload dX4_spread_82 rfl rfl ?_
      obtain ⟨i9, k⟩ := k
      refine z_iald (x := (h2 (l0 + 1) l7)) dX4_spread_84 (by rw [zl4_1 w_l0]; exact i9) rfl rfl ?_
      refine z_aload_n 0 dX4_spread_85 rfl rfl (Nat.le_of_ble_eq_true rfl) rfl ?_
      refine z_getF 4 13 (x := (l0 + 2)) fX4_15 rfl dX4_spread_86 (by omega) rfl ?_
      refine z_iload dX4_spread_89 rfl rfl ?_
      obtain ⟨i9, k⟩ := k
      refine z_iald (x := (h2 (l0 + 2) l7)) dX4_spread_91 (by rw [zl4_2 w_l0]; exact i9) rfl rfl ?_
      refine z_iload_n 3 dX4_spread_92 rfl rfl rfl ?_
      refine z_callSl sX4_carry kX4_131 dX4_spread_93 rfl (zRo_d d) (as := [vl l4, vi (h2 (l0 + 1) l7), vi (h2 (l0 + 2) l7), vi (bi l3)]) (rest := []) (Nat.le_of_ble_eq_true rfl) rfl rfl (zCl_mono (fun x3 h4 k => ?_) k)
      refine z_lstore dX4_spread_96 (Nat.le_of_ble_eq_true rfl) (L' := [some (vr 4 l0), none, none, some (vi (bi l3)), some (vl x3), none, some (vi l6), some (vi l7)]) rfl rfl ?_
      refine z_iinc dX4_spread_98 rfl (Nat.le_of_ble_eq_true rfl) (L' := [some (vr 4 l0), none, none, some (vi (bi l3)), some (vl x3), none, some (vi l6), some (vi (l7 + 1))]) rfl rfl ?_
      refine z_goto (tgt := 58) dX4_spread_101 rfl ?_
      exact z_sub (L' := [some (vr 4 l0), none, none, some (vi (bi l3)), some (vl x3), none, some (vi l6), some (vi (l7 + 1))]) (And.intro rfl (And.intro rfl (And.intro rfl (And.intro rfl (And.intro rfl trivial))))) k
theorem eX4_spread {G : zG} {d : Nat} {K : Int → zH → Prop} {l0 : Int} {l1 : Int} {l3 : Bool} {h : zH} (k : tX4_spread_0 G d K l0 l1 l3 h) : zCl G (d + 1) mX4_spread [vr 4 l0, vl l1, vi (bi l3)] h K := z_entry (by decide +kernel) (Nat.le_of_ble_eq_true rfl) rfl k
def tX4_carry_0 (G : zG) (d : Nat) (K : Int → zH → Prop) (l0 : Int) (l2 : Int) (l3 : Int) (l4 : Bool) (h : zH) : Prop := zTl G d mX4_carry K 0 [some (vl l0), none, some (vi l2), some (vi l3), some (vi (bi l4)), none, none] [] h
theorem bX4_carry_0 {G : zG} {d : Nat} {K : Int → zH → Prop} {l0 : Int} {l2 : Int} {l3 : Int} {l4 : Bool} {h : zH} (k : (l4 = false → (l4 = false → (¬ (zcmp (zland (zlushr l0 l2) 1) 1) = 0 → K l0 h) ∧ ((zcmp (zland (zlushr l0 l2) 1) 1) = 0 → K (zlor l0 (zlshl 1 l3)) h)) ∧ (l4 = true → (¬ (zcmp (zland (zlushr l0 l2) 1) 1) = 0 → K l0 h) ∧ ((zcmp (zland (zlushr l0 l2) 1) 1) = 0 → K (zlor l0 (zlshl 1 l2)) h))) ∧ (l4 = true → (l4 = false → (¬ (zcmp (zland (zlushr l0 l3) 1) 1) = 0 → K l0 h) ∧ ((zcmp (zland (zlushr l0 l3) 1) 1) = 0 → K (zlor l0 (zlshl 1 l3)) h)) ∧ (l4 = true → (¬ (zcmp (zland (zlushr l0 l3) 1) 1) = 0 → K l0 h) ∧ ((zcmp (zland (zlushr l0 l3) 1) 1) = 0 → K (zlor l0 (zlshl 1 l2)) h)))) : tX4_carry_0 G d K l0 l2 l3 l4 h := by
  unfold tX4_carry_0
  refine z_iload dX4_carry_0 rfl rfl ?_
  obtain ⟨ka, kb⟩ := k
  refine z_ifb_eq (tgt := 9) dX4_carry_2 rfl rfl ⟨fun q => ?_, fun q => ?_⟩
  · have k := ka q
    refine z_iload_n 2 dX4_carry_9 rfl rfl rfl ?_
    refine z_istore dX4_carry_10 (Nat.le_of_ble_eq_true rfl) (L' := [some (vl l0), none, some (vi l2), some (vi l3), some (vi (bi l4)), some (vi l2), none]) rfl rfl ?_
    refine z_iload dX4_carry_12 rfl rfl ?_
    obtain ⟨ka, kb⟩ := k
    refine z_ifb_eq (tgt := 21) dX4_carry_14 rfl rfl ⟨fun q => ?_, fun q => ?_⟩
    · have k := ka q
      refine z_iload_n 3 dX4_carry_21 rfl rfl rfl ?_
      refine z_istore dX4_carry_22 (Nat.le_of_ble_eq_true rfl) (L' := [some (vl l0), none, some (vi l2), some (vi l3), some (vi (bi l4)), some (vi l2), some (vi l3)]) rfl rfl ?_
      refine z_lload_n 0 dX4_carry_24 rfl rfl rfl ?_
      refine z_iload dX4_carry_25 rfl rfl ?_
      refine z_lushr dX4_carry_27 rfl ?_
      refine z_lconst (x := 1) dX4_carry_28 rfl rfl ?_
      refine z_land dX4_carry_29 rfl ?_
      refine z_lconst (x := 1) dX4_carry_30 rfl rfl ?_
      refine z_lcmp dX4_carry_31 rfl ?_
      obtain ⟨ka, kb⟩ := k
      refine z_if_ne (tgt := 44) dX4_carry_32 rfl (zcmp_R _ _) rfl ⟨fun q => ?_, fun q => ?_⟩
      · have k := ka q
        refine z_lload_n 0 dX4_carry_44 rfl rfl rfl ?_
        exact z_lreturn rfl dX4_carry_45 ⟨_, rfl, k⟩
      · have k := kb q
        refine z_lload_n 0 dX4_carry_35 rfl rfl rfl ?_
        refine z_lconst (x := 1) dX4_carry_36 rfl rfl ?_
        refine z_iload dX4_carry_37 rfl rfl ?_
        refine z_lshl dX4_carry_39 rfl ?_
        refine z_lor dX4_carry_40 rfl ?_
        refine z_goto (tgt := 45) dX4_carry_41 rfl ?_
        exact z_lreturn rfl dX4_carry_45 ⟨_, rfl, k⟩
    · have k := kb q
      refine z_iload_n 2 dX4_carry_17 rfl rfl rfl ?_
      refine z_goto (tgt := 22) dX4_carry_18 rfl ?_
      refine z_istore dX4_carry_22 (Nat.le_of_ble_eq_true rfl) (L' := [some (vl l0), none, some (vi l2), some (vi l3), some (vi (bi l4)), some (vi l2), some (vi l2)]) rfl rfl ?_
      refine z_lload_n 0 dX4_carry_24 rfl rfl rfl ?_
      refine z_iload dX4_carry_25 rfl rfl ?_
      refine z_lushr dX4_carry_27 rfl ?_
      refine z_lconst (x := 1) dX4_carry_28 rfl rfl ?_
      refine z_land dX4_carry_29 rfl ?_
      refine z_lconst (x := 1) dX4_carry_30 rfl rfl ?_
      refine z_lcmp dX4_carry_31 rfl ?_
      obtain ⟨ka, kb⟩ := k
      refine z_if_ne (tgt := 44) dX4_carry_32 rfl (zcmp_R _ _) rfl ⟨fun q => ?_, fun q => ?_⟩
      · have k := ka q
        refine z_lload_n 0 dX4_carry_44 rfl rfl rfl ?_
        exact z_lreturn rfl dX4_carry_45 ⟨_, rfl, k⟩
      · have k := kb q
        refine z_lload_n 0 dX4_carry_35 rfl rfl rfl ?_
        refine z_lconst (x := 1) dX4_carry_36 rfl rfl ?_
        refine z_iload dX4_carry_37 rfl rfl ?_
        refine z_lshl dX4_carry_39 rfl ?_
        refine z_lor dX4_carry_40 rfl ?_
        refine z_goto (tgt := 45) dX4_carry_41 rfl ?_
        exact z_lreturn rfl dX4_carry_45 ⟨_, rfl, k⟩
  · have k := kb q
    refine z_iload_n 3 dX4_carry_5 rfl rfl rfl ?_
    refine z_goto (tgt := 10) dX4_carry_6 rfl ?_
    refine z_istore dX4_carry_10 (Nat.le_of_ble_eq_true rfl) (L' := [some (vl l0), none, some (vi l2), some (vi l3), some (vi (bi l4)), some (vi l3), none]) rfl rfl ?_
    refine z_iload dX4_carry_12 rfl rfl ?_
    obtain ⟨ka, kb⟩ := k
    refine z_ifb_eq (tgt := 21) dX4_carry_14 rfl rfl ⟨fun q => ?_, fun q => ?_⟩
    · have k := ka q
      refine z_iload_n 3 dX4_carry_21 rfl rfl rfl ?_
      refine z_istore dX4_carry_22 (Nat.le_of_ble_eq_true rfl) (L' := [some (vl l0), none, some (vi l2), some (vi l3), some (vi (bi l4)), some (vi l3), some (vi l3)]) rfl rfl ?_
      refine z_lload_n 0 dX4_carry_24 rfl rfl rfl ?_
      refine z_iload dX4_carry_25 rfl rfl ?_
      refine z_lushr dX4_carry_27 rfl ?_
      refine z_lconst (x := 1) dX4_carry_28 rfl rfl ?_
      refine z_land dX4_carry_29 rfl ?_
      refine z_lconst (x := 1) dX4_carry_30 rfl rfl ?_
      refine z_lcmp dX4_carry_31 rfl ?_
      obtain ⟨ka, kb⟩ := k
      refine z_if_ne (tgt := 44) dX4_carry_32 rfl (zcmp_R _ _) rfl ⟨fun q => ?_, fun q => ?_⟩
      · have k := ka q
        refine z_lload_n 0 dX4_carry_44 rfl rfl rfl ?_
        exact z_lreturn rfl dX4_carry_45 ⟨_, rfl, k⟩
      · have k := kb q
        refine z_lload_n 0 dX4_carry_35 rfl rfl rfl ?_
        refine z_lconst (x := 1) dX4_carry_36 rfl rfl ?_
        refine z_iload dX4_carry_37 rfl rfl ?_
        refine z_lshl dX4_carry_39 rfl ?_
        refine z_lor dX4_carry_40 rfl ?_
        refine z_goto (tgt := 45) dX4_carry_41 rfl ?_
        exact z_lreturn rfl dX4_carry_45 ⟨_, rfl, k⟩
    · have k := kb q
      refine z_iload_n 2 dX4_carry_17 rfl rfl rfl ?_
      refine z_goto (tgt := 22) dX4_carry_18 rfl ?_
      refine z_istore dX4_carry_22 (Nat.le_of_ble_eq_true rfl) (L' := [some (vl l0), none, some (vi l2), some (vi l3), some (vi (bi l4)), some (vi l3), some (vi l2)]) rfl rfl ?_
      refine z_lload_n 0 dX4_carry_24 rfl rfl rfl ?_
      refine z_iload dX4_carry_25 rfl rfl ?_
      refine z_lushr dX4_carry_27 rfl ?_
      refine z_lconst (x := 1) dX4_carry_28 rfl rfl ?_
      refine z_land dX4_carry_29 rfl ?_
      refine z_lconst (x := 1) dX4_carry_30 rfl rfl ?_
      refine z_lcmp dX4_carry_31 rfl ?_
      obtain ⟨ka, kb⟩ := k
      refine z_if_ne (tgt := 44) dX4_carry_32 rfl (zcmp_R _ _) rfl ⟨fun q => ?_, fun q => ?_⟩
      · have k := ka q
        refine z_lload_n 0 dX4_carry_44 rfl rfl rfl ?_
        exact z_lreturn rfl dX4_carry_45 ⟨_, rfl, k⟩
      · have k := kb q
        refine z_lload_n 0 dX4_carry_35 rfl rfl rfl ?_
        refine z_lconst (x := 1) dX4_carry_36 rfl rfl ?_
        refine z_iload dX4_carry_37 rfl rfl ?_
        refine z_lshl dX4_carry_39 rfl ?_
        refine z_lor dX4_carry_40 rfl ?_
        refine z_goto (tgt := 45) dX4_carry_41 rfl ?_
        exact z_lreturn rfl dX4_carry_45 ⟨_, rfl, k⟩
theorem eX4_carry {G : zG} {d : Nat} {K : Int → zH → Prop} {l0 : Int} {l2 : Int} {l3 : Int} {l4 : Bool} {h : zH} (k : tX4_carry_0 G d K l0 l2 l3 l4 h) : zCl G d mX4_carry [vl l0, vi l2, vi l3, vi (bi l4)] h K := z_entry (by decide +kernel) (Nat.le_of_ble_eq_true rfl) rfl k
def tX7_findSheaves_0 (G : zG) (d : Nat) (K : Bool → zH → Prop) (l0 : Int) (l1 : Int) (h : zH) : Prop := zTb G (d + 1) mX7_findSheaves K 0 [some (vr 7 l0), some (vr 4 l1), none, none, none] [] h
def tX7_findSheaves_39 (G : zG) (d : Nat) (K : Bool → zH → Prop) (l0 : Int) (l1 : Int) (l2 : Int) (h : zH) : Prop := zTb G (d + 1) mX7_findSheaves K 39 [some (vr 7 l0), some (vr 4 l1), some (vi l2), none, none] [] h
def tX7_findSheaves_61 (G : zG) (d : Nat) (K : Bool → zH → Prop) (l0 : Int) (l1 : Int) (l2 : Int) (l3 : Int) (h : zH) : Prop := zTb G (d + 1) mX7_findSheaves K 61 [some (vr 7 l0), some (vr 4 l1), some (vi l2), some (vi l3), none] [] h
theorem bX7_findSheaves_0 {G : zG} {d : Nat} {K : Bool → zH → Prop} {l0 : Int} {l1 : Int} {h : zH} (k : zCv G d mX7_closeFrees [vr 7 l0, vr 4 l1] (zup h l0 7 (h l1 11)) (fun h2 => zCi G d mX7_addSheaf [vr 7 l0, vr 4 l1, vl ((zup (zup h2 l0 0 0) l0 6 0) (l0 + 6) 0), vi (-1), vi (-1)] (zup (zup h2 l0 0 0) l0 6 0) (fun x3 h4 => tX7_findSheaves_39 G d K l0 l1 0 h4))) : tX7_findSheaves_0 G d K l0 l1 h := by
  unfold tX7_findSheaves_0
  refine z_know (fun zo zs zv => ?_)
  have w_l0 : zvok (vr 7 l0) := zv _ (List.mem_of_getElem? (i := 0) rfl)
  refine z_aload_n 0 dX7_findSheaves_0 rfl rfl (Nat.le_of_ble_eq_true rfl) rfl ?_
  refine z_aload_n 1 dX7_findSheaves_1 rfl rfl (Nat.le_of_ble_eq_true rfl) rfl ?_
  refine z_getI 4 (x := (h l1 11)) fX7_46 rfl dX7_findSheaves_2 rfl rfl ?_
  refine z_putI 7 gX7_52 dX7_findSheaves_5 rfl ?_
  refine z_aload_n 0 dX7_findSheaves_8 rfl rfl (Nat.le_of_ble_eq_true rfl) rfl ?_
  refine z_aload_n 1 dX7_findSheaves_9 rfl rfl (Nat.le_of_ble_eq_true rfl) rfl ?_
  refine z_callVv vX7_closeFrees kX7_53 dX7_findSheaves_10 rfl (zRo_d d) (as := [vr 4 l1]) (rest := []) (Nat.le_of_ble_eq_true rfl) rfl rfl (zCv_mono (fun h2 k => ?_) k)
  refine z_aload_n 0 dX7_findSheaves_13 rfl rfl (Nat.le_of_ble_eq_true rfl) rfl ?_
  refine z_iconst dX7_findSheaves_14 rfl ?_
  refine z_putI 7 gX7_57 dX7_findSheaves_15 rfl ?_
  refine z_aload_n 0 dX7_findSheaves_18 rfl rfl (Nat.le_of_ble_eq_true rfl) rfl ?_
  refine z_lconst (x := 0) dX7_findSheaves_19 rfl rfl ?_
  refine z_putL 7 gX7_60 dX7_findSheaves_20 rfl ?_
  refine z_aload_n 0 dX7_findSheaves_23 rfl rfl (Nat.le_of_ble_eq_true rfl) rfl ?_
  refine z_aload_n 1 dX7_findSheaves_24 rfl rfl (Nat.le_of_ble_eq_true rfl) rfl ?_
  refine z_aload_n 0 dX7_findSheaves_25 rfl rfl (Nat.le_of_ble_eq_true rfl) rfl ?_
  refine z_getF 7 14 (x := (l0 + 6)) fX7_28 rfl dX7_findSheaves_26 (by omega) rfl ?_
  refine z_iconst dX7_findSheaves_29 rfl ?_
  refine z_lald (x := ((zup (zup h2 l0 0 0) l0 6 0) (l0 + 6) 0)) dX7_findSheaves_30 (by rw [zl7_6 w_l0]; decide) rfl rfl ?_
  refine z_iconst dX7_findSheaves_31 rfl ?_
  refine z_iconst dX7_findSheaves_32 rfl ?_
  refine z_callVi vX7_addSheaf kX7_64 dX7_findSheaves_33 rfl (zRo_d d) (as := [vr 4 l1, vl ((zup (zup h2 l0 0 0) l0 6 0) (l0 + 6) 0), vi (-1), vi (-1)]) (rest := []) (Nat.le_of_ble_eq_true rfl) rfl rfl (zCi_mono (fun x3 h4 k => ?_) k)
  refine z_pop dX7_findSheaves_36 (fun q => by cases q) rfl ?_
  refine z_iconst dX7_findSheaves_37 rfl ?_
  refine z_istore_n 2 dX7_findSheaves_38 rfl (Nat.le_of_ble_eq_true rfl) (L' := [some (vr 7 l0), some (vr 4 l1), some (vi 0), none, none]) rfl rfl ?_
  exact z_sub (L' := [some (vr 7 l0), some (vr 4 l1), some (vi 0), none, none]) (And.intro rfl (And.intro rfl (And.intro rfl trivial))) k
theorem bX7_findSheaves_39 {G : zG} {d : Nat} {K : Bool → zH → Prop} {l0 : Int} {l1 : Int} {l2 : Int} {h : zH} (k : zR l2 ∧ (40 ≤ l2 → K true h) ∧ (¬ 40 ≤ l2 → zR l2 ∧ zR (h l0 0) ∧ ((h l0 0) ≤ l2 → K true h) ∧ (¬ (h l0 0) ≤ l2 → zCv G d mX7_findTargets [vr 7 l0, vr 4 l1, vi l2] h (fun h2 => tX7_findSheaves_61 G d K l0 l1 l2 0 h2)))) : tX7_findSheaves_39 G d K l0 l1 l2 h := by
  unfold tX7_findSheaves_39
  refine z_iload_n 2 dX7_findSheaves_39 rfl rfl rfl ?_
  refine z_bipush dX7_findSheaves_40 rfl rfl ?_
  obtain ⟨r1, ka, kb⟩ := k
  refine z_icmp_ge (tgt := 136) dX7_findSheaves_42 rfl r1 ⟨by decide, by decide⟩ rfl ⟨fun q => ?_, fun q => ?_⟩
  · have k := ka q
    refine z_iconst dX7_findSheaves_136 rfl ?_
    exact z_zreturn rfl (Or.inr rfl) dX7_findSheaves_137 ⟨true, rfl, k⟩
  · have k := kb q
    refine z_iload_n 2 dX7_findSheaves_45 rfl rfl rfl ?_
    refine z_aload_n 0 dX7_findSheaves_46 rfl rfl (Nat.le_of_ble_eq_true rfl) rfl ?_
    refine z_getI 7 (x := (h l0 0)) fX7_57 rfl dX7_findSheaves_47 rfl rfl ?_
    obtain ⟨r1, r2, ka, kb⟩ := k
    refine z_icmp_ge (tgt := 136) dX7_findSheaves_50 rfl r1 r2 rfl ⟨fun q => ?_, fun q => ?_⟩
    · have k := ka q
      refine z_iconst dX7_findSheaves_136 rfl ?_
      exact z_zreturn rfl (Or.inr rfl) dX7_findSheaves_137 ⟨true, rfl, k⟩
    · have k := kb q
      refine z_aload_n 0 dX7_findSheaves_53 rfl rfl (Nat.le_of_ble_eq_true rfl) rfl ?_
      refine z_aload_n 1 dX7_findSheaves_54 rfl rfl (Nat.le_of_ble_eq_true rfl) rfl ?_
      refine z_iload_n 2 dX7_findSheaves_55 rfl rfl rfl ?_
      refine z_callVv vX7_findTargets kX7_68 dX7_findSheaves_56 rfl (zRo_d d) (as := [vr 4 l1, vi l2]) (rest := []) (Nat.le_of_ble_eq_true rfl) rfl rfl (zCv_mono (fun h2 k => ?_) k)
      refine z_iconst dX7_findSheaves_59 rfl ?_
      refine z_istore_n 3 dX7_findSheaves_60 rfl (Nat.le_of_ble_eq_true rfl) (L' := [some (vr 7 l0), some (vr 4 l1), some (vi l2), some (vi 0), none]) rfl rfl ?_
      exact z_sub (L' := [some (vr 7 l0), some (vr 4 l1), some (vi l2), some (vi 0), none]) (And.intro rfl (And.intro rfl (And.intro rfl (And.intro rfl trivial)))) k
theorem bX7_findSheaves_61 {G : zG} {d : Nat} {K : Bool → zH → Prop} {l0 : Int} {l1 : Int} {l2 : Int} {l3 : Int} {h : zH} (k : zR l3 ∧ zR (h l0 7) ∧ ((h l0 7) ≤ l3 → tX7_findSheaves_39 G d K l0 l1 (l2 + 1) h) ∧ (¬ (h l0 7) ≤ l3 → ((0 : Int) ≤ l3 ∧ l3 < 128) ∧ zCi G d mX7_sheafWith [vr 7 l0, vl (h (l0 + 7) l3)] h (fun x1 h2 => zR x1 ∧ (¬ x1 = (-1) → zR x1 ∧ (¬ x1 = (-1) → ((0 : Int) ≤ ((l2 * 128) + l3) ∧ ((l2 * 128) + l3) < 5120) ∧ tX7_findSheaves_61 G d K l0 l1 l2 (l3 + 1) (zup h2 (l0 + 2) ((l2 * 128) + l3) x1)) ∧ (x1 = (-1) → K false h2)) ∧ (x1 = (-1) → ((0 : Int) ≤ l3 ∧ l3 < 128) ∧ zCi G d mX7_addSheaf [vr 7 l0, vr 4 l1, vl (h2 (l0 + 7) l3), vi l2, vi l3] h2 (fun x3 h4 => zR x3 ∧ (¬ x3 = (-1) → ((0 : Int) ≤ ((l2 * 128) + l3) ∧ ((l2 * 128) + l3) < 5120) ∧ tX7_findSheaves_61 G d K l0 l1 l2 (l3 + 1) (zup h4 (l0 + 2) ((l2 * 128) + l3) x3)) ∧ (x3 = (-1) → K false h4)))))) : tX7_findSheaves_61 G d K l0 l1 l2 l3 h := by
  unfold tX7_findSheaves_61
  refine z_know (fun zo zs zv => ?_)
  have w_l0 : zvok (vr 7 l0) := zv _ (List.mem_of_getElem? (i := 0) rfl)
  refine z_iload_n 3 dX7_findSheaves_61 rfl rfl rfl ?_
  refine z_aload_n 0 dX7_findSheaves_62 rfl rfl (Nat.le_of_ble_eq_true rfl) rfl ?_
  refine z_getI 7 (x := (h l0 7)) fX7_52 rfl dX7_findSheaves_63 rfl rfl ?_
  obtain ⟨r1, r2, ka, kb⟩ := k
  refine z_icmp_ge (tgt := 130) dX7_findSheaves_66 rfl r1 r2 rfl ⟨fun q => ?_, fun q => ?_⟩
  · have k := ka q
    refine z_iinc dX7_findSheaves_130 rfl (Nat.le_of_ble_eq_true rfl) (L' := [some (vr 7 l0), some (vr 4 l1), some (vi (l2 + 1)), some (vi l3), none]) rfl rfl ?_
    refine z_goto (tgt := 39) dX7_findSheaves_133 rfl ?_
    exact z_sub (L' := [some (vr 7 l0), some (vr 4 l1), some (vi (l2 + 1)), none, none]) (And.intro rfl (And.intro rfl (And.intro rfl trivial))) k
  · have k := kb q
    refine z_aload_n 0 dX7_findSheaves_69 rfl rfl (Nat.le_of_ble_eq_true rfl) rfl ?_
    refine z_aload_n 0 dX7_findSheaves_70 rfl rfl (Nat.le_of_ble_eq_true rfl) rfl ?_
    refine z_getF 7 14 (x := (l0 + 7)) fX7_31 rfl dX7_findSheaves_71 (by omega) rfl ?_
    refine z_iload_n 3 dX7_findSheaves_74 rfl rfl rfl ?_
    obtain ⟨i9, k⟩ := k
    refine z_lald (x := (h (l0 + 7) l3)) dX7_findSheaves_75 (by rw [zl7_7 w_l0]; exact i9) rfl rfl ?_
    refine z_callVi vX7_sheafWith kX7_72 dX7_findSheaves_76 rfl (zRo_d d) (as := [vl (h (l0 + 7) l3)]) (rest := []) (Nat.le_of_ble_eq_true rfl) rfl rfl (zCi_mono (fun x1 h2 k => ?_) k)
    refine z_istore dX7_findSheaves_79 (Nat.le_of_ble_eq_true rfl) (L' := [some (vr 7 l0), some (vr 4 l1), some (vi l2), some (vi l3), some (vi x1)]) rfl rfl ?_
    refine z_iload dX7_findSheaves_81 rfl rfl ?_
    refine z_iconst dX7_findSheaves_83 rfl ?_
    obtain ⟨r1, ka, kb⟩ := k
    refine z_icmp_ne (tgt := 102) dX7_findSheaves_84 rfl r1 ⟨by decide, by decide⟩ rfl ⟨fun q => ?_, fun q => ?_⟩
    · have k := ka q
      refine z_iload dX7_findSheaves_102 rfl rfl ?_
      refine z_iconst dX7_findSheaves_104 rfl ?_
      obtain ⟨r1, ka, kb⟩ := k
      refine z_icmp_ne (tgt := 110) dX7_findSheaves_105 rfl r1 ⟨by decide, by decide⟩ rfl ⟨fun q => ?_, fun q => ?_⟩
      · have k := ka q
        refine z_aload_n 0 dX7_findSheaves_110 rfl rfl (Nat.le_of_ble_eq_true rfl) rfl ?_
        refine z_getF 7 13 (x := (l0 + 2)) fX7_15 rfl dX7_findSheaves_111 (by omega) rfl ?_
        refine z_iload_n 2 dX7_findSheaves_114 rfl rfl rfl ?_
        refine z_sipush dX7_findSheaves_115 rfl rfl ?_
        refine z_imul dX7_findSheaves_118 rfl ?_
        refine z_iload_n 3 dX7_findSheaves_119 rfl rfl rfl ?_
        refine z_iadd dX7_findSheaves_120 rfl ?_
        refine z_iload dX7_findSheaves_121 rfl rfl ?_
        obtain ⟨i9, k⟩ := k
        refine z_iast dX7_findSheaves_123 (by rw [zl7_2 w_l0]; exact i9) rfl ?_
        refine z_iinc dX7_findSheaves_124 rfl (Nat.le_of_ble_eq_true rfl) (L' := [some (vr 7 l0), some (vr 4 l1), some (vi l2), some (vi (l3 + 1)), some (vi x1)]) rfl rfl ?_
        refine z_goto (tgt := 61) dX7_findSheaves_127 rfl ?_
        exact z_sub (L' := [some (vr 7 l0), some (vr 4 l1), some (vi l2), some (vi (l3 + 1)), none]) (And.intro rfl (And.intro rfl (And.intro rfl (And.intro rfl trivial)))) k
      · have k := kb q
        refine z_iconst dX7_findSheaves_108 rfl ?_
        exact z_zreturn rfl (Or.inl rfl) dX7_findSheaves_109 ⟨false, rfl, k⟩
    · have k := kb q
      refine z_aload_n 0 dX7_findSheaves_87 rfl rfl (Nat.le_of_ble_eq_true rfl) rfl ?_
      refine z_aload_n 1 dX7_findSheaves_88 rfl rfl (Nat.le_of_ble_eq_true rfl) rfl ?_
      refine z_aload_n 0 dX7_findSheaves_89 rfl rfl (Nat.le_of_ble_eq_true rfl) rfl ?_
      refine z_getF 7 14 (x := (l0 + 7)) fX7_31 rfl dX7_findSheaves_90 (by omega) rfl ?_
      refine z_iload_n 3 dX7_findSheaves_93 rfl rfl rfl ?_
      obtain ⟨i9, k⟩ := k
      refine z_lald (x := (h2 (l0 + 7) l3)) dX7_findSheaves_94 (by rw [zl7_7 w_l0]; exact i9) rfl rfl ?_
      refine z_iload_n 2 dX7_findSheaves_95 rfl rfl rfl ?_
      refine z_iload_n 3 dX7_findSheaves_96 rfl rfl rfl ?_
      refine z_callVi vX7_addSheaf kX7_64 dX7_findSheaves_97 rfl (zRo_d d) (as := [vr 4 l1, vl (h2 (l0 + 7) l3), vi l2, vi l3]) (rest := []) (Nat.le_of_ble_eq_true rfl) rfl rfl (zCi_mono (fun x3 h4 k => ?_) k)
      refine z_istore dX7_findSheaves_100 (Nat.le_of_ble_eq_true rfl) (L' := [some (vr 7 l0), some (vr 4 l1), some (vi l2), some (vi l3), some (vi x3)]) rfl rfl ?_
      refine z_iload dX7_findSheaves_102 rfl rfl ?_
      refine z_iconst dX7_findSheaves_104 rfl ?_
      obtain ⟨r1, ka, kb⟩ := k
      refine z_icmp_ne (tgt := 110) dX7_findSheaves_105 rfl r1 ⟨by decide, by decide⟩ rfl ⟨fun q => ?_, fun q => ?_⟩
      · have k := ka q
        refine z_aload_n 0 dX7_findSheaves_110 rfl rfl (Nat.le_of_ble_eq_true rfl) rfl ?_
        refine z_getF 7 13 (x := (l0 + 2)) fX7_15 rfl dX7_findSheaves_111 (by omega) rfl ?_
        refine z_iload_n 2 dX7_findSheaves_114 rfl rfl rfl ?_
        refine z_sipush dX7_findSheaves_115 rfl rfl ?_
        refine z_imul dX7_findSheaves_118 rfl ?_
        refine z_iload_n 3 dX7_findSheaves_119 rfl rfl rfl ?_
        refine z_iadd dX7_findSheaves_120 rfl ?_
        refine z_iload dX7_findSheaves_121 rfl rfl ?_
        obtain ⟨i9, k⟩ := k
        refine z_iast dX7_findSheaves_123 (by rw [zl7_2 w_l0]; exact i9) rfl ?_
        refine z_iinc dX7_findSheaves_124 rfl (Nat.le_of_ble_eq_true rfl) (L' := [some (vr 7 l0), some (vr 4 l1), some (vi l2), some (vi (l3 + 1)), some (vi x3)]) rfl rfl ?_
        refine z_goto (tgt := 61) dX7_findSheaves_127 rfl ?_
        exact z_sub (L' := [some (vr 7 l0), some (vr 4 l1), some (vi l2), some (vi (l3 + 1)), none]) (And.intro rfl (And.intro rfl (And.intro rfl (And.intro rfl trivial)))) k
      · have k := kb q
        refine z_iconst dX7_findSheaves_108 rfl ?_
        exact z_zreturn rfl (Or.inl rfl) dX7_findSheaves_109 ⟨false, rfl, k⟩
theorem eX7_findSheaves {G : zG} {d : Nat} {K : Bool → zH → Prop} {l0 : Int} {l1 : Int} {h : zH} (k : tX7_findSheaves_0 G d K l0 l1 h) : zCb G (d + 1) mX7_findSheaves [vr 7 l0, vr 4 l1] h K := z_entry (by decide +kernel) (Nat.le_of_ble_eq_true rfl) rfl k
def tX7_closeFrees_0 (G : zG) (d : Nat) (K : zH → Prop) (l0 : Int) (l1 : Int) (h : zH) : Prop := zTv G d mX7_closeFrees K 0 [some (vr 7 l0), some (vr 4 l1), none, none, none, none] [] h
def tX7_closeFrees_2 (G : zG) (d : Nat) (K : zH → Prop) (l0 : Int) (l1 : Int) (l2 : Int) (h : zH) : Prop := zTv G d mX7_closeFrees K 2 [some (vr 7 l0), some (vr 4 l1), some (vi l2), none, none, none] [] h
def tX7_closeFrees_27 (G : zG) (d : Nat) (K : zH → Prop) (l0 : Int) (l1 : Int) (l2 : Int) (h : zH) : Prop := zTv G d mX7_closeFrees K 27 [some (vr 7 l0), some (vr 4 l1), some (vi l2), none, none, none] [] h
def tX7_closeFrees_50 (G : zG) (d : Nat) (K : zH → Prop) (l0 : Int) (l1 : Int) (l2 : Int) (l3 : Int) (l5 : Int) (h : zH) : Prop := zTv G d mX7_closeFrees K 50 [some (vr 7 l0), some (vr 4 l1), some (vi l2), some (vl l3), none, some (vi l5)] [] h
theorem bX7_closeFrees_0 {G : zG} {d : Nat} {K : zH → Prop} {l0 : Int} {l1 : Int} {h : zH} (k : tX7_closeFrees_2 G d K l0 l1 0 h) : tX7_closeFrees_0 G d K l0 l1 h := by
  unfold tX7_closeFrees_0
  refine z_iconst dX7_closeFrees_0 rfl ?_
  refine z_istore_n 2 dX7_closeFrees_1 rfl (Nat.le_of_ble_eq_true rfl) (L' := [some (vr 7 l0), some (vr 4 l1), some (vi 0), none, none, none]) rfl rfl ?_
  exact z_sub (L' := [some (vr 7 l0), some (vr 4 l1), some (vi 0), none, none, none]) (And.intro rfl (And.intro rfl (And.intro rfl trivial))) k
theorem bX7_closeFrees_2 {G : zG} {d : Nat} {K : zH → Prop} {l0 : Int} {l1 : Int} {l2 : Int} {h : zH} (k : zR l2 ∧ zR (h l1 7) ∧ ((h l1 7) ≤ l2 → tX7_closeFrees_27 G d K l0 l1 0 h) ∧ (¬ (h l1 7) ≤ l2 → ((0 : Int) ≤ l2 ∧ l2 < 40) ∧ tX7_closeFrees_2 G d K l0 l1 (l2 + 1) (zup h (l0 + 6) l2 (zlshl 1 l2)))) : tX7_closeFrees_2 G d K l0 l1 l2 h := by
  unfold tX7_closeFrees_2
  refine z_know (fun zo zs zv => ?_)
  have w_l0 : zvok (vr 7 l0) := zv _ (List.mem_of_getElem? (i := 0) rfl)
  refine z_iload_n 2 dX7_closeFrees_2 rfl rfl rfl ?_
  refine z_aload_n 1 dX7_closeFrees_3 rfl rfl (Nat.le_of_ble_eq_true rfl) rfl ?_
  refine z_getI 4 (x := (h l1 7)) fX7_76 rfl dX7_closeFrees_4 rfl rfl ?_
  obtain ⟨r1, r2, ka, kb⟩ := k
  refine z_icmp_ge (tgt := 25) dX7_closeFrees_7 rfl r1 r2 rfl ⟨fun q => ?_, fun q => ?_⟩
  · have k := ka q
    refine z_iconst dX7_closeFrees_25 rfl ?_
    refine z_istore_n 2 dX7_closeFrees_26 rfl (Nat.le_of_ble_eq_true rfl) (L' := [some (vr 7 l0), some (vr 4 l1), some (vi 0), none, none, none]) rfl rfl ?_
    exact z_sub (L' := [some (vr 7 l0), some (vr 4 l1), some (vi 0), none, none, none]) (And.intro rfl (And.intro rfl (And.intro rfl trivial))) k
  · have k := kb q
    refine z_aload_n 0 dX7_closeFrees_10 rfl rfl (Nat.le_of_ble_eq_true rfl) rfl ?_
    refine z_getF 7 14 (x := (l0 + 6)) fX7_28 rfl dX7_closeFrees_11 (by omega) rfl ?_
    refine z_iload_n 2 dX7_closeFrees_14 rfl rfl rfl ?_
    refine z_lconst (x := 1) dX7_closeFrees_15 rfl rfl ?_
    refine z_iload_n 2 dX7_closeFrees_16 rfl rfl rfl ?_
    refine z_lshl dX7_closeFrees_17 rfl ?_
    obtain ⟨i9, k⟩ := k
    refine z_last dX7_closeFrees_18 (by rw [zl7_6 w_l0]; exact i9) rfl ?_
    refine z_iinc dX7_closeFrees_19 rfl (Nat.le_of_ble_eq_true rfl) (L' := [some (vr 7 l0), some (vr 4 l1), some (vi (l2 + 1)), none, none, none]) rfl rfl ?_
    refine z_goto (tgt := 2) dX7_closeFrees_22 rfl ?_
    exact z_sub (L' := [some (vr 7 l0), some (vr 4 l1), some (vi (l2 + 1)), none, none, none]) (And.intro rfl (And.intro rfl (And.intro rfl trivial))) k
theorem bX7_closeFrees_27 {G : zG} {d : Nat} {K : zH → Prop} {l0 : Int} {l1 : Int} {l2 : Int} {h : zH} (k : zR l2 ∧ zR (h l1 10) ∧ ((h l1 10) ≤ l2 → K h) ∧ (¬ (h l1 10) ≤ l2 → ((0 : Int) ≤ l2 ∧ l2 < 64) ∧ ((0 : Int) ≤ (h (l1 + 5) l2) ∧ (h (l1 + 5) l2) < 40) ∧ tX7_closeFrees_50 G d K l0 l1 l2 (h (l0 + 6) (h (l1 + 5) l2)) 0 h)) : tX7_closeFrees_27 G d K l0 l1 l2 h := by
  unfold tX7_closeFrees_27
  refine z_know (fun zo zs zv => ?_)
  have w_l0 : zvok (vr 7 l0) := zv _ (List.mem_of_getElem? (i := 0) rfl)
  have w_l1 : zvok (vr 4 l1) := zv _ (List.mem_of_getElem? (i := 1) rfl)
  refine z_iload_n 2 dX7_closeFrees_27 rfl rfl rfl ?_
  refine z_aload_n 1 dX7_closeFrees_28 rfl rfl (Nat.le_of_ble_eq_true rfl) rfl ?_
  refine z_getI 4 (x := (h l1 10)) fX7_79 rfl dX7_closeFrees_29 rfl rfl ?_
  obtain ⟨r1, r2, ka, kb⟩ := k
  refine z_icmp_ge (tgt := 103) dX7_closeFrees_32 rfl r1 r2 rfl ⟨fun q => ?_, fun q => ?_⟩
  · have k := ka q
    exact z_return rfl dX7_closeFrees_103 ⟨rfl, k⟩
  · have k := kb q
    refine z_aload_n 0 dX7_closeFrees_35 rfl rfl (Nat.le_of_ble_eq_true rfl) rfl ?_
    refine z_getF 7 14 (x := (l0 + 6)) fX7_28 rfl dX7_closeFrees_36 (by omega) rfl ?_
    refine z_aload_n 1 dX7_closeFrees_39 rfl rfl (Nat.le_of_ble_eq_true rfl) rfl ?_
    refine z_getF 4 13 (x := (l1 + 5)) fX7_82 rfl dX7_closeFrees_40 (by omega) rfl ?_
    refine z_iload_n 2 dX7_closeFrees_43 rfl rfl rfl ?_
    obtain ⟨i9, k⟩ := k
    refine z_iald (x := (h (l1 + 5) l2)) dX7_closeFrees_44 (by rw [zl4_5 w_l1]; exact i9) rfl rfl ?_
    obtain ⟨i9, k⟩ := k
    refine z_lald (x := (h (l0 + 6) (h (l1 + 5) l2))) dX7_closeFrees_45 (by rw [zl7_6 w_l0]; exact i9) rfl rfl ?_
    refine z_lstore_n 3 dX7_closeFrees_46 rfl (Nat.le_of_ble_eq_true rfl) (L' := [some (vr 7 l0), some (vr 4 l1), some (vi l2), some (vl (h (l0 + 6) (h (l1 + 5) l2))), none, none]) rfl rfl ?_
    refine z_iconst dX7_closeFrees_47 rfl ?_
    refine z_istore dX7_closeFrees_48 (Nat.le_of_ble_eq_true rfl) (L' := [some (vr 7 l0), some (vr 4 l1), some (vi l2), some (vl (h (l0 + 6) (h (l1 + 5) l2))), none, some (vi 0)]) rfl rfl ?_
    exact z_sub (L' := [some (vr 7 l0), some (vr 4 l1), some (vi l2), some (vl (h (l0 + 6) (h (l1 + 5) l2))), none, some (vi 0)]) (And.intro rfl (And.intro rfl (And.intro rfl (And.intro rfl (And.intro rfl trivial))))) k
theorem bX7_closeFrees_50 {G : zG} {d : Nat} {K : zH → Prop} {l0 : Int} {l1 : Int} {l2 : Int} {l3 : Int} {l5 : Int} {h : zH} (k : zR l5 ∧ zR (h l1 7) ∧ ((h l1 7) ≤ l5 → tX7_closeFrees_27 G d K l0 l1 (l2 + 1) h) ∧ (¬ (h l1 7) ≤ l5 → ((0 : Int) ≤ l5 ∧ l5 < 40) ∧ ((0 : Int) ≤ l2 ∧ l2 < 64) ∧ (¬ (zcmp (zland (zlushr (h (l0 + 6) l5) (h (l1 + 4) l2)) 1) 1) = 0 → tX7_closeFrees_50 G d K l0 l1 l2 l3 (l5 + 1) h) ∧ ((zcmp (zland (zlushr (h (l0 + 6) l5) (h (l1 + 4) l2)) 1) 1) = 0 → ((0 : Int) ≤ l5 ∧ l5 < 40) ∧ ((0 : Int) ≤ l5 ∧ l5 < 40) ∧ tX7_closeFrees_50 G d K l0 l1 l2 l3 (l5 + 1) (zup h (l0 + 6) l5 (zlor (h (l0 + 6) l5) l3))))) : tX7_closeFrees_50 G d K l0 l1 l2 l3 l5 h := by
  unfold tX7_closeFrees_50
  refine z_know (fun zo zs zv => ?_)
  have w_l0 : zvok (vr 7 l0) := zv _ (List.mem_of_getElem? (i := 0) rfl)
  have w_l1 : zvok (vr 4 l1) := zv _ (List.mem_of_getElem? (i := 1) rfl)
  refine z_iload dX7_closeFrees_50 rfl rfl ?_
  refine z_aload_n 1 dX7_closeFrees_52 rfl rfl (Nat.le_of_ble_eq_true rfl) rfl ?_
  refine z_getI 4 (x := (h l1 7)) fX7_76 rfl dX7_closeFrees_53 rfl rfl ?_
  obtain ⟨r1, r2, ka, kb⟩ := k
  refine z_icmp_ge (tgt := 97) dX7_closeFrees_56 rfl r1 r2 rfl ⟨fun q => ?_, fun q => ?_⟩
  · have k := ka q
    refine z_iinc dX7_closeFrees_97 rfl (Nat.le_of_ble_eq_true rfl) (L' := [some (vr 7 l0), some (vr 4 l1), some (vi (l2 + 1)), some (vl l3), none, some (vi l5)]) rfl rfl ?_
    refine z_goto (tgt := 27) dX7_closeFrees_100 rfl ?_
    exact z_sub (L' := [some (vr 7 l0), some (vr 4 l1), some (vi (l2 + 1)), none, none, none]) (And.intro rfl (And.intro rfl (And.intro rfl trivial))) k
  · have k := kb q
    refine z_aload_n 0 dX7_closeFrees_59 rfl rfl (Nat.le_of_ble_eq_true rfl) rfl ?_
    refine z_getF 7 14 (x := (l0 + 6)) fX7_28 rfl dX7_closeFrees_60 (by omega) rfl ?_
    refine z_iload dX7_closeFrees_63 rfl rfl ?_
    obtain ⟨i9, k⟩ := k
    refine z_lald (x := (h (l0 + 6) l5)) dX7_closeFrees_65 (by rw [zl7_6 w_l0]; exact i9) rfl rfl ?_
    refine z_aload_n 1 dX7_closeFrees_66 rfl rfl (Nat.le_of_ble_eq_true rfl) rfl ?_
    refine z_getF 4 13 (x := (l1 + 4)) fX7_85 rfl dX7_closeFrees_67 (by omega) rfl ?_
    refine z_iload_n 2 dX7_closeFrees_70 rfl rfl rfl ?_
    obtain ⟨i9, k⟩ := k
    refine z_iald (x := (h (l1 + 4) l2)) dX7_closeFrees_71 (by rw [zl4_4 w_l1]; exact i9) rfl rfl ?_
    refine z_lushr dX7_closeFrees_72 rfl ?_
    refine z_lconst (x := 1) dX7_closeFrees_73 rfl rfl ?_
    refine z_land dX7_closeFrees_74 rfl ?_
    refine z_lconst (x := 1) dX7_closeFrees_75 rfl rfl ?_
    refine z_lcmp dX7_closeFrees_76 rfl ?_
    obtain ⟨ka, kb⟩ := k
    refine z_if_ne (tgt := 91) dX7_closeFrees_77 rfl (zcmp_R _ _) rfl ⟨fun q => ?_, fun q => ?_⟩
    · have k := ka q
      refine z_iinc dX7_closeFrees_91 rfl (Nat.le_of_ble_eq_true rfl) (L' := [some (vr 7 l0), some (vr 4 l1), some (vi l2), some (vl l3), none, some (vi (l5 + 1))]) rfl rfl ?_
      refine z_goto (tgt := 50) dX7_closeFrees_94 rfl ?_
      exact z_sub (L' := [some (vr 7 l0), some (vr 4 l1), some (vi l2), some (vl l3), none, some (vi (l5 + 1))]) (And.intro rfl (And.intro rfl (And.intro rfl (And.intro rfl (And.intro rfl trivial))))) k
    · have k := kb q
      refine z_aload_n 0 dX7_closeFrees_80 rfl rfl (Nat.le_of_ble_eq_true rfl) rfl ?_
      refine z_getF 7 14 (x := (l0 + 6)) fX7_28 rfl dX7_closeFrees_81 (by omega) rfl ?_
      refine z_iload dX7_closeFrees_84 rfl rfl ?_
      refine z_dup2 dX7_closeFrees_86 (fun q => by cases q) (fun q => by cases q) rfl ?_
      obtain ⟨i9, k⟩ := k
      refine z_lald (x := (h (l0 + 6) l5)) dX7_closeFrees_87 (by rw [zl7_6 w_l0]; exact i9) rfl rfl ?_
      refine z_lload_n 3 dX7_closeFrees_88 rfl rfl rfl ?_
      refine z_lor dX7_closeFrees_89 rfl ?_
      obtain ⟨i9, k⟩ := k
      refine z_last dX7_closeFrees_90 (by rw [zl7_6 w_l0]; exact i9) rfl ?_
      refine z_iinc dX7_closeFrees_91 rfl (Nat.le_of_ble_eq_true rfl) (L' := [some (vr 7 l0), some (vr 4 l1), some (vi l2), some (vl l3), none, some (vi (l5 + 1))]) rfl rfl ?_
      refine z_goto (tgt := 50) dX7_closeFrees_94 rfl ?_
      exact z_sub (L' := [some (vr 7 l0), some (vr 4 l1), some (vi l2), some (vl l3), none, some (vi (l5 + 1))]) (And.intro rfl (And.intro rfl (And.intro rfl (And.intro rfl (And.intro rfl trivial))))) k
theorem eX7_closeFrees {G : zG} {d : Nat} {K : zH → Prop} {l0 : Int} {l1 : Int} {h : zH} (k : tX7_closeFrees_0 G d K l0 l1 h) : zCv G d mX7_closeFrees [vr 7 l0, vr 4 l1] h K := z_entry (by decide +kernel) (Nat.le_of_ble_eq_true rfl) rfl k
def tX7_findTargets_0 (G : zG) (d : Nat) (K : zH → Prop) (l0 : Int) (l1 : Int) (l2 : Int) (h : zH) : Prop := zTv G (d + 1) mX7_findTargets K 0 [some (vr 7 l0), some (vr 4 l1), some (vi l2), none, none, none, none] [] h
def tX7_findTargets_10 (G : zG) (d : Nat) (K : zH → Prop) (l0 : Int) (l1 : Int) (l2 : Int) (l3 : Int) (h : zH) : Prop := zTv G (d + 1) mX7_findTargets K 10 [some (vr 7 l0), some (vr 4 l1), some (vi l2), some (vi l3), none, none, none] [] h
def tX7_findTargets_57 (G : zG) (d : Nat) (K : zH → Prop) (l0 : Int) (l1 : Int) (l2 : Int) (l3 : Int) (l4 : Int) (l6 : Int) (h : zH) : Prop := zTv G (d + 1) mX7_findTargets K 57 [some (vr 7 l0), some (vr 4 l1), some (vi l2), some (vi l3), some (vl l4), none, some (vi l6)] [] h
theorem bX7_findTargets_0 {G : zG} {d : Nat} {K : zH → Prop} {l0 : Int} {l1 : Int} {l2 : Int} {h : zH} (k : zCv G d mJ7_fill_d0a16 [vr 14 (l0 + 7), vl 0] h (fun h2 => tX7_findTargets_10 G d K l0 l1 l2 0 h2)) : tX7_findTargets_0 G d K l0 l1 l2 h := by
  unfold tX7_findTargets_0
  refine z_aload_n 0 dX7_findTargets_0 rfl rfl (Nat.le_of_ble_eq_true rfl) rfl ?_
  refine z_getF 7 14 (x := (l0 + 7)) fX7_31 rfl dX7_findTargets_1 (by omega) rfl ?_
  refine z_lconst (x := 0) dX7_findTargets_4 rfl rfl ?_
  refine z_callSv sJ7_fill_d0a16 kX7_88 dX7_findTargets_5 rfl (zRo_d d) (as := [vr 14 (l0 + 7), vl 0]) (rest := []) (Nat.le_of_ble_eq_true rfl) rfl rfl (zCv_mono (fun h2 k => ?_) k)
  refine z_iconst dX7_findTargets_8 rfl ?_
  refine z_istore_n 3 dX7_findTargets_9 rfl (Nat.le_of_ble_eq_true rfl) (L' := [some (vr 7 l0), some (vr 4 l1), some (vi l2), some (vi 0), none, none, none]) rfl rfl ?_
  exact z_sub (L' := [some (vr 7 l0), some (vr 4 l1), some (vi l2), some (vi 0), none, none, none]) (And.intro rfl (And.intro rfl (And.intro rfl (And.intro rfl trivial)))) k
theorem bX7_findTargets_10 {G : zG} {d : Nat} {K : zH → Prop} {l0 : Int} {l1 : Int} {l2 : Int} {l3 : Int} {h : zH} (k : zR l3 ∧ zR (h l1 9) ∧ ((h l1 9) ≤ l3 → K h) ∧ (¬ (h l1 9) ≤ l3 → ((0 : Int) ≤ l2 ∧ l2 < 40) ∧ ((0 : Int) ≤ l3 ∧ l3 < 160) ∧ (¬ (zcmp (zland (zlushr (h (l0 + 1) l2) (h (l1 + 1) l3)) 1) 0) = 0 → ((0 : Int) ≤ l3 ∧ l3 < 160) ∧ ((0 : Int) ≤ (h (l1 + 2) l3) ∧ (h (l1 + 2) l3) < 40) ∧ tX7_findTargets_57 G d K l0 l1 l2 l3 (h (l0 + 6) (h (l1 + 2) l3)) 0 h) ∧ ((zcmp (zland (zlushr (h (l0 + 1) l2) (h (l1 + 1) l3)) 1) 0) = 0 → tX7_findTargets_10 G d K l0 l1 l2 (l3 + 1) h))) : tX7_findTargets_10 G d K l0 l1 l2 l3 h := by
  unfold tX7_findTargets_10
  refine z_know (fun zo zs zv => ?_)
  have w_l0 : zvok (vr 7 l0) := zv _ (List.mem_of_getElem? (i := 0) rfl)
  have w_l1 : zvok (vr 4 l1) := zv _ (List.mem_of_getElem? (i := 1) rfl)
  refine z_iload_n 3 dX7_findTargets_10 rfl rfl rfl ?_
  refine z_aload_n 1 dX7_findTargets_11 rfl rfl (Nat.le_of_ble_eq_true rfl) rfl ?_
  refine z_getI 4 (x := (h l1 9)) fX7_94 rfl dX7_findTargets_12 rfl rfl ?_
  obtain ⟨r1, r2, ka, kb⟩ := k
  refine z_icmp_ge (tgt := 100) dX7_findTargets_15 rfl r1 r2 rfl ⟨fun q => ?_, fun q => ?_⟩
  · have k := ka q
    exact z_return rfl dX7_findTargets_100 ⟨rfl, k⟩
  · have k := kb q
    refine z_aload_n 0 dX7_findTargets_18 rfl rfl (Nat.le_of_ble_eq_true rfl) rfl ?_
    refine z_getF 7 14 (x := (l0 + 1)) fX7_9 rfl dX7_findTargets_19 (by omega) rfl ?_
    refine z_iload_n 2 dX7_findTargets_22 rfl rfl rfl ?_
    obtain ⟨i9, k⟩ := k
    refine z_lald (x := (h (l0 + 1) l2)) dX7_findTargets_23 (by rw [zl7_1 w_l0]; exact i9) rfl rfl ?_
    refine z_aload_n 1 dX7_findTargets_24 rfl rfl (Nat.le_of_ble_eq_true rfl) rfl ?_
    refine z_getF 4 13 (x := (l1 + 1)) fX7_97 rfl dX7_findTargets_25 (by omega) rfl ?_
    refine z_iload_n 3 dX7_findTargets_28 rfl rfl rfl ?_
    obtain ⟨i9, k⟩ := k
    refine z_iald (x := (h (l1 + 1) l3)) dX7_findTargets_29 (by rw [zl4_1 w_l1]; exact i9) rfl rfl ?_
    refine z_lushr dX7_findTargets_30 rfl ?_
    refine z_lconst (x := 1) dX7_findTargets_31 rfl rfl ?_
    refine z_land dX7_findTargets_32 rfl ?_
    refine z_lconst (x := 0) dX7_findTargets_33 rfl rfl ?_
    refine z_lcmp dX7_findTargets_34 rfl ?_
    obtain ⟨ka, kb⟩ := k
    refine z_if_ne (tgt := 41) dX7_findTargets_35 rfl (zcmp_R _ _) rfl ⟨fun q => ?_, fun q => ?_⟩
    · have k := ka q
      refine z_aload_n 0 dX7_findTargets_41 rfl rfl (Nat.le_of_ble_eq_true rfl) rfl ?_
      refine z_getF 7 14 (x := (l0 + 6)) fX7_28 rfl dX7_findTargets_42 (by omega) rfl ?_
      refine z_aload_n 1 dX7_findTargets_45 rfl rfl (Nat.le_of_ble_eq_true rfl) rfl ?_
      refine z_getF 4 13 (x := (l1 + 2)) fX7_100 rfl dX7_findTargets_46 (by omega) rfl ?_
      refine z_iload_n 3 dX7_findTargets_49 rfl rfl rfl ?_
      obtain ⟨i9, k⟩ := k
      refine z_iald (x := (h (l1 + 2) l3)) dX7_findTargets_50 (by rw [zl4_2 w_l1]; exact i9) rfl rfl ?_
      obtain ⟨i9, k⟩ := k
      refine z_lald (x := (h (l0 + 6) (h (l1 + 2) l3))) dX7_findTargets_51 (by rw [zl7_6 w_l0]; exact i9) rfl rfl ?_
      refine z_lstore dX7_findTargets_52 (Nat.le_of_ble_eq_true rfl) (L' := [some (vr 7 l0), some (vr 4 l1), some (vi l2), some (vi l3), some (vl (h (l0 + 6) (h (l1 + 2) l3))), none, none]) rfl rfl ?_
      refine z_iconst dX7_findTargets_54 rfl ?_
      refine z_istore dX7_findTargets_55 (Nat.le_of_ble_eq_true rfl) (L' := [some (vr 7 l0), some (vr 4 l1), some (vi l2), some (vi l3), some (vl (h (l0 + 6) (h (l1 + 2) l3))), none, some (vi 0)]) rfl rfl ?_
      exact z_sub (L' := [some (vr 7 l0), some (vr 4 l1), some (vi l2), some (vi l3), some (vl (h (l0 + 6) (h (l1 + 2) l3))), none, some (vi 0)]) (And.intro rfl (And.intro rfl (And.intro rfl (And.intro rfl (And.intro rfl (And.intro rfl trivial)))))) k
    · have k := kb q
      refine z_goto (tgt := 94) dX7_findTargets_38 rfl ?_
      refine z_iinc dX7_findTargets_94 rfl (Nat.le_of_ble_eq_true rfl) (L' := [some (vr 7 l0), some (vr 4 l1), some (vi l2), some (vi (l3 + 1)), none, none, none]) rfl rfl ?_
      refine z_goto (tgt := 10) dX7_findTargets_97 rfl ?_
      exact z_sub (L' := [some (vr 7 l0), some (vr 4 l1), some (vi l2), some (vi (l3 + 1)), none, none, none]) (And.intro rfl (And.intro rfl (And.intro rfl (And.intro rfl trivial)))) k
theorem bX7_findTargets_57 {G : zG} {d : Nat} {K : zH → Prop} {l0 : Int} {l1 : Int} {l2 : Int} {l3 : Int} {l4 : Int} {l6 : Int} {h : zH} (k : zR l6 ∧ zR (h l0 7) ∧ ((h l0 7) ≤ l6 → tX7_findTargets_10 G d K l0 l1 l2 (l3 + 1) h) ∧ (¬ (h l0 7) ≤ l6 → zCb G d mX4_edgeHas [vr 4 l1, vi l3, vi l6] h (fun x1 h2 => (x1 = false → tX7_findTargets_57 G d K l0 l1 l2 l3 l4 (l6 + 1) h2) ∧ (x1 = true → ((0 : Int) ≤ l6 ∧ l6 < 128) ∧ ((0 : Int) ≤ l6 ∧ l6 < 128) ∧ tX7_findTargets_57 G d K l0 l1 l2 l3 l4 (l6 + 1) (zup h2 (l0 + 7) l6 (zlor (h2 (l0 + 7) l6) l4)))))) : tX7_findTargets_57 G d K l0 l1 l2 l3 l4 l6 h := by
  unfold tX7_findTargets_57
  refine z_know (fun zo zs zv => ?_)
  have w_l0 : zvok (vr 7 l0) := zv _ (List.mem_of_getElem? (i := 0) rfl)
  refine z_iload dX7_findTargets_57 rfl rfl ?_
  refine z_aload_n 0 dX7_findTargets_59 rfl rfl (Nat.le_of_ble_eq_true rfl) rfl ?_
  refine z_getI 7 (x := (h l0 7)) fX7_52 rfl dX7_findTargets_60 rfl rfl ?_
  obtain ⟨r1, r2, ka, kb⟩ := k
  refine z_icmp_ge (tgt := 94) dX7_findTargets_63 rfl r1 r2 rfl ⟨fun q => ?_, fun q => ?_⟩
  · have k := ka q
    refine z_iinc dX7_findTargets_94 rfl (Nat.le_of_ble_eq_true rfl) (L' := [some (vr 7 l0), some (vr 4 l1), some (vi l2), some (vi (l3 + 1)), some (vl l4), none, some (vi l6)]) rfl rfl ?_
    refine z_goto (tgt := 10) dX7_findTargets_97 rfl ?_
    exact z_sub (L' := [some (vr 7 l0), some (vr 4 l1), some (vi l2), some (vi (l3 + 1)), none, none, none]) (And.intro rfl (And.intro rfl (And.intro rfl (And.intro rfl trivial)))) k
  · have k := kb q
    refine z_aload_n 1 dX7_findTargets_66 rfl rfl (Nat.le_of_ble_eq_true rfl) rfl ?_
    refine z_iload_n 3 dX7_findTargets_67 rfl rfl rfl ?_
    refine z_iload dX7_findTargets_68 rfl rfl ?_
    refine z_callVb vX4_edgeHas kX7_103 dX7_findTargets_70 rfl (zRo_d d) (as := [vi l3, vi l6]) (rest := []) (Nat.le_of_ble_eq_true rfl) rfl rfl (zCb_mono (fun x1 h2 k => ?_) k)
    obtain ⟨ka, kb⟩ := k
    refine z_ifb_eq (tgt := 88) dX7_findTargets_73 rfl rfl ⟨fun q => ?_, fun q => ?_⟩
    · have k := ka q
      refine z_iinc dX7_findTargets_88 rfl (Nat.le_of_ble_eq_true rfl) (L' := [some (vr 7 l0), some (vr 4 l1), some (vi l2), some (vi l3), some (vl l4), none, some (vi (l6 + 1))]) rfl rfl ?_
      refine z_goto (tgt := 57) dX7_findTargets_91 rfl ?_
      exact z_sub (L' := [some (vr 7 l0), some (vr 4 l1), some (vi l2), some (vi l3), some (vl l4), none, some (vi (l6 + 1))]) (And.intro rfl (And.intro rfl (And.intro rfl (And.intro rfl (And.intro rfl (And.intro rfl trivial)))))) k
    · have k := kb q
      refine z_aload_n 0 dX7_findTargets_76 rfl rfl (Nat.le_of_ble_eq_true rfl) rfl ?_
      refine z_getF 7 14 (x := (l0 + 7)) fX7_31 rfl dX7_findTargets_77 (by omega) rfl ?_
      refine z_iload dX7_findTargets_80 rfl rfl ?_
      refine z_dup2 dX7_findTargets_82 (fun q => by cases q) (fun q => by cases q) rfl ?_
      obtain ⟨i9, k⟩ := k
      refine z_lald (x := (h2 (l0 + 7) l6)) dX7_findTargets_83 (by rw [zl7_7 w_l0]; exact i9) rfl rfl ?_
      refine z_lload dX7_findTargets_84 rfl rfl ?_
      refine z_lor dX7_findTargets_86 rfl ?_
      obtain ⟨i9, k⟩ := k
      refine z_last dX7_findTargets_87 (by rw [zl7_7 w_l0]; exact i9) rfl ?_
      refine z_iinc dX7_findTargets_88 rfl (Nat.le_of_ble_eq_true rfl) (L' := [some (vr 7 l0), some (vr 4 l1), some (vi l2), some (vi l3), some (vl l4), none, some (vi (l6 + 1))]) rfl rfl ?_
      refine z_goto (tgt := 57) dX7_findTargets_91 rfl ?_
      exact z_sub (L' := [some (vr 7 l0), some (vr 4 l1), some (vi l2), some (vi l3), some (vl l4), none, some (vi (l6 + 1))]) (And.intro rfl (And.intro rfl (And.intro rfl (And.intro rfl (And.intro rfl (And.intro rfl trivial)))))) k
theorem eX7_findTargets {G : zG} {d : Nat} {K : zH → Prop} {l0 : Int} {l1 : Int} {l2 : Int} {h : zH} (k : tX7_findTargets_0 G d K l0 l1 l2 h) : zCv G (d + 1) mX7_findTargets [vr 7 l0, vr 4 l1, vi l2] h K := z_entry (by decide +kernel) (Nat.le_of_ble_eq_true rfl) rfl k
def tX7_sheafWith_0 (G : zG) (d : Nat) (K : Int → zH → Prop) (l0 : Int) (l1 : Int) (h : zH) : Prop := zTi G d mX7_sheafWith K 0 [some (vr 7 l0), some (vl l1), none, none] [] h
def tX7_sheafWith_2 (G : zG) (d : Nat) (K : Int → zH → Prop) (l0 : Int) (l1 : Int) (l3 : Int) (h : zH) : Prop := zTi G d mX7_sheafWith K 2 [some (vr 7 l0), some (vl l1), none, some (vi l3)] [] h
theorem bX7_sheafWith_0 {G : zG} {d : Nat} {K : Int → zH → Prop} {l0 : Int} {l1 : Int} {h : zH} (k : tX7_sheafWith_2 G d K l0 l1 0 h) : tX7_sheafWith_0 G d K l0 l1 h := by
  unfold tX7_sheafWith_0
  refine z_iconst dX7_sheafWith_0 rfl ?_
  refine z_istore_n 3 dX7_sheafWith_1 rfl (Nat.le_of_ble_eq_true rfl) (L' := [some (vr 7 l0), some (vl l1), none, some (vi 0)]) rfl rfl ?_
  exact z_sub (L' := [some (vr 7 l0), some (vl l1), none, some (vi 0)]) (And.intro rfl (And.intro rfl (And.intro rfl trivial))) k
theorem bX7_sheafWith_2 {G : zG} {d : Nat} {K : Int → zH → Prop} {l0 : Int} {l1 : Int} {l3 : Int} {h : zH} (k : zR l3 ∧ zR (h l0 0) ∧ ((h l0 0) ≤ l3 → K (-1) h) ∧ (¬ (h l0 0) ≤ l3 → ((0 : Int) ≤ l3 ∧ l3 < 40) ∧ (¬ (zcmp (h (l0 + 1) l3) l1) = 0 → tX7_sheafWith_2 G d K l0 l1 (l3 + 1) h) ∧ ((zcmp (h (l0 + 1) l3) l1) = 0 → K l3 h))) : tX7_sheafWith_2 G d K l0 l1 l3 h := by
  unfold tX7_sheafWith_2
  refine z_know (fun zo zs zv => ?_)
  have w_l0 : zvok (vr 7 l0) := zv _ (List.mem_of_getElem? (i := 0) rfl)
  refine z_iload_n 3 dX7_sheafWith_2 rfl rfl rfl ?_
  refine z_aload_n 0 dX7_sheafWith_3 rfl rfl (Nat.le_of_ble_eq_true rfl) rfl ?_
  refine z_getI 7 (x := (h l0 0)) fX7_57 rfl dX7_sheafWith_4 rfl rfl ?_
  obtain ⟨r1, r2, ka, kb⟩ := k
  refine z_icmp_ge (tgt := 29) dX7_sheafWith_7 rfl r1 r2 rfl ⟨fun q => ?_, fun q => ?_⟩
  · have k := ka q
    refine z_iconst dX7_sheafWith_29 rfl ?_
    exact z_ireturn rfl dX7_sheafWith_30 ⟨_, rfl, k⟩
  · have k := kb q
    refine z_aload_n 0 dX7_sheafWith_10 rfl rfl (Nat.le_of_ble_eq_true rfl) rfl ?_
    refine z_getF 7 14 (x := (l0 + 1)) fX7_9 rfl dX7_sheafWith_11 (by omega) rfl ?_
    refine z_iload_n 3 dX7_sheafWith_14 rfl rfl rfl ?_
    obtain ⟨i9, k⟩ := k
    refine z_lald (x := (h (l0 + 1) l3)) dX7_sheafWith_15 (by rw [zl7_1 w_l0]; exact i9) rfl rfl ?_
    refine z_lload_n 1 dX7_sheafWith_16 rfl rfl rfl ?_
    refine z_lcmp dX7_sheafWith_17 rfl ?_
    obtain ⟨ka, kb⟩ := k
    refine z_if_ne (tgt := 23) dX7_sheafWith_18 rfl (zcmp_R _ _) rfl ⟨fun q => ?_, fun q => ?_⟩
    · have k := ka q
      refine z_iinc dX7_sheafWith_23 rfl (Nat.le_of_ble_eq_true rfl) (L' := [some (vr 7 l0), some (vl l1), none, some (vi (l3 + 1))]) rfl rfl ?_
      refine z_goto (tgt := 2) dX7_sheafWith_26 rfl ?_
      exact z_sub (L' := [some (vr 7 l0), some (vl l1), none, some (vi (l3 + 1))]) (And.intro rfl (And.intro rfl (And.intro rfl trivial))) k
    · have k := kb q
      refine z_iload_n 3 dX7_sheafWith_21 rfl rfl rfl ?_
      exact z_ireturn rfl dX7_sheafWith_22 ⟨_, rfl, k⟩
theorem eX7_sheafWith {G : zG} {d : Nat} {K : Int → zH → Prop} {l0 : Int} {l1 : Int} {h : zH} (k : tX7_sheafWith_0 G d K l0 l1 h) : zCi G d mX7_sheafWith [vr 7 l0, vl l1] h K := z_entry (by decide +kernel) (Nat.le_of_ble_eq_true rfl) rfl k
def tX7_addSheaf_0 (G : zG) (d : Nat) (K : Int → zH → Prop) (l0 : Int) (l1 : Int) (l2 : Int) (l4 : Int) (l5 : Int) (h : zH) : Prop := zTi G d mX7_addSheaf K 0 [some (vr 7 l0), some (vr 4 l1), some (vl l2), none, some (vi l4), some (vi l5), none] [] h
theorem bX7_addSheaf_0 {G : zG} {d : Nat} {K : Int → zH → Prop} {l0 : Int} {l1 : Int} {l2 : Int} {l4 : Int} {l5 : Int} {h : zH} (k : zR (h l0 0) ∧ ((h l0 0) < 40 → ((0 : Int) ≤ (h l0 0) ∧ (h l0 0) < 40) ∧ ((0 : Int) ≤ (h l0 0) ∧ (h l0 0) < 40) ∧ ((0 : Int) ≤ (h l0 0) ∧ (h l0 0) < 40) ∧ zR l4 ∧ (0 ≤ l4 → ((0 : Int) ≤ l4 ∧ l4 < 40) ∧ ((0 : Int) ≤ (h l0 0) ∧ (h l0 0) < 40) ∧ ((zcmp (zland l2 ((zup (zup (zup (zup (zup h l0 0 ((h l0 0) + 1)) (l0 + 1) (h l0 0) l2) (l0 + 3) (h l0 0) l4) (l0 + 4) (h l0 0) l5) (l0 + 5) (h l0 0) (((zup (zup (zup (zup h l0 0 ((h l0 0) + 1)) (l0 + 1) (h l0 0) l2) (l0 + 3) (h l0 0) l4) (l0 + 4) (h l0 0) l5) (l0 + 5) l4) + 1)) l1 8)) 0) = 0 → K (h l0 0) (zup (zup (zup (zup (zup h l0 0 ((h l0 0) + 1)) (l0 + 1) (h l0 0) l2) (l0 + 3) (h l0 0) l4) (l0 + 4) (h l0 0) l5) (l0 + 5) (h l0 0) (((zup (zup (zup (zup h l0 0 ((h l0 0) + 1)) (l0 + 1) (h l0 0) l2) (l0 + 3) (h l0 0) l4) (l0 + 4) (h l0 0) l5) (l0 + 5) l4) + 1))) ∧ (¬ (zcmp (zland l2 ((zup (zup (zup (zup (zup h l0 0 ((h l0 0) + 1)) (l0 + 1) (h l0 0) l2) (l0 + 3) (h l0 0) l4) (l0 + 4) (h l0 0) l5) (l0 + 5) (h l0 0) (((zup (zup (zup (zup h l0 0 ((h l0 0) + 1)) (l0 + 1) (h l0 0) l2) (l0 + 3) (h l0 0) l4) (l0 + 4) (h l0 0) l5) (l0 + 5) l4) + 1)) l1 8)) 0) = 0 → K (h l0 0) (zup (zup (zup (zup (zup (zup h l0 0 ((h l0 0) + 1)) (l0 + 1) (h l0 0) l2) (l0 + 3) (h l0 0) l4) (l0 + 4) (h l0 0) l5) (l0 + 5) (h l0 0) (((zup (zup (zup (zup h l0 0 ((h l0 0) + 1)) (l0 + 1) (h l0 0) l2) (l0 + 3) (h l0 0) l4) (l0 + 4) (h l0 0) l5) (l0 + 5) l4) + 1)) l0 6 (zlor ((zup (zup (zup (zup (zup h l0 0 ((h l0 0) + 1)) (l0 + 1) (h l0 0) l2) (l0 + 3) (h l0 0) l4) (l0 + 4) (h l0 0) l5) (l0 + 5) (h l0 0) (((zup (zup (zup (zup h l0 0 ((h l0 0) + 1)) (l0 + 1) (h l0 0) l2) (l0 + 3) (h l0 0) l4) (l0 + 4) (h l0 0) l5) (l0 + 5) l4) + 1)) l0 6) (zlshl 1 (h l0 0)))))) ∧ (¬ 0 ≤ l4 → ((0 : Int) ≤ (h l0 0) ∧ (h l0 0) < 40) ∧ ((zcmp (zland l2 ((zup (zup (zup (zup (zup h l0 0 ((h l0 0) + 1)) (l0 + 1) (h l0 0) l2) (l0 + 3) (h l0 0) l4) (l0 + 4) (h l0 0) l5) (l0 + 5) (h l0 0) 0) l1 8)) 0) = 0 → K (h l0 0) (zup (zup (zup (zup (zup h l0 0 ((h l0 0) + 1)) (l0 + 1) (h l0 0) l2) (l0 + 3) (h l0 0) l4) (l0 + 4) (h l0 0) l5) (l0 + 5) (h l0 0) 0)) ∧ (¬ (zcmp (zland l2 ((zup (zup (zup (zup (zup h l0 0 ((h l0 0) + 1)) (l0 + 1) (h l0 0) l2) (l0 + 3) (h l0 0) l4) (l0 + 4) (h l0 0) l5) (l0 + 5) (h l0 0) 0) l1 8)) 0) = 0 → K (h l0 0) (zup (zup (zup (zup (zup (zup h l0 0 ((h l0 0) + 1)) (l0 + 1) (h l0 0) l2) (l0 + 3) (h l0 0) l4) (l0 + 4) (h l0 0) l5) (l0 + 5) (h l0 0) 0) l0 6 (zlor ((zup (zup (zup (zup (zup h l0 0 ((h l0 0) + 1)) (l0 + 1) (h l0 0) l2) (l0 + 3) (h l0 0) l4) (l0 + 4) (h l0 0) l5) (l0 + 5) (h l0 0) 0) l0 6) (zlshl 1 (h l0 0))))))) ∧ (¬ (h l0 0) < 40 → K (-1) h)) : tX7_addSheaf_0 G d K l0 l1 l2 l4 l5 h := by
  unfold tX7_addSheaf_0
  refine z_know (fun zo zs zv => ?_)
  have w_l0 : zvok (vr 7 l0) := zv _ (List.mem_of_getElem? (i := 0) rfl)
  refine z_aload_n 0 dX7_addSheaf_0 rfl rfl (Nat.le_of_ble_eq_true rfl) rfl ?_
  refine z_getI 7 (x := (h l0 0)) fX7_57 rfl dX7_addSheaf_1 rfl rfl ?_
  refine z_bipush dX7_addSheaf_4 rfl rfl ?_
  obtain ⟨r1, ka, kb⟩ := k
  refine z_icmp_lt (tgt := 11) dX7_addSheaf_6 rfl r1 ⟨by decide, by decide⟩ rfl ⟨fun q => ?_, fun q => ?_⟩
  · have k := ka q
    refine z_aload_n 0 dX7_addSheaf_11 rfl rfl (Nat.le_of_ble_eq_true rfl) rfl ?_
    refine z_getI 7 (x := (h l0 0)) fX7_57 rfl dX7_addSheaf_12 rfl rfl ?_
    refine z_istore dX7_addSheaf_15 (Nat.le_of_ble_eq_true rfl) (L' := [some (vr 7 l0), some (vr 4 l1), some (vl l2), none, some (vi l4), some (vi l5), some (vi (h l0 0))]) rfl rfl ?_
    refine z_aload_n 0 dX7_addSheaf_17 rfl rfl (Nat.le_of_ble_eq_true rfl) rfl ?_
    refine z_dup dX7_addSheaf_18 (fun q => by cases q) rfl ?_
    refine z_getI 7 (x := (h l0 0)) fX7_57 rfl dX7_addSheaf_19 rfl rfl ?_
    refine z_iconst dX7_addSheaf_22 rfl ?_
    refine z_iadd dX7_addSheaf_23 rfl ?_
    refine z_putI 7 gX7_57 dX7_addSheaf_24 rfl ?_
    refine z_aload_n 0 dX7_addSheaf_27 rfl rfl (Nat.le_of_ble_eq_true rfl) rfl ?_
    refine z_getF 7 14 (x := (l0 + 1)) fX7_9 rfl dX7_addSheaf_28 (by omega) rfl ?_
    refine z_iload dX7_addSheaf_31 rfl rfl ?_
    refine z_lload_n 2 dX7_addSheaf_33 rfl rfl rfl ?_
    obtain ⟨i9, k⟩ := k
    refine z_last dX7_addSheaf_34 (by rw [zl7_1 w_l0]; exact i9) rfl ?_
    refine z_aload_n 0 dX7_addSheaf_35 rfl rfl (Nat.le_of_ble_eq_true rfl) rfl ?_
    refine z_getF 7 13 (x := (l0 + 3)) fX7_19 rfl dX7_addSheaf_36 (by omega) rfl ?_
    refine z_iload dX7_addSheaf_39 rfl rfl ?_
    refine z_iload dX7_addSheaf_41 rfl rfl ?_
    obtain ⟨i9, k⟩ := k
    refine z_iast dX7_addSheaf_43 (by rw [zl7_3 w_l0]; exact i9) rfl ?_
    refine z_aload_n 0 dX7_addSheaf_44 rfl rfl (Nat.le_of_ble_eq_true rfl) rfl ?_
    refine z_getF 7 13 (x := (l0 + 4)) fX7_22 rfl dX7_addSheaf_45 (by omega) rfl ?_
    refine z_iload dX7_addSheaf_48 rfl rfl ?_
    refine z_iload dX7_addSheaf_50 rfl rfl ?_
    obtain ⟨i9, k⟩ := k
    refine z_iast dX7_addSheaf_52 (by rw [zl7_4 w_l0]; exact i9) rfl ?_
    refine z_aload_n 0 dX7_addSheaf_53 rfl rfl (Nat.le_of_ble_eq_true rfl) rfl ?_
    refine z_getF 7 13 (x := (l0 + 5)) fX7_25 rfl dX7_addSheaf_54 (by omega) rfl ?_
    refine z_iload dX7_addSheaf_57 rfl rfl ?_
    refine z_iload dX7_addSheaf_59 rfl rfl ?_
    obtain ⟨r1, ka, kb⟩ := k
    refine z_if_ge (tgt := 68) dX7_addSheaf_61 rfl r1 rfl ⟨fun q => ?_, fun q => ?_⟩
    · have k := ka q
      refine z_aload_n 0 dX7_addSheaf_68 rfl rfl (Nat.le_of_ble_eq_true rfl) rfl ?_
      refine z_getF 7 13 (x := (l0 + 5)) fX7_25 rfl dX7_addSheaf_69 (by omega) rfl ?_
      refine z_iload dX7_addSheaf_72 rfl rfl ?_
      obtain ⟨i9, k⟩ := k
      refine z_iald (x := ((zup (zup (zup (zup h l0 0 ((h l0 0) + 1)) (l0 + 1) (h l0 0) l2) (l0 + 3) (h l0 0) l4) (l0 + 4) (h l0 0) l5) (l0 + 5) l4)) dX7_addSheaf_74 (by rw [zl7_5 w_l0]; exact i9) rfl rfl ?_
      refine z_iconst dX7_addSheaf_75 rfl ?_
      refine z_iadd dX7_addSheaf_76 rfl ?_
      obtain ⟨i9, k⟩ := k
      refine z_iast dX7_addSheaf_77 (by rw [zl7_5 w_l0]; exact i9) rfl ?_
      refine z_lload_n 2 dX7_addSheaf_78 rfl rfl rfl ?_
      refine z_aload_n 1 dX7_addSheaf_79 rfl rfl (Nat.le_of_ble_eq_true rfl) rfl ?_
      refine z_getL 4 (x := ((zup (zup (zup (zup (zup h l0 0 ((h l0 0) + 1)) (l0 + 1) (h l0 0) l2) (l0 + 3) (h l0 0) l4) (l0 + 4) (h l0 0) l5) (l0 + 5) (h l0 0) (((zup (zup (zup (zup h l0 0 ((h l0 0) + 1)) (l0 + 1) (h l0 0) l2) (l0 + 3) (h l0 0) l4) (l0 + 4) (h l0 0) l5) (l0 + 5) l4) + 1)) l1 8)) fX7_107 rfl dX7_addSheaf_80 rfl rfl ?_
      refine z_land dX7_addSheaf_83 rfl ?_
      refine z_lconst (x := 0) dX7_addSheaf_84 rfl rfl ?_
      refine z_lcmp dX7_addSheaf_85 rfl ?_
      obtain ⟨ka, kb⟩ := k
      refine z_if_eq (tgt := 102) dX7_addSheaf_86 rfl (zcmp_R _ _) rfl ⟨fun q => ?_, fun q => ?_⟩
      · have k := ka q
        refine z_iload dX7_addSheaf_102 rfl rfl ?_
        exact z_ireturn rfl dX7_addSheaf_104 ⟨_, rfl, k⟩
      · have k := kb q
        refine z_aload_n 0 dX7_addSheaf_89 rfl rfl (Nat.le_of_ble_eq_true rfl) rfl ?_
        refine z_dup dX7_addSheaf_90 (fun q => by cases q) rfl ?_
        refine z_getL 7 (x := ((zup (zup (zup (zup (zup h l0 0 ((h l0 0) + 1)) (l0 + 1) (h l0 0) l2) (l0 + 3) (h l0 0) l4) (l0 + 4) (h l0 0) l5) (l0 + 5) (h l0 0) (((zup (zup (zup (zup h l0 0 ((h l0 0) + 1)) (l0 + 1) (h l0 0) l2) (l0 + 3) (h l0 0) l4) (l0 + 4) (h l0 0) l5) (l0 + 5) l4) + 1)) l0 6)) fX7_60 rfl dX7_addSheaf_91 rfl rfl ?_
        refine z_lconst (x := 1) dX7_addSheaf_94 rfl rfl ?_
        refine z_iload dX7_addSheaf_95 rfl rfl ?_
        refine z_lshl dX7_addSheaf_97 rfl ?_
        refine z_lor dX7_addSheaf_98 rfl ?_
        refine z_putL 7 gX7_60 dX7_addSheaf_99 rfl ?_
        refine z_iload dX7_addSheaf_102 rfl rfl ?_
        exact z_ireturn rfl dX7_addSheaf_104 ⟨_, rfl, k⟩
    · have k := kb q
      refine z_iconst dX7_addSheaf_64 rfl ?_
      refine z_goto (tgt := 77) dX7_addSheaf_65 rfl ?_
      obtain ⟨i9, k⟩ := k
      refine z_iast dX7_addSheaf_77 (by rw [zl7_5 w_l0]; exact i9) rfl ?_
      refine z_lload_n 2 dX7_addSheaf_78 rfl rfl rfl ?_
      refine z_aload_n 1 dX7_addSheaf_79 rfl rfl (Nat.le_of_ble_eq_true rfl) rfl ?_
      refine z_getL 4 (x := ((zup (zup (zup (zup (zup h l0 0 ((h l0 0) + 1)) (l0 + 1) (h l0 0) l2) (l0 + 3) (h l0 0) l4) (l0 + 4) (h l0 0) l5) (l0 + 5) (h l0 0) 0) l1 8)) fX7_107 rfl dX7_addSheaf_80 rfl rfl ?_
      refine z_land dX7_addSheaf_83 rfl ?_
      refine z_lconst (x := 0) dX7_addSheaf_84 rfl rfl ?_
      refine z_lcmp dX7_addSheaf_85 rfl ?_
      obtain ⟨ka, kb⟩ := k
      refine z_if_eq (tgt := 102) dX7_addSheaf_86 rfl (zcmp_R _ _) rfl ⟨fun q => ?_, fun q => ?_⟩
      · have k := ka q
        refine z_iload dX7_addSheaf_102 rfl rfl ?_
        exact z_ireturn rfl dX7_addSheaf_104 ⟨_, rfl, k⟩
      · have k := kb q
        refine z_aload_n 0 dX7_addSheaf_89 rfl rfl (Nat.le_of_ble_eq_true rfl) rfl ?_
        refine z_dup dX7_addSheaf_90 (fun q => by cases q) rfl ?_
        refine z_getL 7 (x := ((zup (zup (zup (zup (zup h l0 0 ((h l0 0) + 1)) (l0 + 1) (h l0 0) l2) (l0 + 3) (h l0 0) l4) (l0 + 4) (h l0 0) l5) (l0 + 5) (h l0 0) 0) l0 6)) fX7_60 rfl dX7_addSheaf_91 rfl rfl ?_
        refine z_lconst (x := 1) dX7_addSheaf_94 rfl rfl ?_
        refine z_iload dX7_addSheaf_95 rfl rfl ?_
        refine z_lshl dX7_addSheaf_97 rfl ?_
        refine z_lor dX7_addSheaf_98 rfl ?_
        refine z_putL 7 gX7_60 dX7_addSheaf_99 rfl ?_
        refine z_iload dX7_addSheaf_102 rfl rfl ?_
        exact z_ireturn rfl dX7_addSheaf_104 ⟨_, rfl, k⟩
  · have k := kb q
    refine z_iconst dX7_addSheaf_9 rfl ?_
    exact z_ireturn rfl dX7_addSheaf_10 ⟨_, rfl, k⟩
theorem eX7_addSheaf {G : zG} {d : Nat} {K : Int → zH → Prop} {l0 : Int} {l1 : Int} {l2 : Int} {l4 : Int} {l5 : Int} {h : zH} (k : tX7_addSheaf_0 G d K l0 l1 l2 l4 l5 h) : zCi G d mX7_addSheaf [vr 7 l0, vr 4 l1, vl l2, vi l4, vi l5] h K := z_entry (by decide +kernel) (Nat.le_of_ble_eq_true rfl) rfl k
def tX7_findClasses_0 (G : zG) (d : Nat) (K : zH → Prop) (l0 : Int) (h : zH) : Prop := zTv G (d + 1) mX7_findClasses K 0 [some (vr 7 l0), none, none, none] [] h
def tX7_findClasses_22 (G : zG) (d : Nat) (K : zH → Prop) (l0 : Int) (l1 : Int) (l2 : Int) (h : zH) : Prop := zTv G (d + 1) mX7_findClasses K 22 [some (vr 7 l0), some (vi l1), some (vi l2), none] [] h
theorem bX7_findClasses_0 {G : zG} {d : Nat} {K : zH → Prop} {l0 : Int} {h : zH} (k : zCv G d mJ7_fill_53178 [vr 13 (l0 + 10), vi (-1)] h (fun h2 => tX7_findClasses_22 G d K l0 1 0 (zup (zup h2 l0 10 1) l0 15 0))) : tX7_findClasses_0 G d K l0 h := by
  unfold tX7_findClasses_0
  refine z_aload_n 0 dX7_findClasses_0 rfl rfl (Nat.le_of_ble_eq_true rfl) rfl ?_
  refine z_getF 7 13 (x := (l0 + 10)) fX7_40 rfl dX7_findClasses_1 (by omega) rfl ?_
  refine z_iconst dX7_findClasses_4 rfl ?_
  refine z_callSv sJ7_fill_53178 kX7_110 dX7_findClasses_5 rfl (zRo_d d) (as := [vr 13 (l0 + 10), vi (-1)]) (rest := []) (Nat.le_of_ble_eq_true rfl) rfl rfl (zCv_mono (fun h2 k => ?_) k)
  refine z_aload_n 0 dX7_findClasses_8 rfl rfl (Nat.le_of_ble_eq_true rfl) rfl ?_
  refine z_iconst dX7_findClasses_9 rfl ?_
  refine z_putI 7 gX7_113 dX7_findClasses_10 rfl ?_
  refine z_aload_n 0 dX7_findClasses_13 rfl rfl (Nat.le_of_ble_eq_true rfl) rfl ?_
  refine z_iconst dX7_findClasses_14 rfl ?_
  refine z_putI 7 gX7_116 dX7_findClasses_15 rfl ?_
  refine z_iconst dX7_findClasses_18 rfl ?_
  refine z_istore_n 1 dX7_findClasses_19 rfl (Nat.le_of_ble_eq_true rfl) (L' := [some (vr 7 l0), some (vi 1), none, none]) rfl rfl ?_
  refine z_iconst dX7_findClasses_20 rfl ?_
  refine z_istore_n 2 dX7_findClasses_21 rfl (Nat.le_of_ble_eq_true rfl) (L' := [some (vr 7 l0), some (vi 1), some (vi 0), none]) rfl rfl ?_
  exact z_sub (L' := [some (vr 7 l0), some (vi 1), some (vi 0), none]) (And.intro rfl (And.intro rfl (And.intro rfl trivial))) k
theorem bX7_findClasses_22 {G : zG} {d : Nat} {K : zH → Prop} {l0 : Int} {l1 : Int} {l2 : Int} {h : zH} (k : zR l1 ∧ (l1 = 0 → K h) ∧ (¬ l1 = 0 → zR l2 ∧ (40 < l2 → K h) ∧ (¬ 40 < l2 → zCv G d mX7_partSheaves [vr 7 l0, vi l2] (zcp h (l0 + 8) (l0 + 11) 40) (fun h2 => zR (h2 l0 10) ∧ zR (h l0 10) ∧ ((h2 l0 10) ≤ (h l0 10) → tX7_findClasses_22 G d K l0 0 (l2 + 1) h2) ∧ (¬ (h2 l0 10) ≤ (h l0 10) → zCv G d mX7_noteApart [vr 7 l0, vi l2] (zup h2 l0 15 l2) (fun h4 => tX7_findClasses_22 G d K l0 1 (l2 + 1) h4)))))) : tX7_findClasses_22 G d K l0 l1 l2 h := by
  unfold tX7_findClasses_22
  refine z_know (fun zo zs zv => ?_)
  have w_l0 : zvok (vr 7 l0) := zv _ (List.mem_of_getElem? (i := 0) rfl)
  refine z_iload_n 1 dX7_findClasses_22 rfl rfl rfl ?_
  obtain ⟨r1, ka, kb⟩ := k
  refine z_if_eq (tgt := 91) dX7_findClasses_23 rfl r1 rfl ⟨fun q => ?_, fun q => ?_⟩
  · have k := ka q
    exact z_return rfl dX7_findClasses_91 ⟨rfl, k⟩
  · have k := kb q
    refine z_iload_n 2 dX7_findClasses_26 rfl rfl rfl ?_
    refine z_bipush dX7_findClasses_27 rfl rfl ?_
    obtain ⟨r1, ka, kb⟩ := k
    refine z_icmp_gt (tgt := 91) dX7_findClasses_29 rfl r1 ⟨by decide, by decide⟩ rfl ⟨fun q => ?_, fun q => ?_⟩
    · have k := ka q
      exact z_return rfl dX7_findClasses_91 ⟨rfl, k⟩
    · have k := kb q
      refine z_aload_n 0 dX7_findClasses_32 rfl rfl (Nat.le_of_ble_eq_true rfl) rfl ?_
      refine z_getI 7 (x := (h l0 10)) fX7_113 rfl dX7_findClasses_33 rfl rfl ?_
      refine z_istore_n 3 dX7_findClasses_36 rfl (Nat.le_of_ble_eq_true rfl) (L' := [some (vr 7 l0), some (vi l1), some (vi l2), some (vi (h l0 10))]) rfl rfl ?_
      refine z_aload_n 0 dX7_findClasses_37 rfl rfl (Nat.le_of_ble_eq_true rfl) rfl ?_
      refine z_getF 7 13 (x := (l0 + 8)) fX7_34 rfl dX7_findClasses_38 (by omega) rfl ?_
      refine z_iconst dX7_findClasses_41 rfl ?_
      refine z_aload_n 0 dX7_findClasses_42 rfl rfl (Nat.le_of_ble_eq_true rfl) rfl ?_
      refine z_getF 7 13 (x := (l0 + 11)) fX7_43 rfl dX7_findClasses_43 (by omega) rfl ?_
      refine z_iconst dX7_findClasses_46 rfl ?_
      refine z_bipush dX7_findClasses_47 rfl rfl ?_
      refine z_copy kX7_119 kcopy.1 kcopy.2.1 kcopy.2.2 dX7_findClasses_49 (by rw [zl7_8 w_l0, zl7_11 w_l0]; decide) ⟨Nat.le_add_left 1 d, (by show _ ≤ 64 * (d + 1); have := kcw; rw [show zcat _ = 0 from rfl]; omega)⟩ rfl ?_
      refine z_aload_n 0 dX7_findClasses_52 rfl rfl (Nat.le_of_ble_eq_true rfl) rfl ?_
      refine z_iload_n 2 dX7_findClasses_53 rfl rfl rfl ?_
      refine z_callVv vX7_partSheaves kX7_125 dX7_findClasses_54 rfl (zRo_d d) (as := [vi l2]) (rest := []) (Nat.le_of_ble_eq_true rfl) rfl rfl (zCv_mono (fun h2 k => ?_) k)
      refine z_aload_n 0 dX7_findClasses_57 rfl rfl (Nat.le_of_ble_eq_true rfl) rfl ?_
      refine z_getI 7 (x := (h2 l0 10)) fX7_113 rfl dX7_findClasses_58 rfl rfl ?_
      refine z_iload_n 3 dX7_findClasses_61 rfl rfl rfl ?_
      obtain ⟨r1, r2, ka, kb⟩ := k
      refine z_icmp_le (tgt := 69) dX7_findClasses_62 rfl r1 r2 rfl ⟨fun q => ?_, fun q => ?_⟩
      · have k := ka q
        refine z_iconst dX7_findClasses_69 rfl ?_
        refine z_istore_n 1 dX7_findClasses_70 rfl (Nat.le_of_ble_eq_true rfl) (L' := [some (vr 7 l0), some (vi 0), some (vi l2), some (vi (h l0 10))]) rfl rfl ?_
        refine z_iload_n 1 dX7_findClasses_71 rfl rfl rfl ?_
        refine z_if_eq (tgt := 85) dX7_findClasses_72 rfl ⟨by decide, by decide⟩ rfl ⟨fun _ => ?_, fun q => absurd q (by decide)⟩
        refine z_iinc dX7_findClasses_85 rfl (Nat.le_of_ble_eq_true rfl) (L' := [some (vr 7 l0), some (vi 0), some (vi (l2 + 1)), some (vi (h l0 10))]) rfl rfl ?_
        refine z_goto (tgt := 22) dX7_findClasses_88 rfl ?_
        exact z_sub (L' := [some (vr 7 l0), some (vi 0), some (vi (l2 + 1)), none]) (And.intro rfl (And.intro rfl (And.intro rfl trivial))) k
      · have k := kb q
        refine z_iconst dX7_findClasses_65 rfl ?_
        refine z_goto (tgt := 70) dX7_findClasses_66 rfl ?_
        refine z_istore_n 1 dX7_findClasses_70 rfl (Nat.le_of_ble_eq_true rfl) (L' := [some (vr 7 l0), some (vi 1), some (vi l2), some (vi (h l0 10))]) rfl rfl ?_
        refine z_iload_n 1 dX7_findClasses_71 rfl rfl rfl ?_
        refine z_if_eq (tgt := 85) dX7_findClasses_72 rfl ⟨by decide, by decide⟩ rfl ⟨fun q => absurd q (by decide), fun _ => ?_⟩
        refine z_aload_n 0 dX7_findClasses_75 rfl rfl (Nat.le_of_ble_eq_true rfl) rfl ?_
        refine z_iload_n 2 dX7_findClasses_76 rfl rfl rfl ?_
        refine z_putI 7 gX7_116 dX7_findClasses_77 rfl ?_
        refine z_aload_n 0 dX7_findClasses_80 rfl rfl (Nat.le_of_ble_eq_true rfl) rfl ?_
        refine z_iload_n 2 dX7_findClasses_81 rfl rfl rfl ?_
        refine z_callVv vX7_noteApart kX7_129 dX7_findClasses_82 rfl (zRo_d d) (as := [vi l2]) (rest := []) (Nat.le_of_ble_eq_true rfl) rfl rfl (zCv_mono (fun h4 k => ?_) k)
        refine z_iinc dX7_findClasses_85 rfl (Nat.le_of_ble_eq_true rfl) (L' := [some (vr 7 l0), some (vi 1), some (vi (l2 + 1)), some (vi (h l0 10))]) rfl rfl ?_
        refine z_goto (tgt := 22) dX7_findClasses_88 rfl ?_
        exact z_sub (L' := [some (vr 7 l0), some (vi 1), some (vi (l2 + 1)), none]) (And.intro rfl (And.intro rfl (And.intro rfl trivial))) k
theorem eX7_findClasses {G : zG} {d : Nat} {K : zH → Prop} {l0 : Int} {h : zH} (k : tX7_findClasses_0 G d K l0 h) : zCv G (d + 1) mX7_findClasses [vr 7 l0] h K := z_entry (by decide +kernel) (Nat.le_of_ble_eq_true rfl) rfl k
def tX7_partSheaves_0 (G : zG) (d : Nat) (K : zH → Prop) (l0 : Int) (l1 : Int) (h : zH) : Prop := zTv G (d + 1) mX7_partSheaves K 0 [some (vr 7 l0), some (vi l1), none, none] [] h
def tX7_partSheaves_7 (G : zG) (d : Nat) (K : zH → Prop) (l0 : Int) (l1 : Int) (l2 : Int) (h : zH) : Prop := zTv G (d + 1) mX7_partSheaves K 7 [some (vr 7 l0), some (vi l1), some (vi l2), none] [] h
def tX7_partSheaves_17 (G : zG) (d : Nat) (K : zH → Prop) (l0 : Int) (l1 : Int) (l2 : Int) (l3 : Int) (h : zH) : Prop := zTv G (d + 1) mX7_partSheaves K 17 [some (vr 7 l0), some (vi l1), some (vi l2), some (vi l3)] [] h
theorem bX7_partSheaves_0 {G : zG} {d : Nat} {K : zH → Prop} {l0 : Int} {l1 : Int} {h : zH} (k : tX7_partSheaves_7 G d K l0 l1 0 (zup h l0 10 0)) : tX7_partSheaves_0 G d K l0 l1 h := by
  unfold tX7_partSheaves_0
  refine z_aload_n 0 dX7_partSheaves_0 rfl rfl (Nat.le_of_ble_eq_true rfl) rfl ?_
  refine z_iconst dX7_partSheaves_1 rfl ?_
  refine z_putI 7 gX7_113 dX7_partSheaves_2 rfl ?_
  refine z_iconst dX7_partSheaves_5 rfl ?_
  refine z_istore_n 2 dX7_partSheaves_6 rfl (Nat.le_of_ble_eq_true rfl) (L' := [some (vr 7 l0), some (vi l1), some (vi 0), none]) rfl rfl ?_
  exact z_sub (L' := [some (vr 7 l0), some (vi l1), some (vi 0), none]) (And.intro rfl (And.intro rfl (And.intro rfl trivial))) k
theorem bX7_partSheaves_7 {G : zG} {d : Nat} {K : zH → Prop} {l0 : Int} {l1 : Int} {l2 : Int} {h : zH} (k : zR l2 ∧ zR (h l0 0) ∧ ((h l0 0) ≤ l2 → K h) ∧ (¬ (h l0 0) ≤ l2 → tX7_partSheaves_17 G d K l0 l1 l2 0 h)) : tX7_partSheaves_7 G d K l0 l1 l2 h := by
  unfold tX7_partSheaves_7
  refine z_iload_n 2 dX7_partSheaves_7 rfl rfl rfl ?_
  refine z_aload_n 0 dX7_partSheaves_8 rfl rfl (Nat.le_of_ble_eq_true rfl) rfl ?_
  refine z_getI 7 (x := (h l0 0)) fX7_57 rfl dX7_partSheaves_9 rfl rfl ?_
  obtain ⟨r1, r2, ka, kb⟩ := k
  refine z_icmp_ge (tgt := 84) dX7_partSheaves_12 rfl r1 r2 rfl ⟨fun q => ?_, fun q => ?_⟩
  · have k := ka q
    exact z_return rfl dX7_partSheaves_84 ⟨rfl, k⟩
  · have k := kb q
    refine z_iconst dX7_partSheaves_15 rfl ?_
    refine z_istore_n 3 dX7_partSheaves_16 rfl (Nat.le_of_ble_eq_true rfl) (L' := [some (vr 7 l0), some (vi l1), some (vi l2), some (vi 0)]) rfl rfl ?_
    exact z_sub (L' := [some (vr 7 l0), some (vi l1), some (vi l2), some (vi 0)]) (And.intro rfl (And.intro rfl (And.intro rfl (And.intro rfl trivial)))) k
theorem bX7_partSheaves_17 {G : zG} {d : Nat} {K : zH → Prop} {l0 : Int} {l1 : Int} {l2 : Int} {l3 : Int} {h : zH} (k : zR l3 ∧ zR (h l0 10) ∧ ((h l0 10) ≤ l3 → zR l3 ∧ zR (h l0 10) ∧ (¬ l3 = (h l0 10) → ((0 : Int) ≤ l2 ∧ l2 < 40) ∧ tX7_partSheaves_7 G d K l0 l1 (l2 + 1) (zup h (l0 + 8) l2 l3)) ∧ (l3 = (h l0 10) → ((0 : Int) ≤ l3 ∧ l3 < 40) ∧ ((0 : Int) ≤ l2 ∧ l2 < 40) ∧ tX7_partSheaves_7 G d K l0 l1 (l2 + 1) (zup (zup (zup h (l0 + 9) l3 l2) l0 10 (((zup h (l0 + 9) l3 l2) l0 10) + 1)) (l0 + 8) l2 l3))) ∧ (¬ (h l0 10) ≤ l3 → ((0 : Int) ≤ l3 ∧ l3 < 40) ∧ zCb G d mX7_areAlike [vr 7 l0, vi l2, vi (h (l0 + 9) l3), vi l1] h (fun x1 h2 => (x1 = true → zR l3 ∧ zR (h2 l0 10) ∧ (¬ l3 = (h2 l0 10) → ((0 : Int) ≤ l2 ∧ l2 < 40) ∧ tX7_partSheaves_7 G d K l0 l1 (l2 + 1) (zup h2 (l0 + 8) l2 l3)) ∧ (l3 = (h2 l0 10) → ((0 : Int) ≤ l3 ∧ l3 < 40) ∧ ((0 : Int) ≤ l2 ∧ l2 < 40) ∧ tX7_partSheaves_7 G d K l0 l1 (l2 + 1) (zup (zup (zup h2 (l0 + 9) l3 l2) l0 10 (((zup h2 (l0 + 9) l3 l2) l0 10) + 1)) (l0 + 8) l2 l3))) ∧ (x1 = false → tX7_partSheaves_17 G d K l0 l1 l2 (l3 + 1) h2)))) : tX7_partSheaves_17 G d K l0 l1 l2 l3 h := by
  unfold tX7_partSheaves_17
  refine z_know (fun zo zs zv => ?_)
  have w_l0 : zvok (vr 7 l0) := zv _ (List.mem_of_getElem? (i := 0) rfl)
  refine z_iload_n 3 dX7_partSheaves_17 rfl rfl rfl ?_
  refine z_aload_n 0 dX7_partSheaves_18 rfl rfl (Nat.le_of_ble_eq_true rfl) rfl ?_
  refine z_getI 7 (x := (h l0 10)) fX7_113 rfl dX7_partSheaves_19 rfl rfl ?_
  obtain ⟨r1, r2, ka, kb⟩ := k
  refine z_icmp_ge (tgt := 46) dX7_partSheaves_22 rfl r1 r2 rfl ⟨fun q => ?_, fun q => ?_⟩
  · have k := ka q
    refine z_iload_n 3 dX7_partSheaves_46 rfl rfl rfl ?_
    refine z_aload_n 0 dX7_partSheaves_47 rfl rfl (Nat.le_of_ble_eq_true rfl) rfl ?_
    refine z_getI 7 (x := (h l0 10)) fX7_113 rfl dX7_partSheaves_48 rfl rfl ?_
    obtain ⟨r1, r2, ka, kb⟩ := k
    refine z_icmp_ne (tgt := 71) dX7_partSheaves_51 rfl r1 r2 rfl ⟨fun q => ?_, fun q => ?_⟩
    · have k := ka q
      refine z_aload_n 0 dX7_partSheaves_71 rfl rfl (Nat.le_of_ble_eq_true rfl) rfl ?_
      refine z_getF 7 13 (x := (l0 + 8)) fX7_34 rfl dX7_partSheaves_72 (by omega) rfl ?_
      refine z_iload_n 2 dX7_partSheaves_75 rfl rfl rfl ?_
      refine z_iload_n 3 dX7_partSheaves_76 rfl rfl rfl ?_
      obtain ⟨i9, k⟩ := k
      refine z_iast dX7_partSheaves_77 (by rw [zl7_8 w_l0]; exact i9) rfl ?_
      refine z_iinc dX7_partSheaves_78 rfl (Nat.le_of_ble_eq_true rfl) (L' := [some (vr 7 l0), some (vi l1), some (vi (l2 + 1)), some (vi l3)]) rfl rfl ?_
      refine z_goto (tgt := 7) dX7_partSheaves_81 rfl ?_
      exact z_sub (L' := [some (vr 7 l0), some (vi l1), some (vi (l2 + 1)), none]) (And.intro rfl (And.intro rfl (And.intro rfl trivial))) k
    · have k := kb q
      refine z_aload_n 0 dX7_partSheaves_54 rfl rfl (Nat.le_of_ble_eq_true rfl) rfl ?_
      refine z_getF 7 13 (x := (l0 + 9)) fX7_37 rfl dX7_partSheaves_55 (by omega) rfl ?_
      refine z_iload_n 3 dX7_partSheaves_58 rfl rfl rfl ?_
      refine z_iload_n 2 dX7_partSheaves_59 rfl rfl rfl ?_
      obtain ⟨i9, k⟩ := k
      refine z_iast dX7_partSheaves_60 (by rw [zl7_9 w_l0]; exact i9) rfl ?_
      refine z_aload_n 0 dX7_partSheaves_61 rfl rfl (Nat.le_of_ble_eq_true rfl) rfl ?_
      refine z_dup dX7_partSheaves_62 (fun q => by cases q) rfl ?_
      refine z_getI 7 (x := ((zup h (l0 + 9) l3 l2) l0 10)) fX7_113 rfl dX7_partSheaves_63 rfl rfl ?_
      refine z_iconst dX7_partSheaves_66 rfl ?_
      refine z_iadd dX7_partSheaves_67 rfl ?_
      refine z_putI 7 gX7_113 dX7_partSheaves_68 rfl ?_
      refine z_aload_n 0 dX7_partSheaves_71 rfl rfl (Nat.le_of_ble_eq_true rfl) rfl ?_
      refine z_getF 7 13 (x := (l0 + 8)) fX7_34 rfl dX7_partSheaves_72 (by omega) rfl ?_
      refine z_iload_n 2 dX7_partSheaves_75 rfl rfl rfl ?_
      refine z_iload_n 3 dX7_partSheaves_76 rfl rfl rfl ?_
      obtain ⟨i9, k⟩ := k
      refine z_iast dX7_partSheaves_77 (by rw [zl7_8 w_l0]; exact i9) rfl ?_
      refine z_iinc dX7_partSheaves_78 rfl (Nat.le_of_ble_eq_true rfl) (L' := [some (vr 7 l0), some (vi l1), some (vi (l2 + 1)), some (vi l3)]) rfl rfl ?_
      refine z_goto (tgt := 7) dX7_partSheaves_81 rfl ?_
      exact z_sub (L' := [some (vr 7 l0), some (vi l1), some (vi (l2 + 1)), none]) (And.intro rfl (And.intro rfl (And.intro rfl trivial))) k
  · have k := kb q
    refine z_aload_n 0 dX7_partSheaves_25 rfl rfl (Nat.le_of_ble_eq_true rfl) rfl ?_
    refine z_iload_n 2 dX7_partSheaves_26 rfl rfl rfl ?_
    refine z_aload_n 0 dX7_partSheaves_27 rfl rfl (Nat.le_of_ble_eq_true rfl) rfl ?_
    refine z_getF 7 13 (x := (l0 + 9)) fX7_37 rfl dX7_partSheaves_28 (by omega) rfl ?_
    refine z_iload_n 3 dX7_partSheaves_31 rfl rfl rfl ?_
    obtain ⟨i9, k⟩ := k
    refine z_iald (x := (h (l0 + 9) l3)) dX7_partSheaves_32 (by rw [zl7_9 w_l0]; exact i9) rfl rfl ?_
    refine z_iload_n 1 dX7_partSheaves_33 rfl rfl rfl ?_
    refine z_callVb vX7_areAlike kX7_132 dX7_partSheaves_34 rfl (zRo_d d) (as := [vi l2, vi (h (l0 + 9) l3), vi l1]) (rest := []) (Nat.le_of_ble_eq_true rfl) rfl rfl (zCb_mono (fun x1 h2 k => ?_) k)
    obtain ⟨ka, kb⟩ := k
    refine z_ifb_ne (tgt := 46) dX7_partSheaves_37 rfl rfl ⟨fun q => ?_, fun q => ?_⟩
    · have k := ka q
      refine z_iload_n 3 dX7_partSheaves_46 rfl rfl rfl ?_
      refine z_aload_n 0 dX7_partSheaves_47 rfl rfl (Nat.le_of_ble_eq_true rfl) rfl ?_
      refine z_getI 7 (x := (h2 l0 10)) fX7_113 rfl dX7_partSheaves_48 rfl rfl ?_
      obtain ⟨r1, r2, ka, kb⟩ := k
      refine z_icmp_ne (tgt := 71) dX7_partSheaves_51 rfl r1 r2 rfl ⟨fun q => ?_, fun q => ?_⟩
      · have k := ka q
        refine z_aload_n 0 dX7_partSheaves_71 rfl rfl (Nat.le_of_ble_eq_true rfl) rfl ?_
        refine z_getF 7 13 (x := (l0 + 8)) fX7_34 rfl dX7_partSheaves_72 (by omega) rfl ?_
        refine z_iload_n 2 dX7_partSheaves_75 rfl rfl rfl ?_
        refine z_iload_n 3 dX7_partSheaves_76 rfl rfl rfl ?_
        obtain ⟨i9, k⟩ := k
        refine z_iast dX7_partSheaves_77 (by rw [zl7_8 w_l0]; exact i9) rfl ?_
        refine z_iinc dX7_partSheaves_78 rfl (Nat.le_of_ble_eq_true rfl) (L' := [some (vr 7 l0), some (vi l1), some (vi (l2 + 1)), some (vi l3)]) rfl rfl ?_
        refine z_goto (tgt := 7) dX7_partSheaves_81 rfl ?_
        exact z_sub (L' := [some (vr 7 l0), some (vi l1), some (vi (l2 + 1)), none]) (And.intro rfl (And.intro rfl (And.intro rfl trivial))) k
      · have k := kb q
        refine z_aload_n 0 dX7_partSheaves_54 rfl rfl (Nat.le_of_ble_eq_true rfl) rfl ?_
        refine z_getF 7 13 (x := (l0 + 9)) fX7_37 rfl dX7_partSheaves_55 (by omega) rfl ?_
        refine z_iload_n 3 dX7_partSheaves_58 rfl rfl rfl ?_
        refine z_iload_n 2 dX7_partSheaves_59 rfl rfl rfl ?_
        obtain ⟨i9, k⟩ := k
        refine z_iast dX7_partSheaves_60 (by rw [zl7_9 w_l0]; exact i9) rfl ?_
        refine z_aload_n 0 dX7_partSheaves_61 rfl rfl (Nat.le_of_ble_eq_true rfl) rfl ?_
        refine z_dup dX7_partSheaves_62 (fun q => by cases q) rfl ?_
        refine z_getI 7 (x := ((zup h2 (l0 + 9) l3 l2) l0 10)) fX7_113 rfl dX7_partSheaves_63 rfl rfl ?_
        refine z_iconst dX7_partSheaves_66 rfl ?_
        refine z_iadd dX7_partSheaves_67 rfl ?_
        refine z_putI 7 gX7_113 dX7_partSheaves_68 rfl ?_
        refine z_aload_n 0 dX7_partSheaves_71 rfl rfl (Nat.le_of_ble_eq_true rfl) rfl ?_
        refine z_getF 7 13 (x := (l0 + 8)) fX7_34 rfl dX7_partSheaves_72 (by omega) rfl ?_
        refine z_iload_n 2 dX7_partSheaves_75 rfl rfl rfl ?_
        refine z_iload_n 3 dX7_partSheaves_76 rfl rfl rfl ?_
        obtain ⟨i9, k⟩ := k
        refine z_iast dX7_partSheaves_77 (by rw [zl7_8 w_l0]; exact i9) rfl ?_
        refine z_iinc dX7_partSheaves_78 rfl (Nat.le_of_ble_eq_true rfl) (L' := [some (vr 7 l0), some (vi l1), some (vi (l2 + 1)), some (vi l3)]) rfl rfl ?_
        refine z_goto (tgt := 7) dX7_partSheaves_81 rfl ?_
        exact z_sub (L' := [some (vr 7 l0), some (vi l1), some (vi (l2 + 1)), none]) (And.intro rfl (And.intro rfl (And.intro rfl trivial))) k
    · have k := kb q
      refine z_iinc dX7_partSheaves_40 rfl (Nat.le_of_ble_eq_true rfl) (L' := [some (vr 7 l0), some (vi l1), some (vi l2), some (vi (l3 + 1))]) rfl rfl ?_
      refine z_goto (tgt := 17) dX7_partSheaves_43 rfl ?_
      exact z_sub (L' := [some (vr 7 l0), some (vi l1), some (vi l2), some (vi (l3 + 1))]) (And.intro rfl (And.intro rfl (And.intro rfl (And.intro rfl trivial)))) k
theorem eX7_partSheaves {G : zG} {d : Nat} {K : zH → Prop} {l0 : Int} {l1 : Int} {h : zH} (k : tX7_partSheaves_0 G d K l0 l1 h) : zCv G (d + 1) mX7_partSheaves [vr 7 l0, vi l1] h K := z_entry (by decide +kernel) (Nat.le_of_ble_eq_true rfl) rfl k
def tX7_areAlike_0 (G : zG) (d : Nat) (K : Bool → zH → Prop) (l0 : Int) (l1 : Int) (l2 : Int) (l3 : Int) (h : zH) : Prop := zTb G (d + 1) mX7_areAlike K 0 [some (vr 7 l0), some (vi l1), some (vi l2), some (vi l3), none, none] [] h
def tX7_areAlike_48 (G : zG) (d : Nat) (K : Bool → zH → Prop) (l0 : Int) (l1 : Int) (l2 : Int) (l4 : Int) (l5 : Int) (h : zH) : Prop := zTb G (d + 1) mX7_areAlike K 48 [some (vr 7 l0), some (vi l1), some (vi l2), none, some (vi l4), some (vi l5)] [] h
theorem bX7_areAlike_0 {G : zG} {d : Nat} {K : Bool → zH → Prop} {l0 : Int} {l1 : Int} {l2 : Int} {l3 : Int} {h : zH} (k : zR l3 ∧ (¬ l3 = 0 → ((0 : Int) ≤ l1 ∧ l1 < 40) ∧ ((0 : Int) ≤ l2 ∧ l2 < 40) ∧ zR (h (l0 + 11) l1) ∧ zR (h (l0 + 11) l2) ∧ (¬ (h (l0 + 11) l1) = (h (l0 + 11) l2) → tX7_areAlike_48 G d K l0 l1 l2 0 0 h) ∧ ((h (l0 + 11) l1) = (h (l0 + 11) l2) → tX7_areAlike_48 G d K l0 l1 l2 1 0 h)) ∧ (l3 = 0 → zCb G d mX7_sheafTakes [vr 7 l0, vi l1] h (fun x1 h2 => zCb G d mX7_sheafTakes [vr 7 l0, vi l2] h2 (fun x3 h4 => (¬ bi x1 = bi x3 → K false h4) ∧ (bi x1 = bi x3 → K true h4))))) : tX7_areAlike_0 G d K l0 l1 l2 l3 h := by
  unfold tX7_areAlike_0
  refine z_know (fun zo zs zv => ?_)
  have w_l0 : zvok (vr 7 l0) := zv _ (List.mem_of_getElem? (i := 0) rfl)
  refine z_iload_n 3 dX7_areAlike_0 rfl rfl rfl ?_
  obtain ⟨r1, ka, kb⟩ := k
  refine z_if_ne (tgt := 23) dX7_areAlike_1 rfl r1 rfl ⟨fun q => ?_, fun q => ?_⟩
  · have k := ka q
    refine z_aload_n 0 dX7_areAlike_23 rfl rfl (Nat.le_of_ble_eq_true rfl) rfl ?_
    refine z_getF 7 13 (x := (l0 + 11)) fX7_43 rfl dX7_areAlike_24 (by omega) rfl ?_
    refine z_iload_n 1 dX7_areAlike_27 rfl rfl rfl ?_
    obtain ⟨i9, k⟩ := k
    refine z_iald (x := (h (l0 + 11) l1)) dX7_areAlike_28 (by rw [zl7_11 w_l0]; exact i9) rfl rfl ?_
    refine z_aload_n 0 dX7_areAlike_29 rfl rfl (Nat.le_of_ble_eq_true rfl) rfl ?_
    refine z_getF 7 13 (x := (l0 + 11)) fX7_43 rfl dX7_areAlike_30 (by omega) rfl ?_
    refine z_iload_n 2 dX7_areAlike_33 rfl rfl rfl ?_
    obtain ⟨i9, k⟩ := k
    refine z_iald (x := (h (l0 + 11) l2)) dX7_areAlike_34 (by rw [zl7_11 w_l0]; exact i9) rfl rfl ?_
    obtain ⟨r1, r2, ka, kb⟩ := k
    refine z_icmp_ne (tgt := 42) dX7_areAlike_35 rfl r1 r2 rfl ⟨fun q => ?_, fun q => ?_⟩
    · have k := ka q
      refine z_iconst dX7_areAlike_42 rfl ?_
      refine z_istore dX7_areAlike_43 (Nat.le_of_ble_eq_true rfl) (L' := [some (vr 7 l0), some (vi l1), some (vi l2), some (vi l3), some (vi 0), none]) rfl rfl ?_
      refine z_iconst dX7_areAlike_45 rfl ?_
      refine z_istore dX7_areAlike_46 (Nat.le_of_ble_eq_true rfl) (L' := [some (vr 7 l0), some (vi l1), some (vi l2), some (vi l3), some (vi 0), some (vi 0)]) rfl rfl ?_
      exact z_sub (L' := [some (vr 7 l0), some (vi l1), some (vi l2), none, some (vi 0), some (vi 0)]) (And.intro rfl (And.intro rfl (And.intro rfl (And.intro rfl (And.intro rfl trivial))))) k
    · have k := kb q
      refine z_iconst dX7_areAlike_38 rfl ?_
      refine z_goto (tgt := 43) dX7_areAlike_39 rfl ?_
      refine z_istore dX7_areAlike_43 (Nat.le_of_ble_eq_true rfl) (L' := [some (vr 7 l0), some (vi l1), some (vi l2), some (vi l3), some (vi 1), none]) rfl rfl ?_
      refine z_iconst dX7_areAlike_45 rfl ?_
      refine z_istore dX7_areAlike_46 (Nat.le_of_ble_eq_true rfl) (L' := [some (vr 7 l0), some (vi l1), some (vi l2), some (vi l3), some (vi 1), some (vi 0)]) rfl rfl ?_
      exact z_sub (L' := [some (vr 7 l0), some (vi l1), some (vi l2), none, some (vi 1), some (vi 0)]) (And.intro rfl (And.intro rfl (And.intro rfl (And.intro rfl (And.intro rfl trivial))))) k
  · have k := kb q
    refine z_aload_n 0 dX7_areAlike_4 rfl rfl (Nat.le_of_ble_eq_true rfl) rfl ?_
    refine z_iload_n 1 dX7_areAlike_5 rfl rfl rfl ?_
    refine z_callVb vX7_sheafTakes kX7_136 dX7_areAlike_6 rfl (zRo_d d) (as := [vi l1]) (rest := []) (Nat.le_of_ble_eq_true rfl) rfl rfl (zCb_mono (fun x1 h2 k => ?_) k)
    refine z_aload_n 0 dX7_areAlike_9 rfl rfl (Nat.le_of_ble_eq_true rfl) rfl ?_
    refine z_iload_n 2 dX7_areAlike_10 rfl rfl rfl ?_
    refine z_callVb vX7_sheafTakes kX7_136 dX7_areAlike_11 rfl (zRo_d d) (as := [vi l2]) (rest := [vi (bi x1)]) (Nat.le_of_ble_eq_true rfl) rfl rfl (zCb_mono (fun x3 h4 k => ?_) k)
    obtain ⟨ka, kb⟩ := k
    refine z_icmp_ne (tgt := 21) dX7_areAlike_14 rfl (bi_R _) (bi_R _) rfl ⟨fun q => ?_, fun q => ?_⟩
    · have k := ka q
      refine z_iconst dX7_areAlike_21 rfl ?_
      exact z_zreturn rfl (Or.inl rfl) dX7_areAlike_22 ⟨false, rfl, k⟩
    · have k := kb q
      refine z_iconst dX7_areAlike_17 rfl ?_
      refine z_goto (tgt := 22) dX7_areAlike_18 rfl ?_
      exact z_zreturn rfl (Or.inr rfl) dX7_areAlike_22 ⟨true, rfl, k⟩
theorem bX7_areAlike_48 {G : zG} {d : Nat} {K : Bool → zH → Prop} {l0 : Int} {l1 : Int} {l2 : Int} {l4 : Int} {l5 : Int} {h : zH} (k : zR l4 ∧ (l4 = 0 → (∃ b1, l4 = bi b1 ∧ K b1 h)) ∧ (¬ l4 = 0 → zR l5 ∧ zR (h l0 7) ∧ ((h l0 7) ≤ l5 → (∃ b2, l4 = bi b2 ∧ K b2 h)) ∧ (¬ (h l0 7) ≤ l5 → zCi G d mX7_sheafStep [vr 7 l0, vi l1, vi l5] h (fun x3 h4 => ((0 : Int) ≤ x3 ∧ x3 < 40) ∧ zCi G d mX7_sheafStep [vr 7 l0, vi l2, vi l5] h4 (fun x5 h6 => ((0 : Int) ≤ x5 ∧ x5 < 40) ∧ zR (h4 (l0 + 11) x3) ∧ zR (h6 (l0 + 11) x5) ∧ (¬ (h4 (l0 + 11) x3) = (h6 (l0 + 11) x5) → tX7_areAlike_48 G d K l0 l1 l2 0 (l5 + 1) h6) ∧ ((h4 (l0 + 11) x3) = (h6 (l0 + 11) x5) → tX7_areAlike_48 G d K l0 l1 l2 1 (l5 + 1) h6)))))) : tX7_areAlike_48 G d K l0 l1 l2 l4 l5 h := by
  unfold tX7_areAlike_48
  refine z_know (fun zo zs zv => ?_)
  have w_l0 : zvok (vr 7 l0) := zv _ (List.mem_of_getElem? (i := 0) rfl)
  refine z_iload dX7_areAlike_48 rfl rfl ?_
  obtain ⟨r1, ka, kb⟩ := k
  refine z_if_eq (tgt := 102) dX7_areAlike_50 rfl r1 rfl ⟨fun q => ?_, fun q => ?_⟩
  · have k := ka q
    refine z_iload dX7_areAlike_102 rfl rfl ?_
    obtain ⟨b9, e9, k⟩ := k
    exact z_zreturn rfl (by rw [e9]; exact bi_01 b9) dX7_areAlike_104 ⟨b9, by rw [e9], k⟩
  · have k := kb q
    refine z_iload dX7_areAlike_53 rfl rfl ?_
    refine z_aload_n 0 dX7_areAlike_55 rfl rfl (Nat.le_of_ble_eq_true rfl) rfl ?_
    refine z_getI 7 (x := (h l0 7)) fX7_52 rfl dX7_areAlike_56 rfl rfl ?_
    obtain ⟨r1, r2, ka, kb⟩ := k
    refine z_icmp_ge (tgt := 102) dX7_areAlike_59 rfl r1 r2 rfl ⟨fun q => ?_, fun q => ?_⟩
    · have k := ka q
      refine z_iload dX7_areAlike_102 rfl rfl ?_
      obtain ⟨b9, e9, k⟩ := k
      exact z_zreturn rfl (by rw [e9]; exact bi_01 b9) dX7_areAlike_104 ⟨b9, by rw [e9], k⟩
    · have k := kb q
      refine z_aload_n 0 dX7_areAlike_62 rfl rfl (Nat.le_of_ble_eq_true rfl) rfl ?_
      refine z_getF 7 13 (x := (l0 + 11)) fX7_43 rfl dX7_areAlike_63 (by omega) rfl ?_
      refine z_aload_n 0 dX7_areAlike_66 rfl rfl (Nat.le_of_ble_eq_true rfl) rfl ?_
      refine z_iload_n 1 dX7_areAlike_67 rfl rfl rfl ?_
      refine z_iload dX7_areAlike_68 rfl rfl ?_
      refine z_callVi vX7_sheafStep kX7_140 dX7_areAlike_70 rfl (zRo_d d) (as := [vi l1, vi l5]) (rest := [vr 13 (l0 + 11)]) (Nat.le_of_ble_eq_true rfl) rfl rfl (zCi_mono (fun x3 h4 k => ?_) k)
      obtain ⟨i9, k⟩ := k
      refine z_iald (x := (h4 (l0 + 11) x3)) dX7_areAlike_73 (by rw [zl7_11 w_l0]; exact i9) rfl rfl ?_
      refine z_aload_n 0 dX7_areAlike_74 rfl rfl (Nat.le_of_ble_eq_true rfl) rfl ?_
      refine z_getF 7 13 (x := (l0 + 11)) fX7_43 rfl dX7_areAlike_75 (by omega) rfl ?_
      refine z_aload_n 0 dX7_areAlike_78 rfl rfl (Nat.le_of_ble_eq_true rfl) rfl ?_
      refine z_iload_n 2 dX7_areAlike_79 rfl rfl rfl ?_
      refine z_iload dX7_areAlike_80 rfl rfl ?_
      refine z_callVi vX7_sheafStep kX7_140 dX7_areAlike_82 rfl (zRo_d d) (as := [vi l2, vi l5]) (rest := [vr 13 (l0 + 11), vi (h4 (l0 + 11) x3)]) (Nat.le_of_ble_eq_true rfl) rfl rfl (zCi_mono (fun x5 h6 k => ?_) k)
      obtain ⟨i9, k⟩ := k
      refine z_iald (x := (h6 (l0 + 11) x5)) dX7_areAlike_85 (by rw [zl7_11 w_l0]; exact i9) rfl rfl ?_
      obtain ⟨r1, r2, ka, kb⟩ := k
      refine z_icmp_ne (tgt := 93) dX7_areAlike_86 rfl r1 r2 rfl ⟨fun q => ?_, fun q => ?_⟩
      · have k := ka q
        refine z_iconst dX7_areAlike_93 rfl ?_
        refine z_istore dX7_areAlike_94 (Nat.le_of_ble_eq_true rfl) (L' := [some (vr 7 l0), some (vi l1), some (vi l2), none, some (vi 0), some (vi l5)]) rfl rfl ?_
        refine z_iinc dX7_areAlike_96 rfl (Nat.le_of_ble_eq_true rfl) (L' := [some (vr 7 l0), some (vi l1), some (vi l2), none, some (vi 0), some (vi (l5 + 1))]) rfl rfl ?_
        refine z_goto (tgt := 48) dX7_areAlike_99 rfl ?_
        exact z_sub (L' := [some (vr 7 l0), some (vi l1), some (vi l2), none, some (vi 0), some (vi (l5 + 1))]) (And.intro rfl (And.intro rfl (And.intro rfl (And.intro rfl (And.intro rfl trivial))))) k
      · have k := kb q
        refine z_iconst dX7_areAlike_89 rfl ?_
        refine z_goto (tgt := 94) dX7_areAlike_90 rfl ?_
        refine z_istore dX7_areAlike_94 (Nat.le_of_ble_eq_true rfl) (L' := [some (vr 7 l0), some (vi l1), some (vi l2), none, some (vi 1), some (vi l5)]) rfl rfl ?_
        refine z_iinc dX7_areAlike_96 rfl (Nat.le_of_ble_eq_true rfl) (L' := [some (vr 7 l0), some (vi l1), some (vi l2), none, some (vi 1), some (vi (l5 + 1))]) rfl rfl ?_
        refine z_goto (tgt := 48) dX7_areAlike_99 rfl ?_
        exact z_sub (L' := [some (vr 7 l0), some (vi l1), some (vi l2), none, some (vi 1), some (vi (l5 + 1))]) (And.intro rfl (And.intro rfl (And.intro rfl (And.intro rfl (And.intro rfl trivial))))) k
theorem eX7_areAlike {G : zG} {d : Nat} {K : Bool → zH → Prop} {l0 : Int} {l1 : Int} {l2 : Int} {l3 : Int} {h : zH} (k : tX7_areAlike_0 G d K l0 l1 l2 l3 h) : zCb G (d + 1) mX7_areAlike [vr 7 l0, vi l1, vi l2, vi l3] h K := z_entry (by decide +kernel) (Nat.le_of_ble_eq_true rfl) rfl k
def tX7_noteApart_0 (G : zG) (d : Nat) (K : zH → Prop) (l0 : Int) (l1 : Int) (h : zH) : Prop := zTv G d mX7_noteApart K 0 [some (vr 7 l0), some (vi l1), none, none] [] h
def tX7_noteApart_2 (G : zG) (d : Nat) (K : zH → Prop) (l0 : Int) (l1 : Int) (l2 : Int) (h : zH) : Prop := zTv G d mX7_noteApart K 2 [some (vr 7 l0), some (vi l1), some (vi l2), none] [] h
def tX7_noteApart_12 (G : zG) (d : Nat) (K : zH → Prop) (l0 : Int) (l1 : Int) (l2 : Int) (l3 : Int) (h : zH) : Prop := zTv G d mX7_noteApart K 12 [some (vr 7 l0), some (vi l1), some (vi l2), some (vi l3)] [] h
theorem bX7_noteApart_0 {G : zG} {d : Nat} {K : zH → Prop} {l0 : Int} {l1 : Int} {h : zH} (k : tX7_noteApart_2 G d K l0 l1 0 h) : tX7_noteApart_0 G d K l0 l1 h := by
  unfold tX7_noteApart_0
  refine z_iconst dX7_noteApart_0 rfl ?_
  refine z_istore_n 2 dX7_noteApart_1 rfl (Nat.le_of_ble_eq_true rfl) (L' := [some (vr 7 l0), some (vi l1), some (vi 0), none]) rfl rfl ?_
  exact z_sub (L' := [some (vr 7 l0), some (vi l1), some (vi 0), none]) (And.intro rfl (And.intro rfl (And.intro rfl trivial))) k
theorem bX7_noteApart_2 {G : zG} {d : Nat} {K : zH → Prop} {l0 : Int} {l1 : Int} {l2 : Int} {h : zH} (k : zR l2 ∧ zR (h l0 0) ∧ ((h l0 0) ≤ l2 → K h) ∧ (¬ (h l0 0) ≤ l2 → tX7_noteApart_12 G d K l0 l1 l2 0 h)) : tX7_noteApart_2 G d K l0 l1 l2 h := by
  unfold tX7_noteApart_2
  refine z_iload_n 2 dX7_noteApart_2 rfl rfl rfl ?_
  refine z_aload_n 0 dX7_noteApart_3 rfl rfl (Nat.le_of_ble_eq_true rfl) rfl ?_
  refine z_getI 7 (x := (h l0 0)) fX7_57 rfl dX7_noteApart_4 rfl rfl ?_
  obtain ⟨r1, r2, ka, kb⟩ := k
  refine z_icmp_ge (tgt := 74) dX7_noteApart_7 rfl r1 r2 rfl ⟨fun q => ?_, fun q => ?_⟩
  · have k := ka q
    exact z_return rfl dX7_noteApart_74 ⟨rfl, k⟩
  · have k := kb q
    refine z_iconst dX7_noteApart_10 rfl ?_
    refine z_istore_n 3 dX7_noteApart_11 rfl (Nat.le_of_ble_eq_true rfl) (L' := [some (vr 7 l0), some (vi l1), some (vi l2), some (vi 0)]) rfl rfl ?_
    exact z_sub (L' := [some (vr 7 l0), some (vi l1), some (vi l2), some (vi 0)]) (And.intro rfl (And.intro rfl (And.intro rfl (And.intro rfl trivial)))) k
theorem bX7_noteApart_12 {G : zG} {d : Nat} {K : zH → Prop} {l0 : Int} {l1 : Int} {l2 : Int} {l3 : Int} {h : zH} (k : zR l3 ∧ zR (h l0 0) ∧ ((h l0 0) ≤ l3 → tX7_noteApart_2 G d K l0 l1 (l2 + 1) h) ∧ (¬ (h l0 0) ≤ l3 → ((0 : Int) ≤ l2 ∧ l2 < 40) ∧ ((0 : Int) ≤ l3 ∧ l3 < 40) ∧ zR (h (l0 + 8) l2) ∧ zR (h (l0 + 8) l3) ∧ ((h (l0 + 8) l2) = (h (l0 + 8) l3) → tX7_noteApart_12 G d K l0 l1 l2 (l3 + 1) h) ∧ (¬ (h (l0 + 8) l2) = (h (l0 + 8) l3) → ((0 : Int) ≤ ((l2 * 40) + l3) ∧ ((l2 * 40) + l3) < 1600) ∧ zR (h (l0 + 10) ((l2 * 40) + l3)) ∧ (¬ (h (l0 + 10) ((l2 * 40) + l3)) = (-1) → tX7_noteApart_12 G d K l0 l1 l2 (l3 + 1) h) ∧ ((h (l0 + 10) ((l2 * 40) + l3)) = (-1) → ((0 : Int) ≤ ((l2 * 40) + l3) ∧ ((l2 * 40) + l3) < 1600) ∧ tX7_noteApart_12 G d K l0 l1 l2 (l3 + 1) (zup h (l0 + 10) ((l2 * 40) + l3) l1))))) : tX7_noteApart_12 G d K l0 l1 l2 l3 h := by
  unfold tX7_noteApart_12
  refine z_know (fun zo zs zv => ?_)
  have w_l0 : zvok (vr 7 l0) := zv _ (List.mem_of_getElem? (i := 0) rfl)
  refine z_iload_n 3 dX7_noteApart_12 rfl rfl rfl ?_
  refine z_aload_n 0 dX7_noteApart_13 rfl rfl (Nat.le_of_ble_eq_true rfl) rfl ?_
  refine z_getI 7 (x := (h l0 0)) fX7_57 rfl dX7_noteApart_14 rfl rfl ?_
  obtain ⟨r1, r2, ka, kb⟩ := k
  refine z_icmp_ge (tgt := 68) dX7_noteApart_17 rfl r1 r2 rfl ⟨fun q => ?_, fun q => ?_⟩
  · have k := ka q
    refine z_iinc dX7_noteApart_68 rfl (Nat.le_of_ble_eq_true rfl) (L' := [some (vr 7 l0), some (vi l1), some (vi (l2 + 1)), some (vi l3)]) rfl rfl ?_
    refine z_goto (tgt := 2) dX7_noteApart_71 rfl ?_
    exact z_sub (L' := [some (vr 7 l0), some (vi l1), some (vi (l2 + 1)), none]) (And.intro rfl (And.intro rfl (And.intro rfl trivial))) k
  · have k := kb q
    refine z_aload_n 0 dX7_noteApart_20 rfl rfl (Nat.le_of_ble_eq_true rfl) rfl ?_
    refine z_getF 7 13 (x := (l0 + 8)) fX7_34 rfl dX7_noteApart_21 (by omega) rfl ?_
    refine z_iload_n 2 dX7_noteApart_24 rfl rfl rfl ?_
    obtain ⟨i9, k⟩ := k
    refine z_iald (x := (h (l0 + 8) l2)) dX7_noteApart_25 (by rw [zl7_8 w_l0]; exact i9) rfl rfl ?_
    refine z_aload_n 0 dX7_noteApart_26 rfl rfl (Nat.le_of_ble_eq_true rfl) rfl ?_
    refine z_getF 7 13 (x := (l0 + 8)) fX7_34 rfl dX7_noteApart_27 (by omega) rfl ?_
    refine z_iload_n 3 dX7_noteApart_30 rfl rfl rfl ?_
    obtain ⟨i9, k⟩ := k
    refine z_iald (x := (h (l0 + 8) l3)) dX7_noteApart_31 (by rw [zl7_8 w_l0]; exact i9) rfl rfl ?_
    obtain ⟨r1, r2, ka, kb⟩ := k
    refine z_icmp_eq (tgt := 62) dX7_noteApart_32 rfl r1 r2 rfl ⟨fun q => ?_, fun q => ?_⟩
    · have k := ka q
      refine z_iinc dX7_noteApart_62 rfl (Nat.le_of_ble_eq_true rfl) (L' := [some (vr 7 l0), some (vi l1), some (vi l2), some (vi (l3 + 1))]) rfl rfl ?_
      refine z_goto (tgt := 12) dX7_noteApart_65 rfl ?_
      exact z_sub (L' := [some (vr 7 l0), some (vi l1), some (vi l2), some (vi (l3 + 1))]) (And.intro rfl (And.intro rfl (And.intro rfl (And.intro rfl trivial)))) k
    · have k := kb q
      refine z_aload_n 0 dX7_noteApart_35 rfl rfl (Nat.le_of_ble_eq_true rfl) rfl ?_
      refine z_getF 7 13 (x := (l0 + 10)) fX7_40 rfl dX7_noteApart_36 (by omega) rfl ?_
      refine z_iload_n 2 dX7_noteApart_39 rfl rfl rfl ?_
      refine z_bipush dX7_noteApart_40 rfl rfl ?_
      refine z_imul dX7_noteApart_42 rfl ?_
      refine z_iload_n 3 dX7_noteApart_43 rfl rfl rfl ?_
      refine z_iadd dX7_noteApart_44 rfl ?_
      obtain ⟨i9, k⟩ := k
      refine z_iald (x := (h (l0 + 10) ((l2 * 40) + l3))) dX7_noteApart_45 (by rw [zl7_10 w_l0]; exact i9) rfl rfl ?_
      refine z_iconst dX7_noteApart_46 rfl ?_
      obtain ⟨r1, ka, kb⟩ := k
      refine z_icmp_ne (tgt := 62) dX7_noteApart_47 rfl r1 ⟨by decide, by decide⟩ rfl ⟨fun q => ?_, fun q => ?_⟩
      · have k := ka q
        refine z_iinc dX7_noteApart_62 rfl (Nat.le_of_ble_eq_true rfl) (L' := [some (vr 7 l0), some (vi l1), some (vi l2), some (vi (l3 + 1))]) rfl rfl ?_
        refine z_goto (tgt := 12) dX7_noteApart_65 rfl ?_
        exact z_sub (L' := [some (vr 7 l0), some (vi l1), some (vi l2), some (vi (l3 + 1))]) (And.intro rfl (And.intro rfl (And.intro rfl (And.intro rfl trivial)))) k
      · have k := kb q
        refine z_aload_n 0 dX7_noteApart_50 rfl rfl (Nat.le_of_ble_eq_true rfl) rfl ?_
        refine z_getF 7 13 (x := (l0 + 10)) fX7_40 rfl dX7_noteApart_51 (by omega) rfl ?_
        refine z_iload_n 2 dX7_noteApart_54 rfl rfl rfl ?_
        refine z_bipush dX7_noteApart_55 rfl rfl ?_
        refine z_imul dX7_noteApart_57 rfl ?_
        refine z_iload_n 3 dX7_noteApart_58 rfl rfl rfl ?_
        refine z_iadd dX7_noteApart_59 rfl ?_
        refine z_iload_n 1 dX7_noteApart_60 rfl rfl rfl ?_
        obtain ⟨i9, k⟩ := k
        refine z_iast dX7_noteApart_61 (by rw [zl7_10 w_l0]; exact i9) rfl ?_
        refine z_iinc dX7_noteApart_62 rfl (Nat.le_of_ble_eq_true rfl) (L' := [some (vr 7 l0), some (vi l1), some (vi l2), some (vi (l3 + 1))]) rfl rfl ?_
        refine z_goto (tgt := 12) dX7_noteApart_65 rfl ?_
        exact z_sub (L' := [some (vr 7 l0), some (vi l1), some (vi l2), some (vi (l3 + 1))]) (And.intro rfl (And.intro rfl (And.intro rfl (And.intro rfl trivial)))) k
theorem eX7_noteApart {G : zG} {d : Nat} {K : zH → Prop} {l0 : Int} {l1 : Int} {h : zH} (k : tX7_noteApart_0 G d K l0 l1 h) : zCv G d mX7_noteApart [vr 7 l0, vi l1] h K := z_entry (by decide +kernel) (Nat.le_of_ble_eq_true rfl) rfl k
def tX7_sheafStep_0 (G : zG) (d : Nat) (K : Int → zH → Prop) (l0 : Int) (l1 : Int) (l2 : Int) (h : zH) : Prop := zTi G d mX7_sheafStep K 0 [some (vr 7 l0), some (vi l1), some (vi l2)] [] h
theorem bX7_sheafStep_0 {G : zG} {d : Nat} {K : Int → zH → Prop} {l0 : Int} {l1 : Int} {l2 : Int} {h : zH} (k : ((0 : Int) ≤ ((l1 * 128) + l2) ∧ ((l1 * 128) + l2) < 5120) ∧ K (h (l0 + 2) ((l1 * 128) + l2)) h) : tX7_sheafStep_0 G d K l0 l1 l2 h := by
  unfold tX7_sheafStep_0
  refine z_know (fun zo zs zv => ?_)
  have w_l0 : zvok (vr 7 l0) := zv _ (List.mem_of_getElem? (i := 0) rfl)
  refine z_aload_n 0 dX7_sheafStep_0 rfl rfl (Nat.le_of_ble_eq_true rfl) rfl ?_
  refine z_getF 7 13 (x := (l0 + 2)) fX7_15 rfl dX7_sheafStep_1 (by omega) rfl ?_
  refine z_iload_n 1 dX7_sheafStep_4 rfl rfl rfl ?_
  refine z_sipush dX7_sheafStep_5 rfl rfl ?_
  refine z_imul dX7_sheafStep_8 rfl ?_
  refine z_iload_n 2 dX7_sheafStep_9 rfl rfl rfl ?_
  refine z_iadd dX7_sheafStep_10 rfl ?_
  obtain ⟨i9, k⟩ := k
  refine z_iald (x := (h (l0 + 2) ((l1 * 128) + l2))) dX7_sheafStep_11 (by rw [zl7_2 w_l0]; exact i9) rfl rfl ?_
  exact z_ireturn rfl dX7_sheafStep_12 ⟨_, rfl, k⟩
theorem eX7_sheafStep {G : zG} {d : Nat} {K : Int → zH → Prop} {l0 : Int} {l1 : Int} {l2 : Int} {h : zH} (k : tX7_sheafStep_0 G d K l0 l1 l2 h) : zCi G d mX7_sheafStep [vr 7 l0, vi l1, vi l2] h K := z_entry (by decide +kernel) (Nat.le_of_ble_eq_true rfl) rfl k
def tX7_sheafTakes_0 (G : zG) (d : Nat) (K : Bool → zH → Prop) (l0 : Int) (l1 : Int) (h : zH) : Prop := zTb G d mX7_sheafTakes K 0 [some (vr 7 l0), some (vi l1)] [] h
theorem bX7_sheafTakes_0 {G : zG} {d : Nat} {K : Bool → zH → Prop} {l0 : Int} {l1 : Int} {h : zH} (k : (¬ (zcmp (zland (zlushr (h l0 6) l1) 1) 1) = 0 → K false h) ∧ ((zcmp (zland (zlushr (h l0 6) l1) 1) 1) = 0 → K true h)) : tX7_sheafTakes_0 G d K l0 l1 h := by
  unfold tX7_sheafTakes_0
  refine z_aload_n 0 dX7_sheafTakes_0 rfl rfl (Nat.le_of_ble_eq_true rfl) rfl ?_
  refine z_getL 7 (x := (h l0 6)) fX7_60 rfl dX7_sheafTakes_1 rfl rfl ?_
  refine z_iload_n 1 dX7_sheafTakes_4 rfl rfl rfl ?_
  refine z_lushr dX7_sheafTakes_5 rfl ?_
  refine z_lconst (x := 1) dX7_sheafTakes_6 rfl rfl ?_
  refine z_land dX7_sheafTakes_7 rfl ?_
  refine z_lconst (x := 1) dX7_sheafTakes_8 rfl rfl ?_
  refine z_lcmp dX7_sheafTakes_9 rfl ?_
  obtain ⟨ka, kb⟩ := k
  refine z_if_ne (tgt := 17) dX7_sheafTakes_10 rfl (zcmp_R _ _) rfl ⟨fun q => ?_, fun q => ?_⟩
  · have k := ka q
    refine z_iconst dX7_sheafTakes_17 rfl ?_
    exact z_zreturn rfl (Or.inl rfl) dX7_sheafTakes_18 ⟨false, rfl, k⟩
  · have k := kb q
    refine z_iconst dX7_sheafTakes_13 rfl ?_
    refine z_goto (tgt := 18) dX7_sheafTakes_14 rfl ?_
    exact z_zreturn rfl (Or.inr rfl) dX7_sheafTakes_18 ⟨true, rfl, k⟩
theorem eX7_sheafTakes {G : zG} {d : Nat} {K : Bool → zH → Prop} {l0 : Int} {l1 : Int} {h : zH} (k : tX7_sheafTakes_0 G d K l0 l1 h) : zCb G d mX7_sheafTakes [vr 7 l0, vi l1] h K := z_entry (by decide +kernel) (Nat.le_of_ble_eq_true rfl) rfl k
def tX7_classStep_0 (G : zG) (d : Nat) (K : Int → zH → Prop) (l0 : Int) (l1 : Int) (l2 : Int) (h : zH) : Prop := zTi G (d + 1) mX7_classStep K 0 [some (vr 7 l0), some (vi l1), some (vi l2)] [] h
theorem bX7_classStep_0 {G : zG} {d : Nat} {K : Int → zH → Prop} {l0 : Int} {l1 : Int} {l2 : Int} {h : zH} (k : ((0 : Int) ≤ l1 ∧ l1 < 40) ∧ zCi G d mX7_sheafStep [vr 7 l0, vi (h (l0 + 9) l1), vi l2] h (fun x1 h2 => ((0 : Int) ≤ x1 ∧ x1 < 40) ∧ K (h2 (l0 + 8) x1) h2)) : tX7_classStep_0 G d K l0 l1 l2 h := by
  unfold tX7_classStep_0
  refine z_know (fun zo zs zv => ?_)
  have w_l0 : zvok (vr 7 l0) := zv _ (List.mem_of_getElem? (i := 0) rfl)
  refine z_aload_n 0 dX7_classStep_0 rfl rfl (Nat.le_of_ble_eq_true rfl) rfl ?_
  refine z_getF 7 13 (x := (l0 + 8)) fX7_34 rfl dX7_classStep_1 (by omega) rfl ?_
  refine z_aload_n 0 dX7_classStep_4 rfl rfl (Nat.le_of_ble_eq_true rfl) rfl ?_
  refine z_aload_n 0 dX7_classStep_5 rfl rfl (Nat.le_of_ble_eq_true rfl) rfl ?_
  refine z_getF 7 13 (x := (l0 + 9)) fX7_37 rfl dX7_classStep_6 (by omega) rfl ?_
  refine z_iload_n 1 dX7_classStep_9 rfl rfl rfl ?_
  obtain ⟨i9, k⟩ := k
  refine z_iald (x := (h (l0 + 9) l1)) dX7_classStep_10 (by rw [zl7_9 w_l0]; exact i9) rfl rfl ?_
  refine z_iload_n 2 dX7_classStep_11 rfl rfl rfl ?_
  refine z_callVi vX7_sheafStep kX7_140 dX7_classStep_12 rfl (zRo_d d) (as := [vi (h (l0 + 9) l1), vi l2]) (rest := [vr 13 (l0 + 8)]) (Nat.le_of_ble_eq_true rfl) rfl rfl (zCi_mono (fun x1 h2 k => ?_) k)
  obtain ⟨i9, k⟩ := k
  refine z_iald (x := (h2 (l0 + 8) x1)) dX7_classStep_15 (by rw [zl7_8 w_l0]; exact i9) rfl rfl ?_
  exact z_ireturn rfl dX7_classStep_16 ⟨_, rfl, k⟩
theorem eX7_classStep {G : zG} {d : Nat} {K : Int → zH → Prop} {l0 : Int} {l1 : Int} {l2 : Int} {h : zH} (k : tX7_classStep_0 G d K l0 l1 l2 h) : zCi G (d + 1) mX7_classStep [vr 7 l0, vi l1, vi l2] h K := z_entry (by decide +kernel) (Nat.le_of_ble_eq_true rfl) rfl k
def tX7_classTakes_0 (G : zG) (d : Nat) (K : Bool → zH → Prop) (l0 : Int) (l1 : Int) (h : zH) : Prop := zTb G (d + 1) mX7_classTakes K 0 [some (vr 7 l0), some (vi l1)] [] h
theorem bX7_classTakes_0 {G : zG} {d : Nat} {K : Bool → zH → Prop} {l0 : Int} {l1 : Int} {h : zH} (k : ((0 : Int) ≤ l1 ∧ l1 < 40) ∧ zCb G d mX7_sheafTakes [vr 7 l0, vi (h (l0 + 9) l1)] h (fun x1 h2 => K x1 h2)) : tX7_classTakes_0 G d K l0 l1 h := by
  unfold tX7_classTakes_0
  refine z_know (fun zo zs zv => ?_)
  have w_l0 : zvok (vr 7 l0) := zv _ (List.mem_of_getElem? (i := 0) rfl)
  refine z_aload_n 0 dX7_classTakes_0 rfl rfl (Nat.le_of_ble_eq_true rfl) rfl ?_
  refine z_aload_n 0 dX7_classTakes_1 rfl rfl (Nat.le_of_ble_eq_true rfl) rfl ?_
  refine z_getF 7 13 (x := (l0 + 9)) fX7_37 rfl dX7_classTakes_2 (by omega) rfl ?_
  refine z_iload_n 1 dX7_classTakes_5 rfl rfl rfl ?_
  obtain ⟨i9, k⟩ := k
  refine z_iald (x := (h (l0 + 9) l1)) dX7_classTakes_6 (by rw [zl7_9 w_l0]; exact i9) rfl rfl ?_
  refine z_callVb vX7_sheafTakes kX7_136 dX7_classTakes_7 rfl (zRo_d d) (as := [vi (h (l0 + 9) l1)]) (rest := []) (Nat.le_of_ble_eq_true rfl) rfl rfl (zCb_mono (fun x1 h2 k => ?_) k)
  exact z_zreturn rfl (bi_01 _) dX7_classTakes_10 ⟨_, rfl, k⟩
theorem eX7_classTakes {G : zG} {d : Nat} {K : Bool → zH → Prop} {l0 : Int} {l1 : Int} {h : zH} (k : tX7_classTakes_0 G d K l0 l1 h) : zCb G (d + 1) mX7_classTakes [vr 7 l0, vi l1] h K := z_entry (by decide +kernel) (Nat.le_of_ble_eq_true rfl) rfl k
def tX7_classesApart_0 (G : zG) (d : Nat) (K : Int → zH → Prop) (l0 : Int) (l1 : Int) (l2 : Int) (h : zH) : Prop := zTi G d mX7_classesApart K 0 [some (vr 7 l0), some (vi l1), some (vi l2)] [] h
theorem bX7_classesApart_0 {G : zG} {d : Nat} {K : Int → zH → Prop} {l0 : Int} {l1 : Int} {l2 : Int} {h : zH} (k : ((0 : Int) ≤ l1 ∧ l1 < 40) ∧ ((0 : Int) ≤ l2 ∧ l2 < 40) ∧ ((0 : Int) ≤ (((h (l0 + 9) l1) * 40) + (h (l0 + 9) l2)) ∧ (((h (l0 + 9) l1) * 40) + (h (l0 + 9) l2)) < 1600) ∧ K (h (l0 + 10) (((h (l0 + 9) l1) * 40) + (h (l0 + 9) l2))) h) : tX7_classesApart_0 G d K l0 l1 l2 h := by
  unfold tX7_classesApart_0
  refine z_know (fun zo zs zv => ?_)
  have w_l0 : zvok (vr 7 l0) := zv _ (List.mem_of_getElem? (i := 0) rfl)
  refine z_aload_n 0 dX7_classesApart_0 rfl rfl (Nat.le_of_ble_eq_true rfl) rfl ?_
  refine z_getF 7 13 (x := (l0 + 10)) fX7_40 rfl dX7_classesApart_1 (by omega) rfl ?_
  refine z_aload_n 0 dX7_classesApart_4 rfl rfl (Nat.le_of_ble_eq_true rfl) rfl ?_
  refine z_getF 7 13 (x := (l0 + 9)) fX7_37 rfl dX7_classesApart_5 (by omega) rfl ?_
  refine z_iload_n 1 dX7_classesApart_8 rfl rfl rfl ?_
  obtain ⟨i9, k⟩ := k
  refine z_iald (x := (h (l0 + 9) l1)) dX7_classesApart_9 (by rw [zl7_9 w_l0]; exact i9) rfl rfl ?_
  refine z_bipush dX7_classesApart_10 rfl rfl ?_
  refine z_imul dX7_classesApart_12 rfl ?_
  refine z_aload_n 0 dX7_classesApart_13 rfl rfl (Nat.le_of_ble_eq_true rfl) rfl ?_
  refine z_getF 7 13 (x := (l0 + 9)) fX7_37 rfl dX7_classesApart_14 (by omega) rfl ?_
  refine z_iload_n 2 dX7_classesApart_17 rfl rfl rfl ?_
  obtain ⟨i9, k⟩ := k
  refine z_iald (x := (h (l0 + 9) l2)) dX7_classesApart_18 (by rw [zl7_9 w_l0]; exact i9) rfl rfl ?_
  refine z_iadd dX7_classesApart_19 rfl ?_
  obtain ⟨i9, k⟩ := k
  refine z_iald (x := (h (l0 + 10) (((h (l0 + 9) l1) * 40) + (h (l0 + 9) l2)))) dX7_classesApart_20 (by rw [zl7_10 w_l0]; exact i9) rfl rfl ?_
  exact z_ireturn rfl dX7_classesApart_21 ⟨_, rfl, k⟩
theorem eX7_classesApart {G : zG} {d : Nat} {K : Int → zH → Prop} {l0 : Int} {l1 : Int} {l2 : Int} {h : zH} (k : tX7_classesApart_0 G d K l0 l1 l2 h) : zCi G d mX7_classesApart [vr 7 l0, vi l1, vi l2] h K := z_entry (by decide +kernel) (Nat.le_of_ble_eq_true rfl) rfl k
def tX7_deadClass_0 (G : zG) (d : Nat) (K : Int → zH → Prop) (l0 : Int) (h : zH) : Prop := zTi G (d + 1) mX7_deadClass K 0 [some (vr 7 l0), none] [] h
def tX7_deadClass_2 (G : zG) (d : Nat) (K : Int → zH → Prop) (l0 : Int) (l1 : Int) (h : zH) : Prop := zTi G (d + 1) mX7_deadClass K 2 [some (vr 7 l0), some (vi l1)] [] h
theorem bX7_deadClass_0 {G : zG} {d : Nat} {K : Int → zH → Prop} {l0 : Int} {h : zH} (k : tX7_deadClass_2 G d K l0 0 h) : tX7_deadClass_0 G d K l0 h := by
  unfold tX7_deadClass_0
  refine z_iconst dX7_deadClass_0 rfl ?_
  refine z_istore_n 1 dX7_deadClass_1 rfl (Nat.le_of_ble_eq_true rfl) (L' := [some (vr 7 l0), some (vi 0)]) rfl rfl ?_
  exact z_sub (L' := [some (vr 7 l0), some (vi 0)]) (And.intro rfl (And.intro rfl trivial)) k
theorem bX7_deadClass_2 {G : zG} {d : Nat} {K : Int → zH → Prop} {l0 : Int} {l1 : Int} {h : zH} (k : zR l1 ∧ zR (h l0 10) ∧ ((h l0 10) ≤ l1 → K (-2) h) ∧ (¬ (h l0 10) ≤ l1 → zCb G d mX7_classTakes [vr 7 l0, vi l1] h (fun x1 h2 => (x1 = true → tX7_deadClass_2 G d K l0 (l1 + 1) h2) ∧ (x1 = false → zCl G d mX7_classesAfter [vr 7 l0, vl (zlshl 1 l1)] h2 (fun x3 h4 => (¬ (zcmp x3 (zlshl 1 l1)) = 0 → tX7_deadClass_2 G d K l0 (l1 + 1) h4) ∧ ((zcmp x3 (zlshl 1 l1)) = 0 → K l1 h4)))))) : tX7_deadClass_2 G d K l0 l1 h := by
  unfold tX7_deadClass_2
  refine z_iload_n 1 dX7_deadClass_2 rfl rfl rfl ?_
  refine z_aload_n 0 dX7_deadClass_3 rfl rfl (Nat.le_of_ble_eq_true rfl) rfl ?_
  refine z_getI 7 (x := (h l0 10)) fX7_113 rfl dX7_deadClass_4 rfl rfl ?_
  obtain ⟨r1, r2, ka, kb⟩ := k
  refine z_icmp_ge (tgt := 40) dX7_deadClass_7 rfl r1 r2 rfl ⟨fun q => ?_, fun q => ?_⟩
  · have k := ka q
    refine z_bipush dX7_deadClass_40 rfl rfl ?_
    exact z_ireturn rfl dX7_deadClass_42 ⟨_, rfl, k⟩
  · have k := kb q
    refine z_aload_n 0 dX7_deadClass_10 rfl rfl (Nat.le_of_ble_eq_true rfl) rfl ?_
    refine z_iload_n 1 dX7_deadClass_11 rfl rfl rfl ?_
    refine z_callVb vX7_classTakes kX7_144 dX7_deadClass_12 rfl (zRo_d d) (as := [vi l1]) (rest := []) (Nat.le_of_ble_eq_true rfl) rfl rfl (zCb_mono (fun x1 h2 k => ?_) k)
    obtain ⟨ka, kb⟩ := k
    refine z_ifb_ne (tgt := 34) dX7_deadClass_15 rfl rfl ⟨fun q => ?_, fun q => ?_⟩
    · have k := ka q
      refine z_iinc dX7_deadClass_34 rfl (Nat.le_of_ble_eq_true rfl) (L' := [some (vr 7 l0), some (vi (l1 + 1))]) rfl rfl ?_
      refine z_goto (tgt := 2) dX7_deadClass_37 rfl ?_
      exact z_sub (L' := [some (vr 7 l0), some (vi (l1 + 1))]) (And.intro rfl (And.intro rfl trivial)) k
    · have k := kb q
      refine z_aload_n 0 dX7_deadClass_18 rfl rfl (Nat.le_of_ble_eq_true rfl) rfl ?_
      refine z_lconst (x := 1) dX7_deadClass_19 rfl rfl ?_
      refine z_iload_n 1 dX7_deadClass_20 rfl rfl rfl ?_
      refine z_lshl dX7_deadClass_21 rfl ?_
      refine z_callVl vX7_classesAfter kX7_147 dX7_deadClass_22 rfl (zRo_d d) (as := [vl (zlshl 1 l1)]) (rest := []) (Nat.le_of_ble_eq_true rfl) rfl rfl (zCl_mono (fun x3 h4 k => ?_) k)
      refine z_lconst (x := 1) dX7_deadClass_25 rfl rfl ?_
      refine z_iload_n 1 dX7_deadClass_26 rfl rfl rfl ?_
      refine z_lshl dX7_deadClass_27 rfl ?_
      refine z_lcmp dX7_deadClass_28 rfl ?_
      obtain ⟨ka, kb⟩ := k
      refine z_if_ne (tgt := 34) dX7_deadClass_29 rfl (zcmp_R _ _) rfl ⟨fun q => ?_, fun q => ?_⟩
      · have k := ka q
        refine z_iinc dX7_deadClass_34 rfl (Nat.le_of_ble_eq_true rfl) (L' := [some (vr 7 l0), some (vi (l1 + 1))]) rfl rfl ?_
        refine z_goto (tgt := 2) dX7_deadClass_37 rfl ?_
        exact z_sub (L' := [some (vr 7 l0), some (vi (l1 + 1))]) (And.intro rfl (And.intro rfl trivial)) k
      · have k := kb q
        refine z_iload_n 1 dX7_deadClass_32 rfl rfl rfl ?_
        exact z_ireturn rfl dX7_deadClass_33 ⟨_, rfl, k⟩
theorem eX7_deadClass {G : zG} {d : Nat} {K : Int → zH → Prop} {l0 : Int} {h : zH} (k : tX7_deadClass_0 G d K l0 h) : zCi G (d + 1) mX7_deadClass [vr 7 l0] h K := z_entry (by decide +kernel) (Nat.le_of_ble_eq_true rfl) rfl k
def tX7_classesAfter_0 (G : zG) (d : Nat) (K : Int → zH → Prop) (l0 : Int) (l1 : Int) (h : zH) : Prop := zTl G (d + 1) mX7_classesAfter K 0 [some (vr 7 l0), some (vl l1), none, none, none, none, none] [] h
def tX7_classesAfter_5 (G : zG) (d : Nat) (K : Int → zH → Prop) (l0 : Int) (l1 : Int) (l3 : Int) (l5 : Int) (h : zH) : Prop := zTl G (d + 1) mX7_classesAfter K 5 [some (vr 7 l0), some (vl l1), none, some (vl l3), none, some (vi l5), none] [] h
def tX7_classesAfter_17 (G : zG) (d : Nat) (K : Int → zH → Prop) (l0 : Int) (l1 : Int) (l3 : Int) (l5 : Int) (l6 : Int) (h : zH) : Prop := zTl G (d + 1) mX7_classesAfter K 17 [some (vr 7 l0), some (vl l1), none, some (vl l3), none, some (vi l5), some (vi l6)] [] h
theorem bX7_classesAfter_0 {G : zG} {d : Nat} {K : Int → zH → Prop} {l0 : Int} {l1 : Int} {h : zH} (k : tX7_classesAfter_5 G d K l0 l1 0 0 h) : tX7_classesAfter_0 G d K l0 l1 h := by
  unfold tX7_classesAfter_0
  refine z_lconst (x := 0) dX7_classesAfter_0 rfl rfl ?_
  refine z_lstore_n 3 dX7_classesAfter_1 rfl (Nat.le_of_ble_eq_true rfl) (L' := [some (vr 7 l0), some (vl l1), none, some (vl 0), none, none, none]) rfl rfl ?_
  refine z_iconst dX7_classesAfter_2 rfl ?_
  refine z_istore dX7_classesAfter_3 (Nat.le_of_ble_eq_true rfl) (L' := [some (vr 7 l0), some (vl l1), none, some (vl 0), none, some (vi 0), none]) rfl rfl ?_
  exact z_sub (L' := [some (vr 7 l0), some (vl l1), none, some (vl 0), none, some (vi 0), none]) (And.intro rfl (And.intro rfl (And.intro rfl (And.intro rfl trivial)))) k
theorem bX7_classesAfter_5 {G : zG} {d : Nat} {K : Int → zH → Prop} {l0 : Int} {l1 : Int} {l3 : Int} {l5 : Int} {h : zH} (k : zR l5 ∧ zR (h l0 10) ∧ ((h l0 10) ≤ l5 → K l3 h) ∧ (¬ (h l0 10) ≤ l5 → tX7_classesAfter_17 G d K l0 l1 l3 l5 0 h)) : tX7_classesAfter_5 G d K l0 l1 l3 l5 h := by
  unfold tX7_classesAfter_5
  refine z_iload dX7_classesAfter_5 rfl rfl ?_
  refine z_aload_n 0 dX7_classesAfter_7 rfl rfl (Nat.le_of_ble_eq_true rfl) rfl ?_
  refine z_getI 7 (x := (h l0 10)) fX7_113 rfl dX7_classesAfter_8 rfl rfl ?_
  obtain ⟨r1, r2, ka, kb⟩ := k
  refine z_icmp_ge (tgt := 62) dX7_classesAfter_11 rfl r1 r2 rfl ⟨fun q => ?_, fun q => ?_⟩
  · have k := ka q
    refine z_lload_n 3 dX7_classesAfter_62 rfl rfl rfl ?_
    exact z_lreturn rfl dX7_classesAfter_63 ⟨_, rfl, k⟩
  · have k := kb q
    refine z_iconst dX7_classesAfter_14 rfl ?_
    refine z_istore dX7_classesAfter_15 (Nat.le_of_ble_eq_true rfl) (L' := [some (vr 7 l0), some (vl l1), none, some (vl l3), none, some (vi l5), some (vi 0)]) rfl rfl ?_
    exact z_sub (L' := [some (vr 7 l0), some (vl l1), none, some (vl l3), none, some (vi l5), some (vi 0)]) (And.intro rfl (And.intro rfl (And.intro rfl (And.intro rfl (And.intro rfl trivial))))) k
theorem bX7_classesAfter_17 {G : zG} {d : Nat} {K : Int → zH → Prop} {l0 : Int} {l1 : Int} {l3 : Int} {l5 : Int} {l6 : Int} {h : zH} (k : (¬ (zcmp (zland (zlushr l1 l5) 1) 1) = 0 → tX7_classesAfter_5 G d K l0 l1 l3 (l5 + 1) h) ∧ ((zcmp (zland (zlushr l1 l5) 1) 1) = 0 → zR l6 ∧ zR (h l0 7) ∧ ((h l0 7) ≤ l6 → tX7_classesAfter_5 G d K l0 l1 l3 (l5 + 1) h) ∧ (¬ (h l0 7) ≤ l6 → zCi G d mX7_classStep [vr 7 l0, vi l5, vi l6] h (fun x1 h2 => tX7_classesAfter_17 G d K l0 l1 (zlor l3 (zlshl 1 x1)) l5 (l6 + 1) h2)))) : tX7_classesAfter_17 G d K l0 l1 l3 l5 l6 h := by
  unfold tX7_classesAfter_17
  refine z_lload_n 1 dX7_classesAfter_17 rfl rfl rfl ?_
  refine z_iload dX7_classesAfter_18 rfl rfl ?_
  refine z_lushr dX7_classesAfter_20 rfl ?_
  refine z_lconst (x := 1) dX7_classesAfter_21 rfl rfl ?_
  refine z_land dX7_classesAfter_22 rfl ?_
  refine z_lconst (x := 1) dX7_classesAfter_23 rfl rfl ?_
  refine z_lcmp dX7_classesAfter_24 rfl ?_
  obtain ⟨ka, kb⟩ := k
  refine z_if_ne (tgt := 56) dX7_classesAfter_25 rfl (zcmp_R _ _) rfl ⟨fun q => ?_, fun q => ?_⟩
  · have k := ka q
    refine z_iinc dX7_classesAfter_56 rfl (Nat.le_of_ble_eq_true rfl) (L' := [some (vr 7 l0), some (vl l1), none, some (vl l3), none, some (vi (l5 + 1)), some (vi l6)]) rfl rfl ?_
    refine z_goto (tgt := 5) dX7_classesAfter_59 rfl ?_
    exact z_sub (L' := [some (vr 7 l0), some (vl l1), none, some (vl l3), none, some (vi (l5 + 1)), none]) (And.intro rfl (And.intro rfl (And.intro rfl (And.intro rfl trivial)))) k
  · have k := kb q
    refine z_iload dX7_classesAfter_28 rfl rfl ?_
    refine z_aload_n 0 dX7_classesAfter_30 rfl rfl (Nat.le_of_ble_eq_true rfl) rfl ?_
    refine z_getI 7 (x := (h l0 7)) fX7_52 rfl dX7_classesAfter_31 rfl rfl ?_
    obtain ⟨r1, r2, ka, kb⟩ := k
    refine z_icmp_ge (tgt := 56) dX7_classesAfter_34 rfl r1 r2 rfl ⟨fun q => ?_, fun q => ?_⟩
    · have k := ka q
      refine z_iinc dX7_classesAfter_56 rfl (Nat.le_of_ble_eq_true rfl) (L' := [some (vr 7 l0), some (vl l1), none, some (vl l3), none, some (vi (l5 + 1)), some (vi l6)]) rfl rfl ?_
      refine z_goto (tgt := 5) dX7_classesAfter_59 rfl ?_
      exact z_sub (L' := [some (vr 7 l0), some (vl l1), none, some (vl l3), none, some (vi (l5 + 1)), none]) (And.intro rfl (And.intro rfl (And.intro rfl (And.intro rfl trivial)))) k
    · have k := kb q
      refine z_lload_n 3 dX7_classesAfter_37 rfl rfl rfl ?_
      refine z_lconst (x := 1) dX7_classesAfter_38 rfl rfl ?_
      refine z_aload_n 0 dX7_classesAfter_39 rfl rfl (Nat.le_of_ble_eq_true rfl) rfl ?_
      refine z_iload dX7_classesAfter_40 rfl rfl ?_
      refine z_iload dX7_classesAfter_42 rfl rfl ?_
      refine z_callVi vX7_classStep kX7_151 dX7_classesAfter_44 rfl (zRo_d d) (as := [vi l5, vi l6]) (rest := [vl 1, vl l3]) (Nat.le_of_ble_eq_true rfl) rfl rfl (zCi_mono (fun x1 h2 k => ?_) k)
      refine z_lshl dX7_classesAfter_47 rfl ?_
      refine z_lor dX7_classesAfter_48 rfl ?_
      refine z_lstore_n 3 dX7_classesAfter_49 rfl (Nat.le_of_ble_eq_true rfl) (L' := [some (vr 7 l0), some (vl l1), none, some (vl (zlor l3 (zlshl 1 x1))), none, some (vi l5), some (vi l6)]) rfl rfl ?_
      refine z_iinc dX7_classesAfter_50 rfl (Nat.le_of_ble_eq_true rfl) (L' := [some (vr 7 l0), some (vl l1), none, some (vl (zlor l3 (zlshl 1 x1))), none, some (vi l5), some (vi (l6 + 1))]) rfl rfl ?_
      refine z_goto (tgt := 17) dX7_classesAfter_53 rfl ?_
      exact z_sub (L' := [some (vr 7 l0), some (vl l1), none, some (vl (zlor l3 (zlshl 1 x1))), none, some (vi l5), some (vi (l6 + 1))]) (And.intro rfl (And.intro rfl (And.intro rfl (And.intro rfl (And.intro rfl trivial))))) k
theorem eX7_classesAfter {G : zG} {d : Nat} {K : Int → zH → Prop} {l0 : Int} {l1 : Int} {h : zH} (k : tX7_classesAfter_0 G d K l0 l1 h) : zCl G (d + 1) mX7_classesAfter [vr 7 l0, vl l1] h K := z_entry (by decide +kernel) (Nat.le_of_ble_eq_true rfl) rfl k
def tX7_blockOnWay_0 (G : zG) (d : Nat) (K : Int → zH → Prop) (l0 : Int) (l1 : Int) (l2 : Int) (h : zH) : Prop := zTi G (d + 1) mX7_blockOnWay K 0 [some (vr 7 l0), some (vi l1), some (vi l2), none, none] [] h
def tX7_blockOnWay_12 (G : zG) (d : Nat) (K : Int → zH → Prop) (l0 : Int) (l2 : Int) (l3 : Int) (l4 : Int) (h : zH) : Prop := zTi G (d + 1) mX7_blockOnWay K 12 [some (vr 7 l0), none, some (vi l2), some (vi l3), some (vi l4)] [] h
theorem bX7_blockOnWay_0 {G : zG} {d : Nat} {K : Int → zH → Prop} {l0 : Int} {l1 : Int} {l2 : Int} {h : zH} (k : ((0 : Int) ≤ l1 ∧ l1 < 40) ∧ tX7_blockOnWay_12 G d K l0 l2 l1 ((h (l0 + 5) l1) - 1) h) : tX7_blockOnWay_0 G d K l0 l1 l2 h := by
  unfold tX7_blockOnWay_0
  refine z_know (fun zo zs zv => ?_)
  have w_l0 : zvok (vr 7 l0) := zv _ (List.mem_of_getElem? (i := 0) rfl)
  refine z_iload_n 1 dX7_blockOnWay_0 rfl rfl rfl ?_
  refine z_istore_n 3 dX7_blockOnWay_1 rfl (Nat.le_of_ble_eq_true rfl) (L' := [some (vr 7 l0), some (vi l1), some (vi l2), some (vi l1), none]) rfl rfl ?_
  refine z_aload_n 0 dX7_blockOnWay_2 rfl rfl (Nat.le_of_ble_eq_true rfl) rfl ?_
  refine z_getF 7 13 (x := (l0 + 5)) fX7_25 rfl dX7_blockOnWay_3 (by omega) rfl ?_
  refine z_iload_n 1 dX7_blockOnWay_6 rfl rfl rfl ?_
  obtain ⟨i9, k⟩ := k
  refine z_iald (x := (h (l0 + 5) l1)) dX7_blockOnWay_7 (by rw [zl7_5 w_l0]; exact i9) rfl rfl ?_
  refine z_iconst dX7_blockOnWay_8 rfl ?_
  refine z_isub dX7_blockOnWay_9 rfl ?_
  refine z_istore dX7_blockOnWay_10 (Nat.le_of_ble_eq_true rfl) (L' := [some (vr 7 l0), some (vi l1), some (vi l2), some (vi l1), some (vi ((h (l0 + 5) l1) - 1))]) rfl rfl ?_
  exact z_sub (L' := [some (vr 7 l0), none, some (vi l2), some (vi l1), some (vi ((h (l0 + 5) l1) - 1))]) (And.intro rfl (And.intro rfl (And.intro rfl (And.intro rfl trivial)))) k
theorem bX7_blockOnWay_12 {G : zG} {d : Nat} {K : Int → zH → Prop} {l0 : Int} {l2 : Int} {l3 : Int} {l4 : Int} {h : zH} (k : zR l4 ∧ zR l2 ∧ (l4 ≤ l2 → ((0 : Int) ≤ l3 ∧ l3 < 40) ∧ zR (h (l0 + 4) l3) ∧ K (max (h (l0 + 4) l3) 0) h) ∧ (¬ l4 ≤ l2 → ((0 : Int) ≤ l3 ∧ l3 < 40) ∧ zR (h (l0 + 3) l3) ∧ ((h (l0 + 3) l3) < 0 → ((0 : Int) ≤ l3 ∧ l3 < 40) ∧ zR (h (l0 + 4) l3) ∧ K (max (h (l0 + 4) l3) 0) h) ∧ (¬ (h (l0 + 3) l3) < 0 → ((0 : Int) ≤ l3 ∧ l3 < 40) ∧ tX7_blockOnWay_12 G d K l0 l2 (h (l0 + 3) l3) (l4 + (-1)) h))) : tX7_blockOnWay_12 G d K l0 l2 l3 l4 h := by
  unfold tX7_blockOnWay_12
  refine z_know (fun zo zs zv => ?_)
  have w_l0 : zvok (vr 7 l0) := zv _ (List.mem_of_getElem? (i := 0) rfl)
  refine z_iload dX7_blockOnWay_12 rfl rfl ?_
  refine z_iload_n 2 dX7_blockOnWay_14 rfl rfl rfl ?_
  obtain ⟨r1, r2, ka, kb⟩ := k
  refine z_icmp_le (tgt := 40) dX7_blockOnWay_15 rfl r1 r2 rfl ⟨fun q => ?_, fun q => ?_⟩
  · have k := ka q
    refine z_aload_n 0 dX7_blockOnWay_40 rfl rfl (Nat.le_of_ble_eq_true rfl) rfl ?_
    refine z_getF 7 13 (x := (l0 + 4)) fX7_22 rfl dX7_blockOnWay_41 (by omega) rfl ?_
    refine z_iload_n 3 dX7_blockOnWay_44 rfl rfl rfl ?_
    obtain ⟨i9, k⟩ := k
    refine z_iald (x := (h (l0 + 4) l3)) dX7_blockOnWay_45 (by rw [zl7_4 w_l0]; exact i9) rfl rfl ?_
    refine z_iconst dX7_blockOnWay_46 rfl ?_
    obtain ⟨r1, k⟩ := k
    refine z_mmax (z := (max (h (l0 + 4) l3) 0)) kX7_154 kmax.1 kmax.2.1 kmax.2.2 dX7_blockOnWay_47 r1 ⟨by decide, by decide⟩ ⟨Nat.le_add_left 1 d, (by show _ ≤ 64 * (d + 1); rw [show zcat _ = 0 from rfl]; omega), Nat.le_refl _, Nat.le_refl _⟩ rfl rfl ?_
    exact z_ireturn rfl dX7_blockOnWay_50 ⟨_, rfl, k⟩
  · have k := kb q
    refine z_aload_n 0 dX7_blockOnWay_18 rfl rfl (Nat.le_of_ble_eq_true rfl) rfl ?_
    refine z_getF 7 13 (x := (l0 + 3)) fX7_19 rfl dX7_blockOnWay_19 (by omega) rfl ?_
    refine z_iload_n 3 dX7_blockOnWay_22 rfl rfl rfl ?_
    obtain ⟨i9, k⟩ := k
    refine z_iald (x := (h (l0 + 3) l3)) dX7_blockOnWay_23 (by rw [zl7_3 w_l0]; exact i9) rfl rfl ?_
    obtain ⟨r1, ka, kb⟩ := k
    refine z_if_lt (tgt := 40) dX7_blockOnWay_24 rfl r1 rfl ⟨fun q => ?_, fun q => ?_⟩
    · have k := ka q
      refine z_aload_n 0 dX7_blockOnWay_40 rfl rfl (Nat.le_of_ble_eq_true rfl) rfl ?_
      refine z_getF 7 13 (x := (l0 + 4)) fX7_22 rfl dX7_blockOnWay_41 (by omega) rfl ?_
      refine z_iload_n 3 dX7_blockOnWay_44 rfl rfl rfl ?_
      obtain ⟨i9, k⟩ := k
      refine z_iald (x := (h (l0 + 4) l3)) dX7_blockOnWay_45 (by rw [zl7_4 w_l0]; exact i9) rfl rfl ?_
      refine z_iconst dX7_blockOnWay_46 rfl ?_
      obtain ⟨r1, k⟩ := k
      refine z_mmax (z := (max (h (l0 + 4) l3) 0)) kX7_154 kmax.1 kmax.2.1 kmax.2.2 dX7_blockOnWay_47 r1 ⟨by decide, by decide⟩ ⟨Nat.le_add_left 1 d, (by show _ ≤ 64 * (d + 1); rw [show zcat _ = 0 from rfl]; omega), Nat.le_refl _, Nat.le_refl _⟩ rfl rfl ?_
      exact z_ireturn rfl dX7_blockOnWay_50 ⟨_, rfl, k⟩
    · have k := kb q
      refine z_aload_n 0 dX7_blockOnWay_27 rfl rfl (Nat.le_of_ble_eq_true rfl) rfl ?_
      refine z_getF 7 13 (x := (l0 + 3)) fX7_19 rfl dX7_blockOnWay_28 (by omega) rfl ?_
      refine z_iload_n 3 dX7_blockOnWay_31 rfl rfl rfl ?_
      obtain ⟨i9, k⟩ := k
      refine z_iald (x := (h (l0 + 3) l3)) dX7_blockOnWay_32 (by rw [zl7_3 w_l0]; exact i9) rfl rfl ?_
      refine z_istore_n 3 dX7_blockOnWay_33 rfl (Nat.le_of_ble_eq_true rfl) (L' := [some (vr 7 l0), none, some (vi l2), some (vi (h (l0 + 3) l3)), some (vi l4)]) rfl rfl ?_
      refine z_iinc dX7_blockOnWay_34 rfl (Nat.le_of_ble_eq_true rfl) (L' := [some (vr 7 l0), none, some (vi l2), some (vi (h (l0 + 3) l3)), some (vi (l4 + (-1)))]) rfl rfl ?_
      refine z_goto (tgt := 12) dX7_blockOnWay_37 rfl ?_
      exact z_sub (L' := [some (vr 7 l0), none, some (vi l2), some (vi (h (l0 + 3) l3)), some (vi (l4 + (-1)))]) (And.intro rfl (And.intro rfl (And.intro rfl (And.intro rfl trivial)))) k
theorem eX7_blockOnWay {G : zG} {d : Nat} {K : Int → zH → Prop} {l0 : Int} {l1 : Int} {l2 : Int} {h : zH} (k : tX7_blockOnWay_0 G d K l0 l1 l2 h) : zCi G (d + 1) mX7_blockOnWay [vr 7 l0, vi l1, vi l2] h K := z_entry (by decide +kernel) (Nat.le_of_ble_eq_true rfl) rfl k
def tX7_partingBlock_0 (G : zG) (d : Nat) (K : Int → zH → Prop) (l0 : Int) (l1 : Int) (l2 : Int) (l3 : Int) (h : zH) : Prop := zTi G (d + 1) mX7_partingBlock K 0 [some (vr 7 l0), some (vi l1), some (vi l2), some (vi l3), none, none, none, none, none] [] h
def tX7_partingBlock_22 (G : zG) (d : Nat) (K : Int → zH → Prop) (l0 : Int) (l3 : Int) (l4 : Int) (l5 : Int) (l6 : Int) (l7 : Int) (h : zH) : Prop := zTi G (d + 1) mX7_partingBlock K 22 [some (vr 7 l0), none, none, some (vi l3), some (vi l4), some (vi l5), some (vi l6), some (vi l7), none] [] h
def tX7_partingBlock_55 (G : zG) (d : Nat) (K : Int → zH → Prop) (l0 : Int) (l3 : Int) (l4 : Int) (l5 : Int) (l6 : Int) (l7 : Int) (l8 : Int) (h : zH) : Prop := zTi G (d + 1) mX7_partingBlock K 55 [some (vr 7 l0), none, none, some (vi l3), some (vi l4), some (vi l5), some (vi l6), some (vi l7), some (vi l8)] [] h
theorem bX7_partingBlock_0 {G : zG} {d : Nat} {K : Int → zH → Prop} {l0 : Int} {l1 : Int} {l2 : Int} {l3 : Int} {h : zH} (k : ((0 : Int) ≤ l1 ∧ l1 < 40) ∧ ((0 : Int) ≤ l2 ∧ l2 < 40) ∧ tX7_partingBlock_22 G d K l0 l3 (h (l0 + 9) l1) (h (l0 + 9) l2) 0 0 h) : tX7_partingBlock_0 G d K l0 l1 l2 l3 h := by
  unfold tX7_partingBlock_0
  refine z_know (fun zo zs zv => ?_)
  have w_l0 : zvok (vr 7 l0) := zv _ (List.mem_of_getElem? (i := 0) rfl)
  refine z_aload_n 0 dX7_partingBlock_0 rfl rfl (Nat.le_of_ble_eq_true rfl) rfl ?_
  refine z_getF 7 13 (x := (l0 + 9)) fX7_37 rfl dX7_partingBlock_1 (by omega) rfl ?_
  refine z_iload_n 1 dX7_partingBlock_4 rfl rfl rfl ?_
  obtain ⟨i9, k⟩ := k
  refine z_iald (x := (h (l0 + 9) l1)) dX7_partingBlock_5 (by rw [zl7_9 w_l0]; exact i9) rfl rfl ?_
  refine z_istore dX7_partingBlock_6 (Nat.le_of_ble_eq_true rfl) (L' := [some (vr 7 l0), some (vi l1), some (vi l2), some (vi l3), some (vi (h (l0 + 9) l1)), none, none, none, none]) rfl rfl ?_
  refine z_aload_n 0 dX7_partingBlock_8 rfl rfl (Nat.le_of_ble_eq_true rfl) rfl ?_
  refine z_getF 7 13 (x := (l0 + 9)) fX7_37 rfl dX7_partingBlock_9 (by omega) rfl ?_
  refine z_iload_n 2 dX7_partingBlock_12 rfl rfl rfl ?_
  obtain ⟨i9, k⟩ := k
  refine z_iald (x := (h (l0 + 9) l2)) dX7_partingBlock_13 (by rw [zl7_9 w_l0]; exact i9) rfl rfl ?_
  refine z_istore dX7_partingBlock_14 (Nat.le_of_ble_eq_true rfl) (L' := [some (vr 7 l0), some (vi l1), some (vi l2), some (vi l3), some (vi (h (l0 + 9) l1)), some (vi (h (l0 + 9) l2)), none, none, none]) rfl rfl ?_
  refine z_iconst dX7_partingBlock_16 rfl ?_
  refine z_istore dX7_partingBlock_17 (Nat.le_of_ble_eq_true rfl) (L' := [some (vr 7 l0), some (vi l1), some (vi l2), some (vi l3), some (vi (h (l0 + 9) l1)), some (vi (h (l0 + 9) l2)), some (vi 0), none, none]) rfl rfl ?_
  refine z_iconst dX7_partingBlock_19 rfl ?_
  refine z_istore dX7_partingBlock_20 (Nat.le_of_ble_eq_true rfl) (L' := [some (vr 7 l0), some (vi l1), some (vi l2), some (vi l3), some (vi (h (l0 + 9) l1)), some (vi (h (l0 + 9) l2)), some (vi 0), some (vi 0), none]) rfl rfl ?_
  exact z_sub (L' := [some (vr 7 l0), none, none, some (vi l3), some (vi (h (l0 + 9) l1)), some (vi (h (l0 + 9) l2)), some (vi 0), some (vi 0), none]) (And.intro rfl (And.intro rfl (And.intro rfl (And.intro rfl (And.intro rfl (And.intro rfl trivial)))))) k
theorem bX7_partingBlock_22 {G : zG} {d : Nat} {K : Int → zH → Prop} {l0 : Int} {l3 : Int} {l4 : Int} {l5 : Int} {l6 : Int} {l7 : Int} {h : zH} (k : zR l7 ∧ zR l3 ∧ (l3 < l7 → K l6 h) ∧ (¬ l3 < l7 → zR l7 ∧ (40 ≤ l7 → K l6 h) ∧ (¬ 40 ≤ l7 → ((0 : Int) ≤ ((l4 * 40) + l5) ∧ ((l4 * 40) + l5) < 1600) ∧ tX7_partingBlock_55 G d K l0 l3 l4 l5 0 l7 ((h (l0 + 10) ((l4 * 40) + l5)) - 1) h))) : tX7_partingBlock_22 G d K l0 l3 l4 l5 l6 l7 h := by
  unfold tX7_partingBlock_22
  refine z_know (fun zo zs zv => ?_)
  have w_l0 : zvok (vr 7 l0) := zv _ (List.mem_of_getElem? (i := 0) rfl)
  refine z_iload dX7_partingBlock_22 rfl rfl ?_
  refine z_iload_n 3 dX7_partingBlock_24 rfl rfl rfl ?_
  obtain ⟨r1, r2, ka, kb⟩ := k
  refine z_icmp_gt (tgt := 128) dX7_partingBlock_25 rfl r1 r2 rfl ⟨fun q => ?_, fun q => ?_⟩
  · have k := ka q
    refine z_iload dX7_partingBlock_128 rfl rfl ?_
    exact z_ireturn rfl dX7_partingBlock_130 ⟨_, rfl, k⟩
  · have k := kb q
    refine z_iload dX7_partingBlock_28 rfl rfl ?_
    refine z_bipush dX7_partingBlock_30 rfl rfl ?_
    obtain ⟨r1, ka, kb⟩ := k
    refine z_icmp_ge (tgt := 128) dX7_partingBlock_32 rfl r1 ⟨by decide, by decide⟩ rfl ⟨fun q => ?_, fun q => ?_⟩
    · have k := ka q
      refine z_iload dX7_partingBlock_128 rfl rfl ?_
      exact z_ireturn rfl dX7_partingBlock_130 ⟨_, rfl, k⟩
    · have k := kb q
      refine z_aload_n 0 dX7_partingBlock_35 rfl rfl (Nat.le_of_ble_eq_true rfl) rfl ?_
      refine z_getF 7 13 (x := (l0 + 10)) fX7_40 rfl dX7_partingBlock_36 (by omega) rfl ?_
      refine z_iload dX7_partingBlock_39 rfl rfl ?_
      refine z_bipush dX7_partingBlock_41 rfl rfl ?_
      refine z_imul dX7_partingBlock_43 rfl ?_
      refine z_iload dX7_partingBlock_44 rfl rfl ?_
      refine z_iadd dX7_partingBlock_46 rfl ?_
      obtain ⟨i9, k⟩ := k
      refine z_iald (x := (h (l0 + 10) ((l4 * 40) + l5))) dX7_partingBlock_47 (by rw [zl7_10 w_l0]; exact i9) rfl rfl ?_
      refine z_iconst dX7_partingBlock_48 rfl ?_
      refine z_isub dX7_partingBlock_49 rfl ?_
      refine z_istore dX7_partingBlock_50 (Nat.le_of_ble_eq_true rfl) (L' := [some (vr 7 l0), none, none, some (vi l3), some (vi l4), some (vi l5), some (vi l6), some (vi l7), some (vi ((h (l0 + 10) ((l4 * 40) + l5)) - 1))]) rfl rfl ?_
      refine z_iconst dX7_partingBlock_52 rfl ?_
      refine z_istore dX7_partingBlock_53 (Nat.le_of_ble_eq_true rfl) (L' := [some (vr 7 l0), none, none, some (vi l3), some (vi l4), some (vi l5), some (vi 0), some (vi l7), some (vi ((h (l0 + 10) ((l4 * 40) + l5)) - 1))]) rfl rfl ?_
      exact z_sub (L' := [some (vr 7 l0), none, none, some (vi l3), some (vi l4), some (vi l5), some (vi 0), some (vi l7), some (vi ((h (l0 + 10) ((l4 * 40) + l5)) - 1))]) (And.intro rfl (And.intro rfl (And.intro rfl (And.intro rfl (And.intro rfl (And.intro rfl (And.intro rfl trivial))))))) k
theorem bX7_partingBlock_55 {G : zG} {d : Nat} {K : Int → zH → Prop} {l0 : Int} {l3 : Int} {l4 : Int} {l5 : Int} {l6 : Int} {l7 : Int} {l8 : Int} {h : zH} (k : zR (l6 + 1) ∧ zR (h l0 7) ∧ ((h l0 7) ≤ (l6 + 1) → zCi G d mX7_sheafStep [vr 7 l0, vi l4, vi l6] h (fun x1 h2 => zCi G d mX7_sheafStep [vr 7 l0, vi l5, vi l6] h2 (fun x3 h4 => tX7_partingBlock_22 G d K l0 l3 x1 x3 l6 (l7 + 1) h4))) ∧ (¬ (h l0 7) ≤ (l6 + 1) → zCi G d mX7_sheafStep [vr 7 l0, vi l4, vi l6] h (fun x5 h6 => zCi G d mX7_sheafStep [vr 7 l0, vi l5, vi l6] h6 (fun x7 h8 => ((0 : Int) ≤ ((x5 * 40) + x7) ∧ ((x5 * 40) + x7) < 1600) ∧ zR (h8 (l0 + 10) ((x5 * 40) + x7)) ∧ zR l8 ∧ ((h8 (l0 + 10) ((x5 * 40) + x7)) = l8 → zCi G d mX7_sheafStep [vr 7 l0, vi l4, vi l6] h8 (fun x9 h10 => zCi G d mX7_sheafStep [vr 7 l0, vi l5, vi l6] h10 (fun x11 h12 => tX7_partingBlock_22 G d K l0 l3 x9 x11 l6 (l7 + 1) h12))) ∧ (¬ (h8 (l0 + 10) ((x5 * 40) + x7)) = l8 → tX7_partingBlock_55 G d K l0 l3 l4 l5 (l6 + 1) l7 l8 h8))))) : tX7_partingBlock_55 G d K l0 l3 l4 l5 l6 l7 l8 h := by
  unfold tX7_partingBlock_55
  refine z_know (fun zo zs zv => ?_)
  have w_l0 : zvok (vr 7 l0) := zv _ (List.mem_of_getElem? (i := 0) rfl)
  refine z_iload dX7_partingBlock_55 rfl rfl ?_
  refine z_iconst dX7_partingBlock_57 rfl ?_
  refine z_iadd dX7_partingBlock_58 rfl ?_
  refine z_aload_n 0 dX7_partingBlock_59 rfl rfl (Nat.le_of_ble_eq_true rfl) rfl ?_
  refine z_getI 7 (x := (h l0 7)) fX7_52 rfl dX7_partingBlock_60 rfl rfl ?_
  obtain ⟨r1, r2, ka, kb⟩ := k
  refine z_icmp_ge (tgt := 102) dX7_partingBlock_63 rfl r1 r2 rfl ⟨fun q => ?_, fun q => ?_⟩
  · have k := ka q
    refine z_aload_n 0 dX7_partingBlock_102 rfl rfl (Nat.le_of_ble_eq_true rfl) rfl ?_
    refine z_iload dX7_partingBlock_103 rfl rfl ?_
    refine z_iload dX7_partingBlock_105 rfl rfl ?_
    refine z_callVi vX7_sheafStep kX7_140 dX7_partingBlock_107 rfl (zRo_d d) (as := [vi l4, vi l6]) (rest := []) (Nat.le_of_ble_eq_true rfl) rfl rfl (zCi_mono (fun x1 h2 k => ?_) k)
    refine z_istore dX7_partingBlock_110 (Nat.le_of_ble_eq_true rfl) (L' := [some (vr 7 l0), none, none, some (vi l3), some (vi x1), some (vi l5), some (vi l6), some (vi l7), some (vi l8)]) rfl rfl ?_
    refine z_aload_n 0 dX7_partingBlock_112 rfl rfl (Nat.le_of_ble_eq_true rfl) rfl ?_
    refine z_iload dX7_partingBlock_113 rfl rfl ?_
    refine z_iload dX7_partingBlock_115 rfl rfl ?_
    refine z_callVi vX7_sheafStep kX7_140 dX7_partingBlock_117 rfl (zRo_d d) (as := [vi l5, vi l6]) (rest := []) (Nat.le_of_ble_eq_true rfl) rfl rfl (zCi_mono (fun x3 h4 k => ?_) k)
    refine z_istore dX7_partingBlock_120 (Nat.le_of_ble_eq_true rfl) (L' := [some (vr 7 l0), none, none, some (vi l3), some (vi x1), some (vi x3), some (vi l6), some (vi l7), some (vi l8)]) rfl rfl ?_
    refine z_iinc dX7_partingBlock_122 rfl (Nat.le_of_ble_eq_true rfl) (L' := [some (vr 7 l0), none, none, some (vi l3), some (vi x1), some (vi x3), some (vi l6), some (vi (l7 + 1)), some (vi l8)]) rfl rfl ?_
    refine z_goto (tgt := 22) dX7_partingBlock_125 rfl ?_
    exact z_sub (L' := [some (vr 7 l0), none, none, some (vi l3), some (vi x1), some (vi x3), some (vi l6), some (vi (l7 + 1)), none]) (And.intro rfl (And.intro rfl (And.intro rfl (And.intro rfl (And.intro rfl (And.intro rfl trivial)))))) k
  · have k := kb q
    refine z_aload_n 0 dX7_partingBlock_66 rfl rfl (Nat.le_of_ble_eq_true rfl) rfl ?_
    refine z_getF 7 13 (x := (l0 + 10)) fX7_40 rfl dX7_partingBlock_67 (by omega) rfl ?_
    refine z_aload_n 0 dX7_partingBlock_70 rfl rfl (Nat.le_of_ble_eq_true rfl) rfl ?_
    refine z_iload dX7_partingBlock_71 rfl rfl ?_
    refine z_iload dX7_partingBlock_73 rfl rfl ?_
    refine z_callVi vX7_sheafStep kX7_140 dX7_partingBlock_75 rfl (zRo_d d) (as := [vi l4, vi l6]) (rest := [vr 13 (l0 + 10)]) (Nat.le_of_ble_eq_true rfl) rfl rfl (zCi_mono (fun x5 h6 k => ?_) k)
    refine z_bipush dX7_partingBlock_78 rfl rfl ?_
    refine z_imul dX7_partingBlock_80 rfl ?_
    refine z_aload_n 0 dX7_partingBlock_81 rfl rfl (Nat.le_of_ble_eq_true rfl) rfl ?_
    refine z_iload dX7_partingBlock_82 rfl rfl ?_
    refine z_iload dX7_partingBlock_84 rfl rfl ?_
    refine z_callVi vX7_sheafStep kX7_140 dX7_partingBlock_86 rfl (zRo_d d) (as := [vi l5, vi l6]) (rest := [vi (x5 * 40), vr 13 (l0 + 10)]) (Nat.le_of_ble_eq_true rfl) rfl rfl (zCi_mono (fun x7 h8 k => ?_) k)
    refine z_iadd dX7_partingBlock_89 rfl ?_
    obtain ⟨i9, k⟩ := k
    refine z_iald (x := (h8 (l0 + 10) ((x5 * 40) + x7))) dX7_partingBlock_90 (by rw [zl7_10 w_l0]; exact i9) rfl rfl ?_
    refine z_iload dX7_partingBlock_91 rfl rfl ?_
    obtain ⟨r1, r2, ka, kb⟩ := k
    refine z_icmp_eq (tgt := 102) dX7_partingBlock_93 rfl r1 r2 rfl ⟨fun q => ?_, fun q => ?_⟩
    · have k := ka q
      refine z_aload_n 0 dX7_partingBlock_102 rfl rfl (Nat.le_of_ble_eq_true rfl) rfl ?_
      refine z_iload dX7_partingBlock_103 rfl rfl ?_
      refine z_iload dX7_partingBlock_105 rfl rfl ?_
      refine z_callVi vX7_sheafStep kX7_140 dX7_partingBlock_107 rfl (zRo_d d) (as := [vi l4, vi l6]) (rest := []) (Nat.le_of_ble_eq_true rfl) rfl rfl (zCi_mono (fun x9 h10 k => ?_) k)
      refine z_istore dX7_partingBlock_110 (Nat.le_of_ble_eq_true rfl) (L' := [some (vr 7 l0), none, none, some (vi l3), some (vi x9), some (vi l5), some (vi l6), some (vi l7), some (vi l8)]) rfl rfl ?_
      refine z_aload_n 0 dX7_partingBlock_112 rfl rfl (Nat.le_of_ble_eq_true rfl) rfl ?_
      refine z_iload dX7_partingBlock_113 rfl rfl ?_
      refine z_iload dX7_partingBlock_115 rfl rfl ?_
      refine z_callVi vX7_sheafStep kX7_140 dX7_partingBlock_117 rfl (zRo_d d) (as := [vi l5, vi l6]) (rest := []) (Nat.le_of_ble_eq_true rfl) rfl rfl (zCi_mono (fun x11 h12 k => ?_) k)
      refine z_istore dX7_partingBlock_120 (Nat.le_of_ble_eq_true rfl) (L' := [some (vr 7 l0), none, none, some (vi l3), some (vi x9), some (vi x11), some (vi l6), some (vi l7), some (vi l8)]) rfl rfl ?_
      refine z_iinc dX7_partingBlock_122 rfl (Nat.le_of_ble_eq_true rfl) (L' := [some (vr 7 l0), none, none, some (vi l3), some (vi x9), some (vi x11), some (vi l6), some (vi (l7 + 1)), some (vi l8)]) rfl rfl ?_
      refine z_goto (tgt := 22) dX7_partingBlock_125 rfl ?_
      exact z_sub (L' := [some (vr 7 l0), none, none, some (vi l3), some (vi x9), some (vi x11), some (vi l6), some (vi (l7 + 1)), none]) (And.intro rfl (And.intro rfl (And.intro rfl (And.intro rfl (And.intro rfl (And.intro rfl trivial)))))) k
    · have k := kb q
      refine z_iinc dX7_partingBlock_96 rfl (Nat.le_of_ble_eq_true rfl) (L' := [some (vr 7 l0), none, none, some (vi l3), some (vi l4), some (vi l5), some (vi (l6 + 1)), some (vi l7), some (vi l8)]) rfl rfl ?_
      refine z_goto (tgt := 55) dX7_partingBlock_99 rfl ?_
      exact z_sub (L' := [some (vr 7 l0), none, none, some (vi l3), some (vi l4), some (vi l5), some (vi (l6 + 1)), some (vi l7), some (vi l8)]) (And.intro rfl (And.intro rfl (And.intro rfl (And.intro rfl (And.intro rfl (And.intro rfl (And.intro rfl trivial))))))) k
theorem eX7_partingBlock {G : zG} {d : Nat} {K : Int → zH → Prop} {l0 : Int} {l1 : Int} {l2 : Int} {l3 : Int} {h : zH} (k : tX7_partingBlock_0 G d K l0 l1 l2 l3 h) : zCi G (d + 1) mX7_partingBlock [vr 7 l0, vi l1, vi l2, vi l3] h K := z_entry (by decide +kernel) (Nat.le_of_ble_eq_true rfl) rfl k
