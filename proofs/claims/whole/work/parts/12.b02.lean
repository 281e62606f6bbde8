def tX9_numberOf_0 (G : zG) (d : Nat) (K : Int → zH → Prop) (l0 : Int) (l1 : Int) (h : zH) : Prop := zTi G d mX9_numberOf K 0 [some (vr 9 l0), some (vl l1), none, none] [] h
def tX9_numberOf_2 (G : zG) (d : Nat) (K : Int → zH → Prop) (l0 : Int) (l1 : Int) (l3 : Int) (h : zH) : Prop := zTi G d mX9_numberOf K 2 [some (vr 9 l0), some (vl l1), none, some (vi l3)] [] h
theorem bX9_numberOf_0 {G : zG} {d : Nat} {K : Int → zH → Prop} {l0 : Int} {l1 : Int} {h : zH} (k : tX9_numberOf_2 G d K l0 l1 0 h) : tX9_numberOf_0 G d K l0 l1 h := by
  unfold tX9_numberOf_0
  refine z_iconst dX9_numberOf_0 rfl ?_
  refine z_istore_n 3 dX9_numberOf_1 rfl (Nat.le_of_ble_eq_true rfl) (L' := [some (vr 9 l0), some (vl l1), none, some (vi 0)]) rfl rfl ?_
  exact z_sub (L' := [some (vr 9 l0), some (vl l1), none, some (vi 0)]) (And.intro rfl (And.intro rfl (And.intro rfl trivial))) k
theorem bX9_numberOf_2 {G : zG} {d : Nat} {K : Int → zH → Prop} {l0 : Int} {l1 : Int} {l3 : Int} {h : zH} (k : zR l3 ∧ zR (h l0 2) ∧ ((h l0 2) ≤ l3 → K (-1) h) ∧ (¬ (h l0 2) ≤ l3 → zR l3 ∧ (12 ≤ l3 → K (-1) h) ∧ (¬ 12 ≤ l3 → ((0 : Int) ≤ l3 ∧ l3 < 12) ∧ (¬ (zcmp (h (l0 + 2) l3) l1) = 0 → tX9_numberOf_2 G d K l0 l1 (l3 + 1) h) ∧ ((zcmp (h (l0 + 2) l3) l1) = 0 → K l3 h)))) : tX9_numberOf_2 G d K l0 l1 l3 h := by
  unfold tX9_numberOf_2
  refine z_know (fun zo zs zv => ?_)
  have w_l0 : zvok (vr 9 l0) := zv _ (List.mem_of_getElem? (i := 0) rfl)
  refine z_iload_n 3 dX9_numberOf_2 rfl rfl rfl ?_
  refine z_aload_n 0 dX9_numberOf_3 rfl rfl (Nat.le_of_ble_eq_true rfl) rfl ?_
  refine z_getI 9 (x := (h l0 2)) fX9_24 rfl dX9_numberOf_4 rfl rfl ?_
  obtain ⟨r1, r2, ka, kb⟩ := k
  refine z_icmp_ge (tgt := 35) dX9_numberOf_7 rfl r1 r2 rfl ⟨fun q => ?_, fun q => ?_⟩
  · have k := ka q
    refine z_iconst dX9_numberOf_35 rfl ?_
    exact z_ireturn rfl dX9_numberOf_36 ⟨_, rfl, k⟩
  · have k := kb q
    refine z_iload_n 3 dX9_numberOf_10 rfl rfl rfl ?_
    refine z_bipush dX9_numberOf_11 rfl rfl ?_
    obtain ⟨r1, ka, kb⟩ := k
    refine z_icmp_ge (tgt := 35) dX9_numberOf_13 rfl r1 ⟨by decide, by decide⟩ rfl ⟨fun q => ?_, fun q => ?_⟩
    · have k := ka q
      refine z_iconst dX9_numberOf_35 rfl ?_
      exact z_ireturn rfl dX9_numberOf_36 ⟨_, rfl, k⟩
    · have k := kb q
      refine z_aload_n 0 dX9_numberOf_16 rfl rfl (Nat.le_of_ble_eq_true rfl) rfl ?_
      refine z_getF 9 14 (x := (l0 + 2)) fX9_17 rfl dX9_numberOf_17 (by omega) rfl ?_
      refine z_iload_n 3 dX9_numberOf_20 rfl rfl rfl ?_
      obtain ⟨i9, k⟩ := k
      refine z_lald (x := (h (l0 + 2) l3)) dX9_numberOf_21 (by rw [zl9_2 w_l0]; exact i9) rfl rfl ?_
      refine z_lload_n 1 dX9_numberOf_22 rfl rfl rfl ?_
      refine z_lcmp dX9_numberOf_23 rfl ?_
      obtain ⟨ka, kb⟩ := k
      refine z_if_ne (tgt := 29) dX9_numberOf_24 rfl (zcmp_R _ _) rfl ⟨fun q => ?_, fun q => ?_⟩
      · have k := ka q
        refine z_iinc dX9_numberOf_29 rfl (Nat.le_of_ble_eq_true rfl) (L' := [some (vr 9 l0), some (vl l1), none, some (vi (l3 + 1))]) rfl rfl ?_
        refine z_goto (tgt := 2) dX9_numberOf_32 rfl ?_
        exact z_sub (L' := [some (vr 9 l0), some (vl l1), none, some (vi (l3 + 1))]) (And.intro rfl (And.intro rfl (And.intro rfl trivial))) k
      · have k := kb q
        refine z_iload_n 3 dX9_numberOf_27 rfl rfl rfl ?_
        exact z_ireturn rfl dX9_numberOf_28 ⟨_, rfl, k⟩
theorem eX9_numberOf {G : zG} {d : Nat} {K : Int → zH → Prop} {l0 : Int} {l1 : Int} {h : zH} (k : tX9_numberOf_0 G d K l0 l1 h) : zCi G d mX9_numberOf [vr 9 l0, vl l1] h K := z_entry (by decide +kernel) (Nat.le_of_ble_eq_true rfl) rfl k
def tX2_begin_0 (G : zG) (d : Nat) (K : zH → Prop) (l1 : Int) (h : zH) : Prop := zTv G d mX2_begin K 0 [some (vr 2 4), some (vi l1)] [] h
theorem bX2_begin_0 {G : zG} {d : Nat} {K : zH → Prop} {l1 : Int} {h : zH} (k : zR l1 ∧ (l1 ≤ 40 → K (zup (zup (zup (zup (zup (zup (zup h 4 7 l1) 4 8 0) 4 9 0) 4 10 0) 4 11 1) 10 0 0) 4 12 0)) ∧ (¬ l1 ≤ 40 → K (zup (zup (zup (zup (zup (zup (zup h 4 7 l1) 4 8 0) 4 9 0) 4 10 0) 4 11 1) 10 0 0) 4 12 1))) : tX2_begin_0 G d K l1 h := by
  unfold tX2_begin_0
  refine z_aload_n 0 dX2_begin_0 rfl rfl (Nat.le_of_ble_eq_true rfl) rfl ?_
  refine z_iload_n 1 dX2_begin_1 rfl rfl rfl ?_
  refine z_putI 2 gX2_34 dX2_begin_2 rfl ?_
  refine z_aload_n 0 dX2_begin_5 rfl rfl (Nat.le_of_ble_eq_true rfl) rfl ?_
  refine z_lconst (x := 0) dX2_begin_6 rfl rfl ?_
  refine z_putL 2 gX2_38 dX2_begin_7 rfl ?_
  refine z_aload_n 0 dX2_begin_10 rfl rfl (Nat.le_of_ble_eq_true rfl) rfl ?_
  refine z_iconst dX2_begin_11 rfl ?_
  refine z_putI 2 gX2_42 dX2_begin_12 rfl ?_
  refine z_aload_n 0 dX2_begin_15 rfl rfl (Nat.le_of_ble_eq_true rfl) rfl ?_
  refine z_iconst dX2_begin_16 rfl ?_
  refine z_putI 2 gX2_45 dX2_begin_17 rfl ?_
  refine z_aload_n 0 dX2_begin_20 rfl rfl (Nat.le_of_ble_eq_true rfl) rfl ?_
  refine z_iconst dX2_begin_21 rfl ?_
  refine z_putI 2 gX2_48 dX2_begin_22 rfl ?_
  refine z_aload_n 0 dX2_begin_25 rfl rfl (Nat.le_of_ble_eq_true rfl) rfl ?_
  refine z_getF 2 13 (x := 10) fX2_28 rfl dX2_begin_26 rfl rfl ?_
  refine z_iconst dX2_begin_29 rfl ?_
  refine z_iconst dX2_begin_30 rfl ?_
  refine z_iast dX2_begin_31 (by rw [zl_10]; decide) rfl ?_
  refine z_aload_n 0 dX2_begin_32 rfl rfl (Nat.le_of_ble_eq_true rfl) rfl ?_
  refine z_iload_n 1 dX2_begin_33 rfl rfl rfl ?_
  refine z_bipush dX2_begin_34 rfl rfl ?_
  obtain ⟨r1, ka, kb⟩ := k
  refine z_icmp_le (tgt := 43) dX2_begin_36 rfl r1 ⟨by decide, by decide⟩ rfl ⟨fun q => ?_, fun q => ?_⟩
  · have k := ka q
    refine z_iconst dX2_begin_43 rfl ?_
    refine z_putZ 2 gX2_51 (Or.inl rfl) dX2_begin_44 rfl ?_
    exact z_return rfl dX2_begin_47 ⟨rfl, k⟩
  · have k := kb q
    refine z_iconst dX2_begin_39 rfl ?_
    refine z_goto (tgt := 44) dX2_begin_40 rfl ?_
    refine z_putZ 2 gX2_51 (Or.inr rfl) dX2_begin_44 rfl ?_
    exact z_return rfl dX2_begin_47 ⟨rfl, k⟩
theorem eX2_begin {G : zG} {d : Nat} {K : zH → Prop} {l1 : Int} {h : zH} (k : tX2_begin_0 G d K l1 h) : zCv G d mX2_begin [vr 2 4, vi l1] h K := z_entry (by decide +kernel) (Nat.le_of_ble_eq_true rfl) rfl k
def tX2_cut_0 (G : zG) (d : Nat) (K : zH → Prop) (l1 : Int) (h : zH) : Prop := zTv G d mX2_cut K 0 [some (vr 2 4), some (vi l1), none, none] [] h
def tX2_cut_5 (G : zG) (d : Nat) (K : zH → Prop) (l1 : Int) (l2 : Int) (h : zH) : Prop := zTv G d mX2_cut K 5 [some (vr 2 4), some (vi l1), some (vi l2), none] [] h
def tX2_cut_71 (G : zG) (d : Nat) (K : zH → Prop) (l1 : Int) (l2 : Int) (l3 : Int) (h : zH) : Prop := zTv G d mX2_cut K 71 [some (vr 2 4), some (vi l1), some (vi l2), some (vi l3)] [] h
theorem bX2_cut_0 {G : zG} {d : Nat} {K : zH → Prop} {l1 : Int} {h : zH} (k : tX2_cut_5 G d K l1 (h 4 11) h) : tX2_cut_0 G d K l1 h := by
  unfold tX2_cut_0
  refine z_aload_n 0 dX2_cut_0 rfl rfl (Nat.le_of_ble_eq_true rfl) rfl ?_
  refine z_getI 2 (x := (h 4 11)) fX2_48 rfl dX2_cut_1 rfl rfl ?_
  refine z_istore_n 2 dX2_cut_4 rfl (Nat.le_of_ble_eq_true rfl) (L' := [some (vr 2 4), some (vi l1), some (vi (h 4 11)), none]) rfl rfl ?_
  exact z_sub (L' := [some (vr 2 4), some (vi l1), some (vi (h 4 11)), none]) (And.intro rfl (And.intro rfl (And.intro rfl trivial))) k
theorem bX2_cut_5 {G : zG} {d : Nat} {K : zH → Prop} {l1 : Int} {l2 : Int} {h : zH} (k : zR l2 ∧ (l2 ≤ 0 → zR l1 ∧ (65536 ≤ l1 → K h) ∧ (¬ 65536 ≤ l1 → zR l2 ∧ (l2 = 0 → K h) ∧ (¬ l2 = 0 → ((0 : Int) ≤ (l2 - 1) ∧ (l2 - 1) < 256) ∧ zR (h 10 (l2 - 1)) ∧ zR l1 ∧ (¬ (h 10 (l2 - 1)) = l1 → zR (h 4 11) ∧ ((h 4 11) < 256 → tX2_cut_71 G d K l1 l2 (h 4 11) h) ∧ (¬ (h 4 11) < 256 → K (zup h 4 12 1))) ∧ ((h 10 (l2 - 1)) = l1 → K h)))) ∧ (¬ l2 ≤ 0 → ((0 : Int) ≤ (l2 - 1) ∧ (l2 - 1) < 256) ∧ zR (h 10 (l2 - 1)) ∧ zR l1 ∧ ((h 10 (l2 - 1)) ≤ l1 → zR l1 ∧ (65536 ≤ l1 → K h) ∧ (¬ 65536 ≤ l1 → zR l2 ∧ (l2 = 0 → K h) ∧ (¬ l2 = 0 → ((0 : Int) ≤ (l2 - 1) ∧ (l2 - 1) < 256) ∧ zR (h 10 (l2 - 1)) ∧ zR l1 ∧ (¬ (h 10 (l2 - 1)) = l1 → zR (h 4 11) ∧ ((h 4 11) < 256 → tX2_cut_71 G d K l1 l2 (h 4 11) h) ∧ (¬ (h 4 11) < 256 → K (zup h 4 12 1))) ∧ ((h 10 (l2 - 1)) = l1 → K h)))) ∧ (¬ (h 10 (l2 - 1)) ≤ l1 → tX2_cut_5 G d K l1 (l2 + (-1)) h))) : tX2_cut_5 G d K l1 l2 h := by
  unfold tX2_cut_5
  refine z_iload_n 2 dX2_cut_5 rfl rfl rfl ?_
  obtain ⟨r1, ka, kb⟩ := k
  refine z_if_le (tgt := 27) dX2_cut_6 rfl r1 rfl ⟨fun q => ?_, fun q => ?_⟩
  · have k := ka q
    refine z_iload_n 1 dX2_cut_27 rfl rfl rfl ?_
    refine z_ldc (x := 65536) cX2_55 rfl dX2_cut_28 rfl ?_
    obtain ⟨r1, ka, kb⟩ := k
    refine z_icmp_ge (tgt := 49) dX2_cut_30 rfl r1 ⟨by decide, by decide⟩ rfl ⟨fun q => ?_, fun q => ?_⟩
    · have k := ka q
      exact z_return rfl dX2_cut_49 ⟨rfl, k⟩
    · have k := kb q
      refine z_iload_n 2 dX2_cut_33 rfl rfl rfl ?_
      obtain ⟨r1, ka, kb⟩ := k
      refine z_if_eq (tgt := 49) dX2_cut_34 rfl r1 rfl ⟨fun q => ?_, fun q => ?_⟩
      · have k := ka q
        exact z_return rfl dX2_cut_49 ⟨rfl, k⟩
      · have k := kb q
        refine z_aload_n 0 dX2_cut_37 rfl rfl (Nat.le_of_ble_eq_true rfl) rfl ?_
        refine z_getF 2 13 (x := 10) fX2_28 rfl dX2_cut_38 rfl rfl ?_
        refine z_iload_n 2 dX2_cut_41 rfl rfl rfl ?_
        refine z_iconst dX2_cut_42 rfl ?_
        refine z_isub dX2_cut_43 rfl ?_
        obtain ⟨i9, k⟩ := k
        refine z_iald (x := (h 10 (l2 - 1))) dX2_cut_44 (by rw [zl_10]; exact i9) rfl rfl ?_
        refine z_iload_n 1 dX2_cut_45 rfl rfl rfl ?_
        obtain ⟨r1, r2, ka, kb⟩ := k
        refine z_icmp_ne (tgt := 50) dX2_cut_46 rfl r1 r2 rfl ⟨fun q => ?_, fun q => ?_⟩
        · have k := ka q
          refine z_aload_n 0 dX2_cut_50 rfl rfl (Nat.le_of_ble_eq_true rfl) rfl ?_
          refine z_getI 2 (x := (h 4 11)) fX2_48 rfl dX2_cut_51 rfl rfl ?_
          refine z_sipush dX2_cut_54 rfl rfl ?_
          obtain ⟨r1, ka, kb⟩ := k
          refine z_icmp_lt (tgt := 66) dX2_cut_57 rfl r1 ⟨by decide, by decide⟩ rfl ⟨fun q => ?_, fun q => ?_⟩
          · have k := ka q
            refine z_aload_n 0 dX2_cut_66 rfl rfl (Nat.le_of_ble_eq_true rfl) rfl ?_
            refine z_getI 2 (x := (h 4 11)) fX2_48 rfl dX2_cut_67 rfl rfl ?_
            refine z_istore_n 3 dX2_cut_70 rfl (Nat.le_of_ble_eq_true rfl) (L' := [some (vr 2 4), some (vi l1), some (vi l2), some (vi (h 4 11))]) rfl rfl ?_
            exact z_sub (L' := [some (vr 2 4), some (vi l1), some (vi l2), some (vi (h 4 11))]) (And.intro rfl (And.intro rfl (And.intro rfl (And.intro rfl trivial)))) k
          · have k := kb q
            refine z_aload_n 0 dX2_cut_60 rfl rfl (Nat.le_of_ble_eq_true rfl) rfl ?_
            refine z_iconst dX2_cut_61 rfl ?_
            refine z_putZ 2 gX2_51 (Or.inr rfl) dX2_cut_62 rfl ?_
            exact z_return rfl dX2_cut_65 ⟨rfl, k⟩
        · have k := kb q
          exact z_return rfl dX2_cut_49 ⟨rfl, k⟩
  · have k := kb q
    refine z_aload_n 0 dX2_cut_9 rfl rfl (Nat.le_of_ble_eq_true rfl) rfl ?_
    refine z_getF 2 13 (x := 10) fX2_28 rfl dX2_cut_10 rfl rfl ?_
    refine z_iload_n 2 dX2_cut_13 rfl rfl rfl ?_
    refine z_iconst dX2_cut_14 rfl ?_
    refine z_isub dX2_cut_15 rfl ?_
    obtain ⟨i9, k⟩ := k
    refine z_iald (x := (h 10 (l2 - 1))) dX2_cut_16 (by rw [zl_10]; exact i9) rfl rfl ?_
    refine z_iload_n 1 dX2_cut_17 rfl rfl rfl ?_
    obtain ⟨r1, r2, ka, kb⟩ := k
    refine z_icmp_le (tgt := 27) dX2_cut_18 rfl r1 r2 rfl ⟨fun q => ?_, fun q => ?_⟩
    · have k := ka q
      refine z_iload_n 1 dX2_cut_27 rfl rfl rfl ?_
      refine z_ldc (x := 65536) cX2_55 rfl dX2_cut_28 rfl ?_
      obtain ⟨r1, ka, kb⟩ := k
      refine z_icmp_ge (tgt := 49) dX2_cut_30 rfl r1 ⟨by decide, by decide⟩ rfl ⟨fun q => ?_, fun q => ?_⟩
      · have k := ka q
        exact z_return rfl dX2_cut_49 ⟨rfl, k⟩
      · have k := kb q
        refine z_iload_n 2 dX2_cut_33 rfl rfl rfl ?_
        obtain ⟨r1, ka, kb⟩ := k
        refine z_if_eq (tgt := 49) dX2_cut_34 rfl r1 rfl ⟨fun q => ?_, fun q => ?_⟩
        · have k := ka q
          exact z_return rfl dX2_cut_49 ⟨rfl, k⟩
        · have k := kb q
          refine z_aload_n 0 dX2_cut_37 rfl rfl (Nat.le_of_ble_eq_true rfl) rfl ?_
          refine z_getF 2 13 (x := 10) fX2_28 rfl dX2_cut_38 rfl rfl ?_
          refine z_iload_n 2 dX2_cut_41 rfl rfl rfl ?_
          refine z_iconst dX2_cut_42 rfl ?_
          refine z_isub dX2_cut_43 rfl ?_
          obtain ⟨i9, k⟩ := k
          refine z_iald (x := (h 10 (l2 - 1))) dX2_cut_44 (by rw [zl_10]; exact i9) rfl rfl ?_
          refine z_iload_n 1 dX2_cut_45 rfl rfl rfl ?_
          obtain ⟨r1, r2, ka, kb⟩ := k
          refine z_icmp_ne (tgt := 50) dX2_cut_46 rfl r1 r2 rfl ⟨fun q => ?_, fun q => ?_⟩
          · have k := ka q
            refine z_aload_n 0 dX2_cut_50 rfl rfl (Nat.le_of_ble_eq_true rfl) rfl ?_
            refine z_getI 2 (x := (h 4 11)) fX2_48 rfl dX2_cut_51 rfl rfl ?_
            refine z_sipush dX2_cut_54 rfl rfl ?_
            obtain ⟨r1, ka, kb⟩ := k
            refine z_icmp_lt (tgt := 66) dX2_cut_57 rfl r1 ⟨by decide, by decide⟩ rfl ⟨fun q => ?_, fun q => ?_⟩
            · have k := ka q
              refine z_aload_n 0 dX2_cut_66 rfl rfl (Nat.le_of_ble_eq_true rfl) rfl ?_
              refine z_getI 2 (x := (h 4 11)) fX2_48 rfl dX2_cut_67 rfl rfl ?_
              refine z_istore_n 3 dX2_cut_70 rfl (Nat.le_of_ble_eq_true rfl) (L' := [some (vr 2 4), some (vi l1), some (vi l2), some (vi (h 4 11))]) rfl rfl ?_
              exact z_sub (L' := [some (vr 2 4), some (vi l1), some (vi l2), some (vi (h 4 11))]) (And.intro rfl (And.intro rfl (And.intro rfl (And.intro rfl trivial)))) k
            · have k := kb q
              refine z_aload_n 0 dX2_cut_60 rfl rfl (Nat.le_of_ble_eq_true rfl) rfl ?_
              refine z_iconst dX2_cut_61 rfl ?_
              refine z_putZ 2 gX2_51 (Or.inr rfl) dX2_cut_62 rfl ?_
              exact z_return rfl dX2_cut_65 ⟨rfl, k⟩
          · have k := kb q
            exact z_return rfl dX2_cut_49 ⟨rfl, k⟩
    · have k := kb q
      refine z_iinc dX2_cut_21 rfl (Nat.le_of_ble_eq_true rfl) (L' := [some (vr 2 4), some (vi l1), some (vi (l2 + (-1))), none]) rfl rfl ?_
      refine z_goto (tgt := 5) dX2_cut_24 rfl ?_
      exact z_sub (L' := [some (vr 2 4), some (vi l1), some (vi (l2 + (-1))), none]) (And.intro rfl (And.intro rfl (And.intro rfl trivial))) k
theorem bX2_cut_71 {G : zG} {d : Nat} {K : zH → Prop} {l1 : Int} {l2 : Int} {l3 : Int} {h : zH} (k : zR l3 ∧ zR l2 ∧ (l3 ≤ l2 → ((0 : Int) ≤ l2 ∧ l2 < 256) ∧ K (zup (zup h 10 l2 l1) 4 11 ((h 4 11) + 1))) ∧ (¬ l3 ≤ l2 → ((0 : Int) ≤ (l3 - 1) ∧ (l3 - 1) < 256) ∧ ((0 : Int) ≤ l3 ∧ l3 < 256) ∧ tX2_cut_71 G d K l1 l2 (l3 + (-1)) (zup h 10 l3 (h 10 (l3 - 1))))) : tX2_cut_71 G d K l1 l2 l3 h := by
  unfold tX2_cut_71
  refine z_iload_n 3 dX2_cut_71 rfl rfl rfl ?_
  refine z_iload_n 2 dX2_cut_72 rfl rfl rfl ?_
  obtain ⟨r1, r2, ka, kb⟩ := k
  refine z_icmp_le (tgt := 96) dX2_cut_73 rfl r1 r2 rfl ⟨fun q => ?_, fun q => ?_⟩
  · have k := ka q
    refine z_aload_n 0 dX2_cut_96 rfl rfl (Nat.le_of_ble_eq_true rfl) rfl ?_
    refine z_getF 2 13 (x := 10) fX2_28 rfl dX2_cut_97 rfl rfl ?_
    refine z_iload_n 2 dX2_cut_100 rfl rfl rfl ?_
    refine z_iload_n 1 dX2_cut_101 rfl rfl rfl ?_
    obtain ⟨i9, k⟩ := k
    refine z_iast dX2_cut_102 (by rw [zl_10]; exact i9) rfl ?_
    refine z_aload_n 0 dX2_cut_103 rfl rfl (Nat.le_of_ble_eq_true rfl) rfl ?_
    refine z_dup dX2_cut_104 (fun q => by cases q) rfl ?_
    refine z_getI 2 (x := (h 4 11)) fX2_48 rfl dX2_cut_105 (by simp [zup]) rfl ?_
    refine z_iconst dX2_cut_108 rfl ?_
    refine z_iadd dX2_cut_109 rfl ?_
    refine z_putI 2 gX2_48 dX2_cut_110 rfl ?_
    exact z_return rfl dX2_cut_113 ⟨rfl, k⟩
  · have k := kb q
    refine z_aload_n 0 dX2_cut_76 rfl rfl (Nat.le_of_ble_eq_true rfl) rfl ?_
    refine z_getF 2 13 (x := 10) fX2_28 rfl dX2_cut_77 rfl rfl ?_
    refine z_iload_n 3 dX2_cut_80 rfl rfl rfl ?_
    refine z_aload_n 0 dX2_cut_81 rfl rfl (Nat.le_of_ble_eq_true rfl) rfl ?_
    refine z_getF 2 13 (x := 10) fX2_28 rfl dX2_cut_82 rfl rfl ?_
    refine z_iload_n 3 dX2_cut_85 rfl rfl rfl ?_
    refine z_iconst dX2_cut_86 rfl ?_
    refine z_isub dX2_cut_87 rfl ?_
    obtain ⟨i9, k⟩ := k
    refine z_iald (x := (h 10 (l3 - 1))) dX2_cut_88 (by rw [zl_10]; exact i9) rfl rfl ?_
    obtain ⟨i9, k⟩ := k
    refine z_iast dX2_cut_89 (by rw [zl_10]; exact i9) rfl ?_
    refine z_iinc dX2_cut_90 rfl (Nat.le_of_ble_eq_true rfl) (L' := [some (vr 2 4), some (vi l1), some (vi l2), some (vi (l3 + (-1)))]) rfl rfl ?_
    refine z_goto (tgt := 71) dX2_cut_93 rfl ?_
    exact z_sub (L' := [some (vr 2 4), some (vi l1), some (vi l2), some (vi (l3 + (-1)))]) (And.intro rfl (And.intro rfl (And.intro rfl (And.intro rfl trivial)))) k
theorem eX2_cut {G : zG} {d : Nat} {K : zH → Prop} {l1 : Int} {h : zH} (k : tX2_cut_0 G d K l1 h) : zCv G d mX2_cut [vr 2 4, vi l1] h K := z_entry (by decide +kernel) (Nat.le_of_ble_eq_true rfl) rfl k
def tX2_cutBy_0 (G : zG) (d : Nat) (K : zH → Prop) (l1 : Int) (h : zH) : Prop := zTv G (d + 1) mX2_cutBy K 0 [some (vr 2 4), some (vr 3 l1), none] [] h
def tX2_cutBy_2 (G : zG) (d : Nat) (K : zH → Prop) (l1 : Int) (l2 : Int) (h : zH) : Prop := zTv G (d + 1) mX2_cutBy K 2 [some (vr 2 4), some (vr 3 l1), some (vi l2)] [] h
theorem bX2_cutBy_0 {G : zG} {d : Nat} {K : zH → Prop} {l1 : Int} {h : zH} (k : tX2_cutBy_2 G d K l1 0 h) : tX2_cutBy_0 G d K l1 h := by
  unfold tX2_cutBy_0
  refine z_iconst dX2_cutBy_0 rfl ?_
  refine z_istore_n 2 dX2_cutBy_1 rfl (Nat.le_of_ble_eq_true rfl) (L' := [some (vr 2 4), some (vr 3 l1), some (vi 0)]) rfl rfl ?_
  exact z_sub (L' := [some (vr 2 4), some (vr 3 l1), some (vi 0)]) (And.intro rfl (And.intro rfl (And.intro rfl trivial))) k
theorem bX2_cutBy_2 {G : zG} {d : Nat} {K : zH → Prop} {l1 : Int} {l2 : Int} {h : zH} (k : zR l2 ∧ zR (h l1 1) ∧ ((h l1 1) ≤ l2 → K h) ∧ (¬ (h l1 1) ≤ l2 → ((0 : Int) ≤ l2 ∧ l2 < zln (l1 + 1)) ∧ zCv G d mX2_cut [vr 2 4, vi (h (l1 + 1) l2)] h (fun h2 => tX2_cutBy_2 G d K l1 (l2 + 1) h2))) : tX2_cutBy_2 G d K l1 l2 h := by
  unfold tX2_cutBy_2
  refine z_iload_n 2 dX2_cutBy_2 rfl rfl rfl ?_
  refine z_aload_n 1 dX2_cutBy_3 rfl rfl (Nat.le_of_ble_eq_true rfl) rfl ?_
  refine z_getI 3 (x := (h l1 1)) fX2_56 rfl dX2_cutBy_4 rfl rfl ?_
  obtain ⟨r1, r2, ka, kb⟩ := k
  refine z_icmp_ge (tgt := 26) dX2_cutBy_7 rfl r1 r2 rfl ⟨fun q => ?_, fun q => ?_⟩
  · have k := ka q
    exact z_return rfl dX2_cutBy_26 ⟨rfl, k⟩
  · have k := kb q
    refine z_aload_n 0 dX2_cutBy_10 rfl rfl (Nat.le_of_ble_eq_true rfl) rfl ?_
    refine z_aload_n 1 dX2_cutBy_11 rfl rfl (Nat.le_of_ble_eq_true rfl) rfl ?_
    refine z_getF 3 13 (x := (l1 + 1)) fX2_61 rfl dX2_cutBy_12 (by omega) rfl ?_
    refine z_iload_n 2 dX2_cutBy_15 rfl rfl rfl ?_
    obtain ⟨i9, k⟩ := k
    refine z_iald (x := (h (l1 + 1) l2)) dX2_cutBy_16 i9 rfl rfl ?_
    refine z_callVv vX2_cut kX2_64 dX2_cutBy_17 rfl (zRo_d d) (as := [vi (h (l1 + 1) l2)]) (rest := []) (Nat.le_of_ble_eq_true rfl) rfl rfl (zCv_mono (fun h2 k => ?_) k)
    refine z_iinc dX2_cutBy_20 rfl (Nat.le_of_ble_eq_true rfl) (L' := [some (vr 2 4), some (vr 3 l1), some (vi (l2 + 1))]) rfl rfl ?_
    refine z_goto (tgt := 2) dX2_cutBy_23 rfl ?_
    exact z_sub (L' := [some (vr 2 4), some (vr 3 l1), some (vi (l2 + 1))]) (And.intro rfl (And.intro rfl (And.intro rfl trivial))) k
theorem eX2_cutBy {G : zG} {d : Nat} {K : zH → Prop} {l1 : Int} {h : zH} (k : tX2_cutBy_0 G d K l1 h) : zCv G (d + 1) mX2_cutBy [vr 2 4, vr 3 l1] h K := z_entry (by decide +kernel) (Nat.le_of_ble_eq_true rfl) rfl k
def tX2_cutLike_0 (G : zG) (d : Nat) (K : zH → Prop) (l1 : Int) (l2 : Int) (h : zH) : Prop := zTv G (d + 1) mX2_cutLike K 0 [some (vr 2 4), some (vr 4 l1), some (vi l2), none] [] h
def tX2_cutLike_2 (G : zG) (d : Nat) (K : zH → Prop) (l1 : Int) (l2 : Int) (l3 : Int) (h : zH) : Prop := zTv G (d + 1) mX2_cutLike K 2 [some (vr 2 4), some (vr 4 l1), some (vi l2), some (vi l3)] [] h
theorem bX2_cutLike_0 {G : zG} {d : Nat} {K : zH → Prop} {l1 : Int} {l2 : Int} {h : zH} (k : tX2_cutLike_2 G d K l1 l2 0 h) : tX2_cutLike_0 G d K l1 l2 h := by
  unfold tX2_cutLike_0
  refine z_iconst dX2_cutLike_0 rfl ?_
  refine z_istore_n 3 dX2_cutLike_1 rfl (Nat.le_of_ble_eq_true rfl) (L' := [some (vr 2 4), some (vr 4 l1), some (vi l2), some (vi 0)]) rfl rfl ?_
  exact z_sub (L' := [some (vr 2 4), some (vr 4 l1), some (vi l2), some (vi 0)]) (And.intro rfl (And.intro rfl (And.intro rfl (And.intro rfl trivial)))) k
theorem bX2_cutLike_2 {G : zG} {d : Nat} {K : zH → Prop} {l1 : Int} {l2 : Int} {l3 : Int} {h : zH} (k : zR l3 ∧ zR (h l1 11) ∧ ((h l1 11) ≤ l3 → zCv G d mX2_cut [vr 2 4, vi (65536 + l2)] h (fun h2 => K h2)) ∧ (¬ (h l1 11) ≤ l3 → ((0 : Int) ≤ l3 ∧ l3 < 128) ∧ zCv G d mX2_cut [vr 2 4, vi ((h (l1 + 6) l3) + l2)] h (fun h4 => tX2_cutLike_2 G d K l1 l2 (l3 + 1) h4))) : tX2_cutLike_2 G d K l1 l2 l3 h := by
  unfold tX2_cutLike_2
  refine z_know (fun zo zs zv => ?_)
  have w_l1 : zvok (vr 4 l1) := zv _ (List.mem_of_getElem? (i := 1) rfl)
  refine z_iload_n 3 dX2_cutLike_2 rfl rfl rfl ?_
  refine z_aload_n 1 dX2_cutLike_3 rfl rfl (Nat.le_of_ble_eq_true rfl) rfl ?_
  refine z_getI 4 (x := (h l1 11)) fX2_68 rfl dX2_cutLike_4 rfl rfl ?_
  obtain ⟨r1, r2, ka, kb⟩ := k
  refine z_icmp_ge (tgt := 28) dX2_cutLike_7 rfl r1 r2 rfl ⟨fun q => ?_, fun q => ?_⟩
  · have k := ka q
    refine z_aload_n 0 dX2_cutLike_28 rfl rfl (Nat.le_of_ble_eq_true rfl) rfl ?_
    refine z_ldc (x := 65536) cX2_55 rfl dX2_cutLike_29 rfl ?_
    refine z_iload_n 2 dX2_cutLike_31 rfl rfl rfl ?_
    refine z_iadd dX2_cutLike_32 rfl ?_
    refine z_callVv vX2_cut kX2_64 dX2_cutLike_33 rfl (zRo_d d) (as := [vi (65536 + l2)]) (rest := []) (Nat.le_of_ble_eq_true rfl) rfl rfl (zCv_mono (fun h2 k => ?_) k)
    exact z_return rfl dX2_cutLike_36 ⟨rfl, k⟩
  · have k := kb q
    refine z_aload_n 0 dX2_cutLike_10 rfl rfl (Nat.le_of_ble_eq_true rfl) rfl ?_
    refine z_aload_n 1 dX2_cutLike_11 rfl rfl (Nat.le_of_ble_eq_true rfl) rfl ?_
    refine z_getF 4 13 (x := (l1 + 6)) fX2_71 rfl dX2_cutLike_12 (by omega) rfl ?_
    refine z_iload_n 3 dX2_cutLike_15 rfl rfl rfl ?_
    obtain ⟨i9, k⟩ := k
    refine z_iald (x := (h (l1 + 6) l3)) dX2_cutLike_16 (by rw [zl4_6 w_l1]; exact i9) rfl rfl ?_
    refine z_iload_n 2 dX2_cutLike_17 rfl rfl rfl ?_
    refine z_iadd dX2_cutLike_18 rfl ?_
    refine z_callVv vX2_cut kX2_64 dX2_cutLike_19 rfl (zRo_d d) (as := [vi ((h (l1 + 6) l3) + l2)]) (rest := []) (Nat.le_of_ble_eq_true rfl) rfl rfl (zCv_mono (fun h4 k => ?_) k)
    refine z_iinc dX2_cutLike_22 rfl (Nat.le_of_ble_eq_true rfl) (L' := [some (vr 2 4), some (vr 4 l1), some (vi l2), some (vi (l3 + 1))]) rfl rfl ?_
    refine z_goto (tgt := 2) dX2_cutLike_25 rfl ?_
    exact z_sub (L' := [some (vr 2 4), some (vr 4 l1), some (vi l2), some (vi (l3 + 1))]) (And.intro rfl (And.intro rfl (And.intro rfl (And.intro rfl trivial)))) k
theorem eX2_cutLike {G : zG} {d : Nat} {K : zH → Prop} {l1 : Int} {l2 : Int} {h : zH} (k : tX2_cutLike_0 G d K l1 l2 h) : zCv G (d + 1) mX2_cutLike [vr 2 4, vr 4 l1, vi l2] h K := z_entry (by decide +kernel) (Nat.le_of_ble_eq_true rfl) rfl k
def tX2_trace_0 (G : zG) (d : Nat) (K : zH → Prop) (l1 : Int) (l2 : Int) (h : zH) : Prop := zTv G (d + 1) mX2_trace K 0 [some (vr 2 4), some (vr 4 l1), some (vi l2), none, none] [] h
def tX2_trace_2 (G : zG) (d : Nat) (K : zH → Prop) (l1 : Int) (l2 : Int) (l3 : Int) (h : zH) : Prop := zTv G (d + 1) mX2_trace K 2 [some (vr 2 4), some (vr 4 l1), some (vi l2), some (vi l3), none] [] h
theorem bX2_trace_0 {G : zG} {d : Nat} {K : zH → Prop} {l1 : Int} {l2 : Int} {h : zH} (k : tX2_trace_2 G d K l1 l2 0 h) : tX2_trace_0 G d K l1 l2 h := by
  unfold tX2_trace_0
  refine z_iconst dX2_trace_0 rfl ?_
  refine z_istore_n 3 dX2_trace_1 rfl (Nat.le_of_ble_eq_true rfl) (L' := [some (vr 2 4), some (vr 4 l1), some (vi l2), some (vi 0), none]) rfl rfl ?_
  exact z_sub (L' := [some (vr 2 4), some (vr 4 l1), some (vi l2), some (vi 0), none]) (And.intro rfl (And.intro rfl (And.intro rfl (And.intro rfl trivial)))) k
theorem bX2_trace_2 {G : zG} {d : Nat} {K : zH → Prop} {l1 : Int} {l2 : Int} {l3 : Int} {h : zH} (k : zR l3 ∧ zR (h 4 11) ∧ ((h 4 11) ≤ l3 → K h) ∧ (¬ (h 4 11) ≤ l3 → ((0 : Int) ≤ l3 ∧ l3 < 256) ∧ zCb G d mX11_isIn [vi ((h 10 l3) - l2), vi 65536] h (fun x1 h2 => (x1 = false → ((0 : Int) ≤ l3 ∧ l3 < 256) ∧ tX2_trace_2 G d K l1 l2 (l3 + 1) (zup h2 11 l3 (-1))) ∧ (x1 = true → zCi G d mX4_blockOf [vr 4 l1, vi ((h 10 l3) - l2)] h2 (fun x3 h4 => ((0 : Int) ≤ l3 ∧ l3 < 256) ∧ tX2_trace_2 G d K l1 l2 (l3 + 1) (zup h4 11 l3 x3)))))) : tX2_trace_2 G d K l1 l2 l3 h := by
  unfold tX2_trace_2
  refine z_iload_n 3 dX2_trace_2 rfl rfl rfl ?_
  refine z_aload_n 0 dX2_trace_3 rfl rfl (Nat.le_of_ble_eq_true rfl) rfl ?_
  refine z_getI 2 (x := (h 4 11)) fX2_48 rfl dX2_trace_4 rfl rfl ?_
  obtain ⟨r1, r2, ka, kb⟩ := k
  refine z_icmp_ge (tgt := 52) dX2_trace_7 rfl r1 r2 rfl ⟨fun q => ?_, fun q => ?_⟩
  · have k := ka q
    exact z_return rfl dX2_trace_52 ⟨rfl, k⟩
  · have k := kb q
    refine z_aload_n 0 dX2_trace_10 rfl rfl (Nat.le_of_ble_eq_true rfl) rfl ?_
    refine z_getF 2 13 (x := 10) fX2_28 rfl dX2_trace_11 rfl rfl ?_
    refine z_iload_n 3 dX2_trace_14 rfl rfl rfl ?_
    obtain ⟨i9, k⟩ := k
    refine z_iald (x := (h 10 l3)) dX2_trace_15 (by rw [zl_10]; exact i9) rfl rfl ?_
    refine z_iload_n 2 dX2_trace_16 rfl rfl rfl ?_
    refine z_isub dX2_trace_17 rfl ?_
    refine z_istore dX2_trace_18 (Nat.le_of_ble_eq_true rfl) (L' := [some (vr 2 4), some (vr 4 l1), some (vi l2), some (vi l3), some (vi ((h 10 l3) - l2))]) rfl rfl ?_
    refine z_aload_n 0 dX2_trace_20 rfl rfl (Nat.le_of_ble_eq_true rfl) rfl ?_
    refine z_getF 2 13 (x := 11) fX2_31 rfl dX2_trace_21 rfl rfl ?_
    refine z_iload_n 3 dX2_trace_24 rfl rfl rfl ?_
    refine z_iload dX2_trace_25 rfl rfl ?_
    refine z_ldc (x := 65536) cX2_55 rfl dX2_trace_27 rfl ?_
    refine z_callSNb (host := "RangedMachines") sX11_isIn (by decide +kernel) dX2_trace_29 rfl (zRo_d d) (as := [vi ((h 10 l3) - l2), vi 65536]) (rest := [vi l3, vr 13 11]) (Nat.le_of_ble_eq_true rfl) rfl rfl (zCb_mono (fun x1 h2 k => ?_) k)
    obtain ⟨ka, kb⟩ := k
    refine z_ifb_eq (tgt := 44) dX2_trace_32 rfl rfl ⟨fun q => ?_, fun q => ?_⟩
    · have k := ka q
      refine z_iconst dX2_trace_44 rfl ?_
      obtain ⟨i9, k⟩ := k
      refine z_iast dX2_trace_45 (by rw [zl_11]; exact i9) rfl ?_
      refine z_iinc dX2_trace_46 rfl (Nat.le_of_ble_eq_true rfl) (L' := [some (vr 2 4), some (vr 4 l1), some (vi l2), some (vi (l3 + 1)), some (vi ((h 10 l3) - l2))]) rfl rfl ?_
      refine z_goto (tgt := 2) dX2_trace_49 rfl ?_
      exact z_sub (L' := [some (vr 2 4), some (vr 4 l1), some (vi l2), some (vi (l3 + 1)), none]) (And.intro rfl (And.intro rfl (And.intro rfl (And.intro rfl trivial)))) k
    · have k := kb q
      refine z_aload_n 1 dX2_trace_35 rfl rfl (Nat.le_of_ble_eq_true rfl) rfl ?_
      refine z_iload dX2_trace_36 rfl rfl ?_
      refine z_callVi vX4_blockOf kX2_76 dX2_trace_38 rfl (zRo_d d) (as := [vi ((h 10 l3) - l2)]) (rest := [vi l3, vr 13 11]) (Nat.le_of_ble_eq_true rfl) rfl rfl (zCi_mono (fun x3 h4 k => ?_) k)
      refine z_goto (tgt := 45) dX2_trace_41 rfl ?_
      obtain ⟨i9, k⟩ := k
      refine z_iast dX2_trace_45 (by rw [zl_11]; exact i9) rfl ?_
      refine z_iinc dX2_trace_46 rfl (Nat.le_of_ble_eq_true rfl) (L' := [some (vr 2 4), some (vr 4 l1), some (vi l2), some (vi (l3 + 1)), some (vi ((h 10 l3) - l2))]) rfl rfl ?_
      refine z_goto (tgt := 2) dX2_trace_49 rfl ?_
      exact z_sub (L' := [some (vr 2 4), some (vr 4 l1), some (vi l2), some (vi (l3 + 1)), none]) (And.intro rfl (And.intro rfl (And.intro rfl (And.intro rfl trivial)))) k
theorem eX2_trace {G : zG} {d : Nat} {K : zH → Prop} {l1 : Int} {l2 : Int} {h : zH} (k : tX2_trace_0 G d K l1 l2 h) : zCv G (d + 1) mX2_trace [vr 2 4, vr 4 l1, vi l2] h K := z_entry (by decide +kernel) (Nat.le_of_ble_eq_true rfl) rfl k
def tX2_leaveOutside_0 (G : zG) (d : Nat) (K : zH → Prop) (l1 : Int) (h : zH) : Prop := zTv G (d + 1) mX2_leaveOutside K 0 [some (vr 2 4), some (vr 3 l1), none] [] h
def tX2_leaveOutside_2 (G : zG) (d : Nat) (K : zH → Prop) (l1 : Int) (l2 : Int) (h : zH) : Prop := zTv G (d + 1) mX2_leaveOutside K 2 [some (vr 2 4), some (vr 3 l1), some (vi l2)] [] h
theorem bX2_leaveOutside_0 {G : zG} {d : Nat} {K : zH → Prop} {l1 : Int} {h : zH} (k : tX2_leaveOutside_2 G d K l1 0 h) : tX2_leaveOutside_0 G d K l1 h := by
  unfold tX2_leaveOutside_0
  refine z_iconst dX2_leaveOutside_0 rfl ?_
  refine z_istore_n 2 dX2_leaveOutside_1 rfl (Nat.le_of_ble_eq_true rfl) (L' := [some (vr 2 4), some (vr 3 l1), some (vi 0)]) rfl rfl ?_
  exact z_sub (L' := [some (vr 2 4), some (vr 3 l1), some (vi 0)]) (And.intro rfl (And.intro rfl (And.intro rfl trivial))) k
theorem bX2_leaveOutside_2 {G : zG} {d : Nat} {K : zH → Prop} {l1 : Int} {l2 : Int} {h : zH} (k : zR l2 ∧ zR (h 4 11) ∧ ((h 4 11) ≤ l2 → K h) ∧ (¬ (h 4 11) ≤ l2 → ((0 : Int) ≤ l2 ∧ l2 < 256) ∧ zCb G d mX3_holds [vr 3 l1, vi (h 10 l2)] h (fun x1 h2 => (x1 = true → tX2_leaveOutside_2 G d K l1 (l2 + 1) h2) ∧ (x1 = false → ((0 : Int) ≤ l2 ∧ l2 < 256) ∧ tX2_leaveOutside_2 G d K l1 (l2 + 1) (zup h2 11 l2 (-1)))))) : tX2_leaveOutside_2 G d K l1 l2 h := by
  unfold tX2_leaveOutside_2
  refine z_iload_n 2 dX2_leaveOutside_2 rfl rfl rfl ?_
  refine z_aload_n 0 dX2_leaveOutside_3 rfl rfl (Nat.le_of_ble_eq_true rfl) rfl ?_
  refine z_getI 2 (x := (h 4 11)) fX2_48 rfl dX2_leaveOutside_4 rfl rfl ?_
  obtain ⟨r1, r2, ka, kb⟩ := k
  refine z_icmp_ge (tgt := 36) dX2_leaveOutside_7 rfl r1 r2 rfl ⟨fun q => ?_, fun q => ?_⟩
  · have k := ka q
    exact z_return rfl dX2_leaveOutside_36 ⟨rfl, k⟩
  · have k := kb q
    refine z_aload_n 1 dX2_leaveOutside_10 rfl rfl (Nat.le_of_ble_eq_true rfl) rfl ?_
    refine z_aload_n 0 dX2_leaveOutside_11 rfl rfl (Nat.le_of_ble_eq_true rfl) rfl ?_
    refine z_getF 2 13 (x := 10) fX2_28 rfl dX2_leaveOutside_12 rfl rfl ?_
    refine z_iload_n 2 dX2_leaveOutside_15 rfl rfl rfl ?_
    obtain ⟨i9, k⟩ := k
    refine z_iald (x := (h 10 l2)) dX2_leaveOutside_16 (by rw [zl_10]; exact i9) rfl rfl ?_
    refine z_callVb vX3_holds kX2_80 dX2_leaveOutside_17 rfl (zRo_d d) (as := [vi (h 10 l2)]) (rest := []) (Nat.le_of_ble_eq_true rfl) rfl rfl (zCb_mono (fun x1 h2 k => ?_) k)
    obtain ⟨ka, kb⟩ := k
    refine z_ifb_ne (tgt := 30) dX2_leaveOutside_20 rfl rfl ⟨fun q => ?_, fun q => ?_⟩
    · have k := ka q
      refine z_iinc dX2_leaveOutside_30 rfl (Nat.le_of_ble_eq_true rfl) (L' := [some (vr 2 4), some (vr 3 l1), some (vi (l2 + 1))]) rfl rfl ?_
      refine z_goto (tgt := 2) dX2_leaveOutside_33 rfl ?_
      exact z_sub (L' := [some (vr 2 4), some (vr 3 l1), some (vi (l2 + 1))]) (And.intro rfl (And.intro rfl (And.intro rfl trivial))) k
    · have k := kb q
      refine z_aload_n 0 dX2_leaveOutside_23 rfl rfl (Nat.le_of_ble_eq_true rfl) rfl ?_
      refine z_getF 2 13 (x := 11) fX2_31 rfl dX2_leaveOutside_24 rfl rfl ?_
      refine z_iload_n 2 dX2_leaveOutside_27 rfl rfl rfl ?_
      refine z_iconst dX2_leaveOutside_28 rfl ?_
      obtain ⟨i9, k⟩ := k
      refine z_iast dX2_leaveOutside_29 (by rw [zl_11]; exact i9) rfl ?_
      refine z_iinc dX2_leaveOutside_30 rfl (Nat.le_of_ble_eq_true rfl) (L' := [some (vr 2 4), some (vr 3 l1), some (vi (l2 + 1))]) rfl rfl ?_
      refine z_goto (tgt := 2) dX2_leaveOutside_33 rfl ?_
      exact z_sub (L' := [some (vr 2 4), some (vr 3 l1), some (vi (l2 + 1))]) (And.intro rfl (And.intro rfl (And.intro rfl trivial))) k
theorem eX2_leaveOutside {G : zG} {d : Nat} {K : zH → Prop} {l1 : Int} {h : zH} (k : tX2_leaveOutside_0 G d K l1 h) : zCv G (d + 1) mX2_leaveOutside [vr 2 4, vr 3 l1] h K := z_entry (by decide +kernel) (Nat.le_of_ble_eq_true rfl) rfl k
def tX2_addEdge_0 (G : zG) (d : Nat) (K : Int → zH → Prop) (l1 : Int) (l2 : Int) (h : zH) : Prop := zTi G d mX2_addEdge K 0 [some (vr 2 4), some (vi l1), some (vi l2), none] [] h
def tX2_addEdge_39 (G : zG) (d : Nat) (K : Int → zH → Prop) (l3 : Int) (h : zH) : Prop := zTi G d mX2_addEdge K 39 [some (vr 2 4), none, none, some (vi l3)] [] h
theorem bX2_addEdge_0 {G : zG} {d : Nat} {K : Int → zH → Prop} {l1 : Int} {l2 : Int} {h : zH} (k : zR (h 4 9) ∧ ((h 4 9) < 160 → ((0 : Int) ≤ (h 4 9) ∧ (h 4 9) < 160) ∧ ((0 : Int) ≤ (h 4 9) ∧ (h 4 9) < 160) ∧ tX2_addEdge_39 G d K 0 (zup (zup h 5 (h 4 9) l1) 6 (h 4 9) l2)) ∧ (¬ (h 4 9) < 160 → K (-1) (zup h 4 12 1))) : tX2_addEdge_0 G d K l1 l2 h := by
  unfold tX2_addEdge_0
  refine z_aload_n 0 dX2_addEdge_0 rfl rfl (Nat.le_of_ble_eq_true rfl) rfl ?_
  refine z_getI 2 (x := (h 4 9)) fX2_42 rfl dX2_addEdge_1 rfl rfl ?_
  refine z_sipush dX2_addEdge_4 rfl rfl ?_
  obtain ⟨r1, ka, kb⟩ := k
  refine z_icmp_lt (tgt := 17) dX2_addEdge_7 rfl r1 ⟨by decide, by decide⟩ rfl ⟨fun q => ?_, fun q => ?_⟩
  · have k := ka q
    refine z_aload_n 0 dX2_addEdge_17 rfl rfl (Nat.le_of_ble_eq_true rfl) rfl ?_
    refine z_getF 2 13 (x := 5) fX2_9 rfl dX2_addEdge_18 rfl rfl ?_
    refine z_aload_n 0 dX2_addEdge_21 rfl rfl (Nat.le_of_ble_eq_true rfl) rfl ?_
    refine z_getI 2 (x := (h 4 9)) fX2_42 rfl dX2_addEdge_22 rfl rfl ?_
    refine z_iload_n 1 dX2_addEdge_25 rfl rfl rfl ?_
    obtain ⟨i9, k⟩ := k
    refine z_iast dX2_addEdge_26 (by rw [zl_5]; exact i9) rfl ?_
    refine z_aload_n 0 dX2_addEdge_27 rfl rfl (Nat.le_of_ble_eq_true rfl) rfl ?_
    refine z_getF 2 13 (x := 6) fX2_15 rfl dX2_addEdge_28 rfl rfl ?_
    refine z_aload_n 0 dX2_addEdge_31 rfl rfl (Nat.le_of_ble_eq_true rfl) rfl ?_
    refine z_getI 2 (x := (h 4 9)) fX2_42 rfl dX2_addEdge_32 (by simp [zup]) rfl ?_
    refine z_iload_n 2 dX2_addEdge_35 rfl rfl rfl ?_
    obtain ⟨i9, k⟩ := k
    refine z_iast dX2_addEdge_36 (by rw [zl_6]; exact i9) rfl ?_
    refine z_iconst dX2_addEdge_37 rfl ?_
    refine z_istore_n 3 dX2_addEdge_38 rfl (Nat.le_of_ble_eq_true rfl) (L' := [some (vr 2 4), some (vi l1), some (vi l2), some (vi 0)]) rfl rfl ?_
    exact z_sub (L' := [some (vr 2 4), none, none, some (vi 0)]) (And.intro rfl (And.intro rfl trivial)) k
  · have k := kb q
    refine z_aload_n 0 dX2_addEdge_10 rfl rfl (Nat.le_of_ble_eq_true rfl) rfl ?_
    refine z_iconst dX2_addEdge_11 rfl ?_
    refine z_putZ 2 gX2_51 (Or.inr rfl) dX2_addEdge_12 rfl ?_
    refine z_iconst dX2_addEdge_15 rfl ?_
    exact z_ireturn rfl dX2_addEdge_16 ⟨_, rfl, k⟩
theorem bX2_addEdge_39 {G : zG} {d : Nat} {K : Int → zH → Prop} {l3 : Int} {h : zH} (k : zR l3 ∧ (4 ≤ l3 → K (((h 4 9) + 1) - 1) (zup h 4 9 ((h 4 9) + 1))) ∧ (¬ 4 ≤ l3 → ((0 : Int) ≤ (((h 4 9) * 4) + l3) ∧ (((h 4 9) * 4) + l3) < 640) ∧ tX2_addEdge_39 G d K (l3 + 1) (zup h 7 (((h 4 9) * 4) + l3) 0))) : tX2_addEdge_39 G d K l3 h := by
  unfold tX2_addEdge_39
  refine z_iload_n 3 dX2_addEdge_39 rfl rfl rfl ?_
  refine z_iconst dX2_addEdge_40 rfl ?_
  obtain ⟨r1, ka, kb⟩ := k
  refine z_icmp_ge (tgt := 64) dX2_addEdge_41 rfl r1 ⟨by decide, by decide⟩ rfl ⟨fun q => ?_, fun q => ?_⟩
  · have k := ka q
    refine z_aload_n 0 dX2_addEdge_64 rfl rfl (Nat.le_of_ble_eq_true rfl) rfl ?_
    refine z_dup dX2_addEdge_65 (fun q => by cases q) rfl ?_
    refine z_getI 2 (x := (h 4 9)) fX2_42 rfl dX2_addEdge_66 rfl rfl ?_
    refine z_iconst dX2_addEdge_69 rfl ?_
    refine z_iadd dX2_addEdge_70 rfl ?_
    refine z_putI 2 gX2_42 dX2_addEdge_71 rfl ?_
    refine z_aload_n 0 dX2_addEdge_74 rfl rfl (Nat.le_of_ble_eq_true rfl) rfl ?_
    refine z_getI 2 (x := ((h 4 9) + 1)) fX2_42 rfl dX2_addEdge_75 (by simp [zup]) rfl ?_
    refine z_iconst dX2_addEdge_78 rfl ?_
    refine z_isub dX2_addEdge_79 rfl ?_
    exact z_ireturn rfl dX2_addEdge_80 ⟨_, rfl, k⟩
  · have k := kb q
    refine z_aload_n 0 dX2_addEdge_44 rfl rfl (Nat.le_of_ble_eq_true rfl) rfl ?_
    refine z_getF 2 14 (x := 7) fX2_18 rfl dX2_addEdge_45 rfl rfl ?_
    refine z_aload_n 0 dX2_addEdge_48 rfl rfl (Nat.le_of_ble_eq_true rfl) rfl ?_
    refine z_getI 2 (x := (h 4 9)) fX2_42 rfl dX2_addEdge_49 rfl rfl ?_
    refine z_iconst dX2_addEdge_52 rfl ?_
    refine z_imul dX2_addEdge_53 rfl ?_
    refine z_iload_n 3 dX2_addEdge_54 rfl rfl rfl ?_
    refine z_iadd dX2_addEdge_55 rfl ?_
    refine z_lconst (x := 0) dX2_addEdge_56 rfl rfl ?_
    obtain ⟨i9, k⟩ := k
    refine z_last dX2_addEdge_57 (by rw [zl_7]; exact i9) rfl ?_
    refine z_iinc dX2_addEdge_58 rfl (Nat.le_of_ble_eq_true rfl) (L' := [some (vr 2 4), none, none, some (vi (l3 + 1))]) rfl rfl ?_
    refine z_goto (tgt := 39) dX2_addEdge_61 rfl ?_
    exact z_sub (L' := [some (vr 2 4), none, none, some (vi (l3 + 1))]) (And.intro rfl (And.intro rfl trivial)) k
theorem eX2_addEdge {G : zG} {d : Nat} {K : Int → zH → Prop} {l1 : Int} {l2 : Int} {h : zH} (k : tX2_addEdge_0 G d K l1 l2 h) : zCi G d mX2_addEdge [vr 2 4, vi l1, vi l2] h K := z_entry (by decide +kernel) (Nat.le_of_ble_eq_true rfl) rfl k
def tX2_addFree_0 (G : zG) (d : Nat) (K : zH → Prop) (l1 : Int) (l2 : Int) (h : zH) : Prop := zTv G d mX2_addFree K 0 [some (vr 2 4), some (vi l1), some (vi l2)] [] h
theorem bX2_addFree_0 {G : zG} {d : Nat} {K : zH → Prop} {l1 : Int} {l2 : Int} {h : zH} (k : zR (h 4 10) ∧ ((h 4 10) < 64 → ((0 : Int) ≤ (h 4 10) ∧ (h 4 10) < 64) ∧ ((0 : Int) ≤ (h 4 10) ∧ (h 4 10) < 64) ∧ K (zup (zup (zup h 8 (h 4 10) l1) 9 (h 4 10) l2) 4 10 ((h 4 10) + 1))) ∧ (¬ (h 4 10) < 64 → K (zup h 4 12 1))) : tX2_addFree_0 G d K l1 l2 h := by
  unfold tX2_addFree_0
  refine z_aload_n 0 dX2_addFree_0 rfl rfl (Nat.le_of_ble_eq_true rfl) rfl ?_
  refine z_getI 2 (x := (h 4 10)) fX2_45 rfl dX2_addFree_1 rfl rfl ?_
  refine z_bipush dX2_addFree_4 rfl rfl ?_
  obtain ⟨r1, ka, kb⟩ := k
  refine z_icmp_lt (tgt := 15) dX2_addFree_6 rfl r1 ⟨by decide, by decide⟩ rfl ⟨fun q => ?_, fun q => ?_⟩
  · have k := ka q
    refine z_aload_n 0 dX2_addFree_15 rfl rfl (Nat.le_of_ble_eq_true rfl) rfl ?_
    refine z_getF 2 13 (x := 8) fX2_22 rfl dX2_addFree_16 rfl rfl ?_
    refine z_aload_n 0 dX2_addFree_19 rfl rfl (Nat.le_of_ble_eq_true rfl) rfl ?_
    refine z_getI 2 (x := (h 4 10)) fX2_45 rfl dX2_addFree_20 rfl rfl ?_
    refine z_iload_n 1 dX2_addFree_23 rfl rfl rfl ?_
    obtain ⟨i9, k⟩ := k
    refine z_iast dX2_addFree_24 (by rw [zl_8]; exact i9) rfl ?_
    refine z_aload_n 0 dX2_addFree_25 rfl rfl (Nat.le_of_ble_eq_true rfl) rfl ?_
    refine z_getF 2 13 (x := 9) fX2_25 rfl dX2_addFree_26 rfl rfl ?_
    refine z_aload_n 0 dX2_addFree_29 rfl rfl (Nat.le_of_ble_eq_true rfl) rfl ?_
    refine z_getI 2 (x := (h 4 10)) fX2_45 rfl dX2_addFree_30 (by simp [zup]) rfl ?_
    refine z_iload_n 2 dX2_addFree_33 rfl rfl rfl ?_
    obtain ⟨i9, k⟩ := k
    refine z_iast dX2_addFree_34 (by rw [zl_9]; exact i9) rfl ?_
    refine z_aload_n 0 dX2_addFree_35 rfl rfl (Nat.le_of_ble_eq_true rfl) rfl ?_
    refine z_dup dX2_addFree_36 (fun q => by cases q) rfl ?_
    refine z_getI 2 (x := (h 4 10)) fX2_45 rfl dX2_addFree_37 (by simp [zup]) rfl ?_
    refine z_iconst dX2_addFree_40 rfl ?_
    refine z_iadd dX2_addFree_41 rfl ?_
    refine z_putI 2 gX2_45 dX2_addFree_42 rfl ?_
    exact z_return rfl dX2_addFree_45 ⟨rfl, k⟩
  · have k := kb q
    refine z_aload_n 0 dX2_addFree_9 rfl rfl (Nat.le_of_ble_eq_true rfl) rfl ?_
    refine z_iconst dX2_addFree_10 rfl ?_
    refine z_putZ 2 gX2_51 (Or.inr rfl) dX2_addFree_11 rfl ?_
    exact z_return rfl dX2_addFree_14 ⟨rfl, k⟩
theorem eX2_addFree {G : zG} {d : Nat} {K : zH → Prop} {l1 : Int} {l2 : Int} {h : zH} (k : tX2_addFree_0 G d K l1 l2 h) : zCv G d mX2_addFree [vr 2 4, vi l1, vi l2] h K := z_entry (by decide +kernel) (Nat.le_of_ble_eq_true rfl) rfl k
def tX2_freeFromEach_0 (G : zG) (d : Nat) (K : zH → Prop) (l1 : Int) (l3 : Int) (l4 : Int) (h : zH) : Prop := zTv G (d + 1) mX2_freeFromEach K 0 [some (vr 2 4), some (vl l1), none, some (vi l3), some (vi l4), none] [] h
def tX2_freeFromEach_3 (G : zG) (d : Nat) (K : zH → Prop) (l1 : Int) (l3 : Int) (l4 : Int) (l5 : Int) (h : zH) : Prop := zTv G (d + 1) mX2_freeFromEach K 3 [some (vr 2 4), some (vl l1), none, some (vi l3), some (vi l4), some (vi l5)] [] h
theorem bX2_freeFromEach_0 {G : zG} {d : Nat} {K : zH → Prop} {l1 : Int} {l3 : Int} {l4 : Int} {h : zH} (k : tX2_freeFromEach_3 G d K l1 l3 l4 0 h) : tX2_freeFromEach_0 G d K l1 l3 l4 h := by
  unfold tX2_freeFromEach_0
  refine z_iconst dX2_freeFromEach_0 rfl ?_
  refine z_istore dX2_freeFromEach_1 (Nat.le_of_ble_eq_true rfl) (L' := [some (vr 2 4), some (vl l1), none, some (vi l3), some (vi l4), some (vi 0)]) rfl rfl ?_
  exact z_sub (L' := [some (vr 2 4), some (vl l1), none, some (vi l3), some (vi l4), some (vi 0)]) (And.intro rfl (And.intro rfl (And.intro rfl (And.intro rfl (And.intro rfl trivial))))) k
theorem bX2_freeFromEach_3 {G : zG} {d : Nat} {K : zH → Prop} {l1 : Int} {l3 : Int} {l4 : Int} {l5 : Int} {h : zH} (k : zR l5 ∧ (40 ≤ l5 → K h) ∧ (¬ 40 ≤ l5 → (¬ (zcmp (zland (zlushr l1 l5) 1) 1) = 0 → tX2_freeFromEach_3 G d K l1 l3 l4 (l5 + 1) h) ∧ ((zcmp (zland (zlushr l1 l5) 1) 1) = 0 → zCv G d mX2_addFree [vr 2 4, vi (l5 + l3), vi l4] h (fun h2 => tX2_freeFromEach_3 G d K l1 l3 l4 (l5 + 1) h2)))) : tX2_freeFromEach_3 G d K l1 l3 l4 l5 h := by
  unfold tX2_freeFromEach_3
  refine z_iload dX2_freeFromEach_3 rfl rfl ?_
  refine z_bipush dX2_freeFromEach_5 rfl rfl ?_
  obtain ⟨r1, ka, kb⟩ := k
  refine z_icmp_ge (tgt := 37) dX2_freeFromEach_7 rfl r1 ⟨by decide, by decide⟩ rfl ⟨fun q => ?_, fun q => ?_⟩
  · have k := ka q
    exact z_return rfl dX2_freeFromEach_37 ⟨rfl, k⟩
  · have k := kb q
    refine z_lload_n 1 dX2_freeFromEach_10 rfl rfl rfl ?_
    refine z_iload dX2_freeFromEach_11 rfl rfl ?_
    refine z_lushr dX2_freeFromEach_13 rfl ?_
    refine z_lconst (x := 1) dX2_freeFromEach_14 rfl rfl ?_
    refine z_land dX2_freeFromEach_15 rfl ?_
    refine z_lconst (x := 1) dX2_freeFromEach_16 rfl rfl ?_
    refine z_lcmp dX2_freeFromEach_17 rfl ?_
    obtain ⟨ka, kb⟩ := k
    refine z_if_ne (tgt := 31) dX2_freeFromEach_18 rfl (zcmp_R _ _) rfl ⟨fun q => ?_, fun q => ?_⟩
    · have k := ka q
      refine z_iinc dX2_freeFromEach_31 rfl (Nat.le_of_ble_eq_true rfl) (L' := [some (vr 2 4), some (vl l1), none, some (vi l3), some (vi l4), some (vi (l5 + 1))]) rfl rfl ?_
      refine z_goto (tgt := 3) dX2_freeFromEach_34 rfl ?_
      exact z_sub (L' := [some (vr 2 4), some (vl l1), none, some (vi l3), some (vi l4), some (vi (l5 + 1))]) (And.intro rfl (And.intro rfl (And.intro rfl (And.intro rfl (And.intro rfl trivial))))) k
    · have k := kb q
      refine z_aload_n 0 dX2_freeFromEach_21 rfl rfl (Nat.le_of_ble_eq_true rfl) rfl ?_
      refine z_iload dX2_freeFromEach_22 rfl rfl ?_
      refine z_iload_n 3 dX2_freeFromEach_24 rfl rfl rfl ?_
      refine z_iadd dX2_freeFromEach_25 rfl ?_
      refine z_iload dX2_freeFromEach_26 rfl rfl ?_
      refine z_callVv vX2_addFree kX2_84 dX2_freeFromEach_28 rfl (zRo_d d) (as := [vi (l5 + l3), vi l4]) (rest := []) (Nat.le_of_ble_eq_true rfl) rfl rfl (zCv_mono (fun h2 k => ?_) k)
      refine z_iinc dX2_freeFromEach_31 rfl (Nat.le_of_ble_eq_true rfl) (L' := [some (vr 2 4), some (vl l1), none, some (vi l3), some (vi l4), some (vi (l5 + 1))]) rfl rfl ?_
      refine z_goto (tgt := 3) dX2_freeFromEach_34 rfl ?_
      exact z_sub (L' := [some (vr 2 4), some (vl l1), none, some (vi l3), some (vi l4), some (vi (l5 + 1))]) (And.intro rfl (And.intro rfl (And.intro rfl (And.intro rfl (And.intro rfl trivial))))) k
theorem eX2_freeFromEach {G : zG} {d : Nat} {K : zH → Prop} {l1 : Int} {l3 : Int} {l4 : Int} {h : zH} (k : tX2_freeFromEach_0 G d K l1 l3 l4 h) : zCv G (d + 1) mX2_freeFromEach [vr 2 4, vl l1, vi l3, vi l4] h K := z_entry (by decide +kernel) (Nat.le_of_ble_eq_true rfl) rfl k
def tX2_freeToEach_0 (G : zG) (d : Nat) (K : zH → Prop) (l1 : Int) (l3 : Int) (h : zH) : Prop := zTv G (d + 1) mX2_freeToEach K 0 [some (vr 2 4), some (vl l1), none, some (vi l3), none] [] h
def tX2_freeToEach_3 (G : zG) (d : Nat) (K : zH → Prop) (l1 : Int) (l3 : Int) (l4 : Int) (h : zH) : Prop := zTv G (d + 1) mX2_freeToEach K 3 [some (vr 2 4), some (vl l1), none, some (vi l3), some (vi l4)] [] h
theorem bX2_freeToEach_0 {G : zG} {d : Nat} {K : zH → Prop} {l1 : Int} {l3 : Int} {h : zH} (k : tX2_freeToEach_3 G d K l1 l3 0 h) : tX2_freeToEach_0 G d K l1 l3 h := by
  unfold tX2_freeToEach_0
  refine z_iconst dX2_freeToEach_0 rfl ?_
  refine z_istore dX2_freeToEach_1 (Nat.le_of_ble_eq_true rfl) (L' := [some (vr 2 4), some (vl l1), none, some (vi l3), some (vi 0)]) rfl rfl ?_
  exact z_sub (L' := [some (vr 2 4), some (vl l1), none, some (vi l3), some (vi 0)]) (And.intro rfl (And.intro rfl (And.intro rfl (And.intro rfl trivial)))) k
theorem bX2_freeToEach_3 {G : zG} {d : Nat} {K : zH → Prop} {l1 : Int} {l3 : Int} {l4 : Int} {h : zH} (k : zR l4 ∧ (40 ≤ l4 → K h) ∧ (¬ 40 ≤ l4 → (¬ (zcmp (zland (zlushr l1 l4) 1) 1) = 0 → tX2_freeToEach_3 G d K l1 l3 (l4 + 1) h) ∧ ((zcmp (zland (zlushr l1 l4) 1) 1) = 0 → zCv G d mX2_addFree [vr 2 4, vi 0, vi (l4 + l3)] h (fun h2 => tX2_freeToEach_3 G d K l1 l3 (l4 + 1) h2)))) : tX2_freeToEach_3 G d K l1 l3 l4 h := by
  unfold tX2_freeToEach_3
  refine z_iload dX2_freeToEach_3 rfl rfl ?_
  refine z_bipush dX2_freeToEach_5 rfl rfl ?_
  obtain ⟨r1, ka, kb⟩ := k
  refine z_icmp_ge (tgt := 36) dX2_freeToEach_7 rfl r1 ⟨by decide, by decide⟩ rfl ⟨fun q => ?_, fun q => ?_⟩
  · have k := ka q
    exact z_return rfl dX2_freeToEach_36 ⟨rfl, k⟩
  · have k := kb q
    refine z_lload_n 1 dX2_freeToEach_10 rfl rfl rfl ?_
    refine z_iload dX2_freeToEach_11 rfl rfl ?_
    refine z_lushr dX2_freeToEach_13 rfl ?_
    refine z_lconst (x := 1) dX2_freeToEach_14 rfl rfl ?_
    refine z_land dX2_freeToEach_15 rfl ?_
    refine z_lconst (x := 1) dX2_freeToEach_16 rfl rfl ?_
    refine z_lcmp dX2_freeToEach_17 rfl ?_
    obtain ⟨ka, kb⟩ := k
    refine z_if_ne (tgt := 30) dX2_freeToEach_18 rfl (zcmp_R _ _) rfl ⟨fun q => ?_, fun q => ?_⟩
    · have k := ka q
      refine z_iinc dX2_freeToEach_30 rfl (Nat.le_of_ble_eq_true rfl) (L' := [some (vr 2 4), some (vl l1), none, some (vi l3), some (vi (l4 + 1))]) rfl rfl ?_
      refine z_goto (tgt := 3) dX2_freeToEach_33 rfl ?_
      exact z_sub (L' := [some (vr 2 4), some (vl l1), none, some (vi l3), some (vi (l4 + 1))]) (And.intro rfl (And.intro rfl (And.intro rfl (And.intro rfl trivial)))) k
    · have k := kb q
      refine z_aload_n 0 dX2_freeToEach_21 rfl rfl (Nat.le_of_ble_eq_true rfl) rfl ?_
      refine z_iconst dX2_freeToEach_22 rfl ?_
      refine z_iload dX2_freeToEach_23 rfl rfl ?_
      refine z_iload_n 3 dX2_freeToEach_25 rfl rfl rfl ?_
      refine z_iadd dX2_freeToEach_26 rfl ?_
      refine z_callVv vX2_addFree kX2_84 dX2_freeToEach_27 rfl (zRo_d d) (as := [vi 0, vi (l4 + l3)]) (rest := []) (Nat.le_of_ble_eq_true rfl) rfl rfl (zCv_mono (fun h2 k => ?_) k)
      refine z_iinc dX2_freeToEach_30 rfl (Nat.le_of_ble_eq_true rfl) (L' := [some (vr 2 4), some (vl l1), none, some (vi l3), some (vi (l4 + 1))]) rfl rfl ?_
      refine z_goto (tgt := 3) dX2_freeToEach_33 rfl ?_
      exact z_sub (L' := [some (vr 2 4), some (vl l1), none, some (vi l3), some (vi (l4 + 1))]) (And.intro rfl (And.intro rfl (And.intro rfl (And.intro rfl trivial)))) k
theorem eX2_freeToEach {G : zG} {d : Nat} {K : zH → Prop} {l1 : Int} {l3 : Int} {h : zH} (k : tX2_freeToEach_0 G d K l1 l3 h) : zCv G (d + 1) mX2_freeToEach [vr 2 4, vl l1, vi l3] h K := z_entry (by decide +kernel) (Nat.le_of_ble_eq_true rfl) rfl k
def tX2_isMarked_0 (G : zG) (d : Nat) (K : Bool → zH → Prop) (l1 : Int) (l2 : Int) (h : zH) : Prop := zTb G d mX2_isMarked K 0 [some (vr 2 4), some (vi l1), some (vi l2)] [] h
theorem bX2_isMarked_0 {G : zG} {d : Nat} {K : Bool → zH → Prop} {l1 : Int} {l2 : Int} {h : zH} (k : (0 ≤ l2 ∧ l2 < 2147483648) ∧ ((0 : Int) ≤ ((l1 * 4) + (l2 / 64)) ∧ ((l1 * 4) + (l2 / 64)) < 640) ∧ (0 ≤ l2 ∧ l2 < 2147483648) ∧ (¬ (zcmp (zland (zlushr (h 7 ((l1 * 4) + (l2 / 64))) (l2 % 64)) 1) 1) = 0 → K false h) ∧ ((zcmp (zland (zlushr (h 7 ((l1 * 4) + (l2 / 64))) (l2 % 64)) 1) 1) = 0 → K true h)) : tX2_isMarked_0 G d K l1 l2 h := by
  unfold tX2_isMarked_0
  refine z_aload_n 0 dX2_isMarked_0 rfl rfl (Nat.le_of_ble_eq_true rfl) rfl ?_
  refine z_getF 2 14 (x := 7) fX2_18 rfl dX2_isMarked_1 rfl rfl ?_
  refine z_iload_n 1 dX2_isMarked_4 rfl rfl rfl ?_
  refine z_iconst dX2_isMarked_5 rfl ?_
  refine z_imul dX2_isMarked_6 rfl ?_
  refine z_iload_n 2 dX2_isMarked_7 rfl rfl rfl ?_
  refine z_bipush dX2_isMarked_8 rfl rfl ?_
  obtain ⟨i9, k⟩ := k
  refine z_idiv dX2_isMarked_10 ⟨i9.1, i9.2, by decide, by decide⟩ rfl ?_
  refine z_iadd dX2_isMarked_11 rfl ?_
  obtain ⟨i9, k⟩ := k
  refine z_lald (x := (h 7 ((l1 * 4) + (l2 / 64)))) dX2_isMarked_12 (by rw [zl_7]; exact i9) rfl rfl ?_
  refine z_iload_n 2 dX2_isMarked_13 rfl rfl rfl ?_
  refine z_bipush dX2_isMarked_14 rfl rfl ?_
  obtain ⟨i9, k⟩ := k
  refine z_irem dX2_isMarked_16 ⟨i9.1, i9.2, by decide, by decide⟩ rfl ?_
  refine z_lushr dX2_isMarked_17 rfl ?_
  refine z_lconst (x := 1) dX2_isMarked_18 rfl rfl ?_
  refine z_land dX2_isMarked_19 rfl ?_
  refine z_lconst (x := 1) dX2_isMarked_20 rfl rfl ?_
  refine z_lcmp dX2_isMarked_21 rfl ?_
  obtain ⟨ka, kb⟩ := k
  refine z_if_ne (tgt := 29) dX2_isMarked_22 rfl (zcmp_R _ _) rfl ⟨fun q => ?_, fun q => ?_⟩
  · have k := ka q
    refine z_iconst dX2_isMarked_29 rfl ?_
    exact z_zreturn rfl (Or.inl rfl) dX2_isMarked_30 ⟨false, rfl, k⟩
  · have k := kb q
    refine z_iconst dX2_isMarked_25 rfl ?_
    refine z_goto (tgt := 30) dX2_isMarked_26 rfl ?_
    exact z_zreturn rfl (Or.inr rfl) dX2_isMarked_30 ⟨true, rfl, k⟩
theorem eX2_isMarked {G : zG} {d : Nat} {K : Bool → zH → Prop} {l1 : Int} {l2 : Int} {h : zH} (k : tX2_isMarked_0 G d K l1 l2 h) : zCb G d mX2_isMarked [vr 2 4, vi l1, vi l2] h K := z_entry (by decide +kernel) (Nat.le_of_ble_eq_true rfl) rfl k
def tX2_mark_0 (G : zG) (d : Nat) (K : zH → Prop) (l1 : Int) (l2 : Int) (h : zH) : Prop := zTv G d mX2_mark K 0 [some (vr 2 4), some (vi l1), some (vi l2)] [] h
theorem bX2_mark_0 {G : zG} {d : Nat} {K : zH → Prop} {l1 : Int} {l2 : Int} {h : zH} (k : (0 ≤ l2 ∧ l2 < 2147483648) ∧ ((0 : Int) ≤ ((l1 * 4) + (l2 / 64)) ∧ ((l1 * 4) + (l2 / 64)) < 640) ∧ (0 ≤ l2 ∧ l2 < 2147483648) ∧ ((0 : Int) ≤ ((l1 * 4) + (l2 / 64)) ∧ ((l1 * 4) + (l2 / 64)) < 640) ∧ K (zup h 7 ((l1 * 4) + (l2 / 64)) (zlor (h 7 ((l1 * 4) + (l2 / 64))) (zlshl 1 (l2 % 64))))) : tX2_mark_0 G d K l1 l2 h := by
  unfold tX2_mark_0
  refine z_aload_n 0 dX2_mark_0 rfl rfl (Nat.le_of_ble_eq_true rfl) rfl ?_
  refine z_getF 2 14 (x := 7) fX2_18 rfl dX2_mark_1 rfl rfl ?_
  refine z_iload_n 1 dX2_mark_4 rfl rfl rfl ?_
  refine z_iconst dX2_mark_5 rfl ?_
  refine z_imul dX2_mark_6 rfl ?_
  refine z_iload_n 2 dX2_mark_7 rfl rfl rfl ?_
  refine z_bipush dX2_mark_8 rfl rfl ?_
  obtain ⟨i9, k⟩ := k
  refine z_idiv dX2_mark_10 ⟨i9.1, i9.2, by decide, by decide⟩ rfl ?_
  refine z_iadd dX2_mark_11 rfl ?_
  refine z_dup2 dX2_mark_12 (fun q => by cases q) (fun q => by cases q) rfl ?_
  obtain ⟨i9, k⟩ := k
  refine z_lald (x := (h 7 ((l1 * 4) + (l2 / 64)))) dX2_mark_13 (by rw [zl_7]; exact i9) rfl rfl ?_
  refine z_lconst (x := 1) dX2_mark_14 rfl rfl ?_
  refine z_iload_n 2 dX2_mark_15 rfl rfl rfl ?_
  refine z_bipush dX2_mark_16 rfl rfl ?_
  obtain ⟨i9, k⟩ := k
  refine z_irem dX2_mark_18 ⟨i9.1, i9.2, by decide, by decide⟩ rfl ?_
  refine z_lshl dX2_mark_19 rfl ?_
  refine z_lor dX2_mark_20 rfl ?_
  obtain ⟨i9, k⟩ := k
  refine z_last dX2_mark_21 (by rw [zl_7]; exact i9) rfl ?_
  exact z_return rfl dX2_mark_22 ⟨rfl, k⟩
theorem eX2_mark {G : zG} {d : Nat} {K : zH → Prop} {l1 : Int} {l2 : Int} {h : zH} (k : tX2_mark_0 G d K l1 l2 h) : zCv G d mX2_mark [vr 2 4, vi l1, vi l2] h K := z_entry (by decide +kernel) (Nat.le_of_ble_eq_true rfl) rfl k
def tX2_markSet_0 (G : zG) (d : Nat) (K : zH → Prop) (l1 : Int) (l2 : Int) (h : zH) : Prop := zTv G (d + 1) mX2_markSet K 0 [some (vr 2 4), some (vi l1), some (vr 3 l2), none] [] h
def tX2_markSet_2 (G : zG) (d : Nat) (K : zH → Prop) (l1 : Int) (l2 : Int) (l3 : Int) (h : zH) : Prop := zTv G (d + 1) mX2_markSet K 2 [some (vr 2 4), some (vi l1), some (vr 3 l2), some (vi l3)] [] h
theorem bX2_markSet_0 {G : zG} {d : Nat} {K : zH → Prop} {l1 : Int} {l2 : Int} {h : zH} (k : tX2_markSet_2 G d K l1 l2 0 h) : tX2_markSet_0 G d K l1 l2 h := by
  unfold tX2_markSet_0
  refine z_iconst dX2_markSet_0 rfl ?_
  refine z_istore_n 3 dX2_markSet_1 rfl (Nat.le_of_ble_eq_true rfl) (L' := [some (vr 2 4), some (vi l1), some (vr 3 l2), some (vi 0)]) rfl rfl ?_
  exact z_sub (L' := [some (vr 2 4), some (vi l1), some (vr 3 l2), some (vi 0)]) (And.intro rfl (And.intro rfl (And.intro rfl (And.intro rfl trivial)))) k
theorem bX2_markSet_2 {G : zG} {d : Nat} {K : zH → Prop} {l1 : Int} {l2 : Int} {l3 : Int} {h : zH} (k : zR l3 ∧ zR (h 4 11) ∧ ((h 4 11) ≤ l3 → K h) ∧ (¬ (h 4 11) ≤ l3 → ((0 : Int) ≤ l3 ∧ l3 < 256) ∧ zCb G d mX3_holds [vr 3 l2, vi (h 10 l3)] h (fun x1 h2 => (x1 = false → tX2_markSet_2 G d K l1 l2 (l3 + 1) h2) ∧ (x1 = true → zCv G d mX2_mark [vr 2 4, vi l1, vi l3] h2 (fun h4 => tX2_markSet_2 G d K l1 l2 (l3 + 1) h4))))) : tX2_markSet_2 G d K l1 l2 l3 h := by
  unfold tX2_markSet_2
  refine z_iload_n 3 dX2_markSet_2 rfl rfl rfl ?_
  refine z_aload_n 0 dX2_markSet_3 rfl rfl (Nat.le_of_ble_eq_true rfl) rfl ?_
  refine z_getI 2 (x := (h 4 11)) fX2_48 rfl dX2_markSet_4 rfl rfl ?_
  obtain ⟨r1, r2, ka, kb⟩ := k
  refine z_icmp_ge (tgt := 35) dX2_markSet_7 rfl r1 r2 rfl ⟨fun q => ?_, fun q => ?_⟩
  · have k := ka q
    exact z_return rfl dX2_markSet_35 ⟨rfl, k⟩
  · have k := kb q
    refine z_aload_n 2 dX2_markSet_10 rfl rfl (Nat.le_of_ble_eq_true rfl) rfl ?_
    refine z_aload_n 0 dX2_markSet_11 rfl rfl (Nat.le_of_ble_eq_true rfl) rfl ?_
    refine z_getF 2 13 (x := 10) fX2_28 rfl dX2_markSet_12 rfl rfl ?_
    refine z_iload_n 3 dX2_markSet_15 rfl rfl rfl ?_
    obtain ⟨i9, k⟩ := k
    refine z_iald (x := (h 10 l3)) dX2_markSet_16 (by rw [zl_10]; exact i9) rfl rfl ?_
    refine z_callVb vX3_holds kX2_80 dX2_markSet_17 rfl (zRo_d d) (as := [vi (h 10 l3)]) (rest := []) (Nat.le_of_ble_eq_true rfl) rfl rfl (zCb_mono (fun x1 h2 k => ?_) k)
    obtain ⟨ka, kb⟩ := k
    refine z_ifb_eq (tgt := 29) dX2_markSet_20 rfl rfl ⟨fun q => ?_, fun q => ?_⟩
    · have k := ka q
      refine z_iinc dX2_markSet_29 rfl (Nat.le_of_ble_eq_true rfl) (L' := [some (vr 2 4), some (vi l1), some (vr 3 l2), some (vi (l3 + 1))]) rfl rfl ?_
      refine z_goto (tgt := 2) dX2_markSet_32 rfl ?_
      exact z_sub (L' := [some (vr 2 4), some (vi l1), some (vr 3 l2), some (vi (l3 + 1))]) (And.intro rfl (And.intro rfl (And.intro rfl (And.intro rfl trivial)))) k
    · have k := kb q
      refine z_aload_n 0 dX2_markSet_23 rfl rfl (Nat.le_of_ble_eq_true rfl) rfl ?_
      refine z_iload_n 1 dX2_markSet_24 rfl rfl rfl ?_
      refine z_iload_n 3 dX2_markSet_25 rfl rfl rfl ?_
      refine z_callVv vX2_mark kX2_88 dX2_markSet_26 rfl (zRo_d d) (as := [vi l1, vi l3]) (rest := []) (Nat.le_of_ble_eq_true rfl) rfl rfl (zCv_mono (fun h4 k => ?_) k)
      refine z_iinc dX2_markSet_29 rfl (Nat.le_of_ble_eq_true rfl) (L' := [some (vr 2 4), some (vi l1), some (vr 3 l2), some (vi (l3 + 1))]) rfl rfl ?_
      refine z_goto (tgt := 2) dX2_markSet_32 rfl ?_
      exact z_sub (L' := [some (vr 2 4), some (vi l1), some (vr 3 l2), some (vi (l3 + 1))]) (And.intro rfl (And.intro rfl (And.intro rfl (And.intro rfl trivial)))) k
theorem eX2_markSet {G : zG} {d : Nat} {K : zH → Prop} {l1 : Int} {l2 : Int} {h : zH} (k : tX2_markSet_0 G d K l1 l2 h) : zCv G (d + 1) mX2_markSet [vr 2 4, vi l1, vr 3 l2] h K := z_entry (by decide +kernel) (Nat.le_of_ble_eq_true rfl) rfl k
def tX2_lead_0 (G : zG) (d : Nat) (K : zH → Prop) (l1 : Int) (l2 : Int) (l3 : Int) (h : zH) : Prop := zTv G (d + 1) mX2_lead K 0 [some (vr 2 4), some (vi l1), some (vi l2), some (vi l3), none] [] h
def tX2_lead_8 (G : zG) (d : Nat) (K : zH → Prop) (l1 : Int) (l2 : Int) (l3 : Int) (l4 : Int) (h : zH) : Prop := zTv G (d + 1) mX2_lead K 8 [some (vr 2 4), some (vi l1), some (vi l2), some (vi l3), some (vi l4)] [] h
theorem bX2_lead_0 {G : zG} {d : Nat} {K : zH → Prop} {l1 : Int} {l2 : Int} {l3 : Int} {h : zH} (k : tX2_lead_8 G d K l1 l2 l3 ((h 4 9) - 1) h) : tX2_lead_0 G d K l1 l2 l3 h := by
  unfold tX2_lead_0
  refine z_aload_n 0 dX2_lead_0 rfl rfl (Nat.le_of_ble_eq_true rfl) rfl ?_
  refine z_getI 2 (x := (h 4 9)) fX2_42 rfl dX2_lead_1 rfl rfl ?_
  refine z_iconst dX2_lead_4 rfl ?_
  refine z_isub dX2_lead_5 rfl ?_
  refine z_istore dX2_lead_6 (Nat.le_of_ble_eq_true rfl) (L' := [some (vr 2 4), some (vi l1), some (vi l2), some (vi l3), some (vi ((h 4 9) - 1))]) rfl rfl ?_
  exact z_sub (L' := [some (vr 2 4), some (vi l1), some (vi l2), some (vi l3), some (vi ((h 4 9) - 1))]) (And.intro rfl (And.intro rfl (And.intro rfl (And.intro rfl (And.intro rfl trivial))))) k
theorem bX2_lead_8 {G : zG} {d : Nat} {K : zH → Prop} {l1 : Int} {l2 : Int} {l3 : Int} {l4 : Int} {h : zH} (k : zR l4 ∧ (l4 < 0 → zR l4 ∧ (l4 < 0 → zCi G d mX2_addEdge [vr 2 4, vi l1, vi l2] h (fun x1 h2 => zR x1 ∧ (x1 < 0 → K h2) ∧ (¬ x1 < 0 → zCv G d mX2_mark [vr 2 4, vi x1, vi l3] h2 (fun h4 => K h4)))) ∧ (¬ l4 < 0 → ((0 : Int) ≤ l4 ∧ l4 < 160) ∧ zR (h 5 l4) ∧ zR l1 ∧ ((h 5 l4) = l1 → zR l4 ∧ (l4 < 0 → K h) ∧ (¬ l4 < 0 → zCv G d mX2_mark [vr 2 4, vi l4, vi l3] h (fun h6 => K h6))) ∧ (¬ (h 5 l4) = l1 → zCi G d mX2_addEdge [vr 2 4, vi l1, vi l2] h (fun x7 h8 => zR x7 ∧ (x7 < 0 → K h8) ∧ (¬ x7 < 0 → zCv G d mX2_mark [vr 2 4, vi x7, vi l3] h8 (fun h10 => K h10)))))) ∧ (¬ l4 < 0 → ((0 : Int) ≤ l4 ∧ l4 < 160) ∧ zR (h 5 l4) ∧ zR l1 ∧ (¬ (h 5 l4) = l1 → zR l4 ∧ (l4 < 0 → zCi G d mX2_addEdge [vr 2 4, vi l1, vi l2] h (fun x11 h12 => zR x11 ∧ (x11 < 0 → K h12) ∧ (¬ x11 < 0 → zCv G d mX2_mark [vr 2 4, vi x11, vi l3] h12 (fun h14 => K h14)))) ∧ (¬ l4 < 0 → ((0 : Int) ≤ l4 ∧ l4 < 160) ∧ zR (h 5 l4) ∧ zR l1 ∧ ((h 5 l4) = l1 → zR l4 ∧ (l4 < 0 → K h) ∧ (¬ l4 < 0 → zCv G d mX2_mark [vr 2 4, vi l4, vi l3] h (fun h16 => K h16))) ∧ (¬ (h 5 l4) = l1 → zCi G d mX2_addEdge [vr 2 4, vi l1, vi l2] h (fun x17 h18 => zR x17 ∧ (x17 < 0 → K h18) ∧ (¬ x17 < 0 → zCv G d mX2_mark [vr 2 4, vi x17, vi l3] h18 (fun h20 => K h20)))))) ∧ ((h 5 l4) = l1 → ((0 : Int) ≤ l4 ∧ l4 < 160) ∧ zR (h 6 l4) ∧ zR l2 ∧ ((h 6 l4) = l2 → zR l4 ∧ (l4 < 0 → zCi G d mX2_addEdge [vr 2 4, vi l1, vi l2] h (fun x21 h22 => zR x21 ∧ (x21 < 0 → K h22) ∧ (¬ x21 < 0 → zCv G d mX2_mark [vr 2 4, vi x21, vi l3] h22 (fun h24 => K h24)))) ∧ (¬ l4 < 0 → ((0 : Int) ≤ l4 ∧ l4 < 160) ∧ zR (h 5 l4) ∧ zR l1 ∧ ((h 5 l4) = l1 → zR l4 ∧ (l4 < 0 → K h) ∧ (¬ l4 < 0 → zCv G d mX2_mark [vr 2 4, vi l4, vi l3] h (fun h26 => K h26))) ∧ (¬ (h 5 l4) = l1 → zCi G d mX2_addEdge [vr 2 4, vi l1, vi l2] h (fun x27 h28 => zR x27 ∧ (x27 < 0 → K h28) ∧ (¬ x27 < 0 → zCv G d mX2_mark [vr 2 4, vi x27, vi l3] h28 (fun h30 => K h30)))))) ∧ (¬ (h 6 l4) = l2 → tX2_lead_8 G d K l1 l2 l3 (l4 + (-1)) h)))) : tX2_lead_8 G d K l1 l2 l3 l4 h := by
  unfold tX2_lead_8
  refine z_iload dX2_lead_8 rfl rfl ?_
  obtain ⟨r1, ka, kb⟩ := k
  refine z_if_lt (tgt := 41) dX2_lead_10 rfl r1 rfl ⟨fun q => ?_, fun q => ?_⟩
  · have k := ka q
    refine z_iload dX2_lead_41 rfl rfl ?_
    obtain ⟨r1, ka, kb⟩ := k
    refine z_if_lt (tgt := 57) dX2_lead_43 rfl r1 rfl ⟨fun q => ?_, fun q => ?_⟩
    · have k := ka q
      refine z_aload_n 0 dX2_lead_57 rfl rfl (Nat.le_of_ble_eq_true rfl) rfl ?_
      refine z_iload_n 1 dX2_lead_58 rfl rfl rfl ?_
      refine z_iload_n 2 dX2_lead_59 rfl rfl rfl ?_
      refine z_callVi vX2_addEdge kX2_91 dX2_lead_60 rfl (zRo_d d) (as := [vi l1, vi l2]) (rest := []) (Nat.le_of_ble_eq_true rfl) rfl rfl (zCi_mono (fun x1 h2 k => ?_) k)
      refine z_istore dX2_lead_63 (Nat.le_of_ble_eq_true rfl) (L' := [some (vr 2 4), some (vi l1), some (vi l2), some (vi l3), some (vi x1)]) rfl rfl ?_
      refine z_iload dX2_lead_65 rfl rfl ?_
      obtain ⟨r1, ka, kb⟩ := k
      refine z_if_lt (tgt := 77) dX2_lead_67 rfl r1 rfl ⟨fun q => ?_, fun q => ?_⟩
      · have k := ka q
        exact z_return rfl dX2_lead_77 ⟨rfl, k⟩
      · have k := kb q
        refine z_aload_n 0 dX2_lead_70 rfl rfl (Nat.le_of_ble_eq_true rfl) rfl ?_
        refine z_iload dX2_lead_71 rfl rfl ?_
        refine z_iload_n 3 dX2_lead_73 rfl rfl rfl ?_
        refine z_callVv vX2_mark kX2_88 dX2_lead_74 rfl (zRo_d d) (as := [vi x1, vi l3]) (rest := []) (Nat.le_of_ble_eq_true rfl) rfl rfl (zCv_mono (fun h4 k => ?_) k)
        exact z_return rfl dX2_lead_77 ⟨rfl, k⟩
    · have k := kb q
      refine z_aload_n 0 dX2_lead_46 rfl rfl (Nat.le_of_ble_eq_true rfl) rfl ?_
      refine z_getF 2 13 (x := 5) fX2_9 rfl dX2_lead_47 rfl rfl ?_
      refine z_iload dX2_lead_50 rfl rfl ?_
      obtain ⟨i9, k⟩ := k
      refine z_iald (x := (h 5 l4)) dX2_lead_52 (by rw [zl_5]; exact i9) rfl rfl ?_
      refine z_iload_n 1 dX2_lead_53 rfl rfl rfl ?_
      obtain ⟨r1, r2, ka, kb⟩ := k
      refine z_icmp_eq (tgt := 65) dX2_lead_54 rfl r1 r2 rfl ⟨fun q => ?_, fun q => ?_⟩
      · have k := ka q
        refine z_iload dX2_lead_65 rfl rfl ?_
        obtain ⟨r1, ka, kb⟩ := k
        refine z_if_lt (tgt := 77) dX2_lead_67 rfl r1 rfl ⟨fun q => ?_, fun q => ?_⟩
        · have k := ka q
          exact z_return rfl dX2_lead_77 ⟨rfl, k⟩
        · have k := kb q
          refine z_aload_n 0 dX2_lead_70 rfl rfl (Nat.le_of_ble_eq_true rfl) rfl ?_
          refine z_iload dX2_lead_71 rfl rfl ?_
          refine z_iload_n 3 dX2_lead_73 rfl rfl rfl ?_
          refine z_callVv vX2_mark kX2_88 dX2_lead_74 rfl (zRo_d d) (as := [vi l4, vi l3]) (rest := []) (Nat.le_of_ble_eq_true rfl) rfl rfl (zCv_mono (fun h6 k => ?_) k)
          exact z_return rfl dX2_lead_77 ⟨rfl, k⟩
      · have k := kb q
        refine z_aload_n 0 dX2_lead_57 rfl rfl (Nat.le_of_ble_eq_true rfl) rfl ?_
        refine z_iload_n 1 dX2_lead_58 rfl rfl rfl ?_
        refine z_iload_n 2 dX2_lead_59 rfl rfl rfl ?_
        refine z_callVi vX2_addEdge kX2_91 dX2_lead_60 rfl (zRo_d d) (as := [vi l1, vi l2]) (rest := []) (Nat.le_of_ble_eq_true rfl) rfl rfl (zCi_mono (fun x7 h8 k => ?_) k)
        refine z_istore dX2_lead_63 (Nat.le_of_ble_eq_true rfl) (L' := [some (vr 2 4), some (vi l1), some (vi l2), some (vi l3), some (vi x7)]) rfl rfl ?_
        refine z_iload dX2_lead_65 rfl rfl ?_
        obtain ⟨r1, ka, kb⟩ := k
        refine z_if_lt (tgt := 77) dX2_lead_67 rfl r1 rfl ⟨fun q => ?_, fun q => ?_⟩
        · have k := ka q
          exact z_return rfl dX2_lead_77 ⟨rfl, k⟩
        · have k := kb q
          refine z_aload_n 0 dX2_lead_70 rfl rfl (Nat.le_of_ble_eq_true rfl) rfl ?_
          refine z_iload dX2_lead_71 rfl rfl ?_
          refine z_iload_n 3 dX2_lead_73 rfl rfl rfl ?_
          refine z_callVv vX2_mark kX2_88 dX2_lead_74 rfl (zRo_d d) (as := [vi x7, vi l3]) (rest := []) (Nat.le_of_ble_eq_true rfl) rfl rfl (zCv_mono (fun h10 k => ?_) k)
          exact z_return rfl dX2_lead_77 ⟨rfl, k⟩
  · have k := kb q
    refine z_aload_n 0 dX2_lead_13 rfl rfl (Nat.le_of_ble_eq_true rfl) rfl ?_
    refine z_getF 2 13 (x := 5) fX2_9 rfl dX2_lead_14 rfl rfl ?_
    refine z_iload dX2_lead_17 rfl rfl ?_
    obtain ⟨i9, k⟩ := k
    refine z_iald (x := (h 5 l4)) dX2_lead_19 (by rw [zl_5]; exact i9) rfl rfl ?_
    refine z_iload_n 1 dX2_lead_20 rfl rfl rfl ?_
    obtain ⟨r1, r2, ka, kb⟩ := k
    refine z_icmp_ne (tgt := 41) dX2_lead_21 rfl r1 r2 rfl ⟨fun q => ?_, fun q => ?_⟩
    · have k := ka q
      refine z_iload dX2_lead_41 rfl rfl ?_
      obtain ⟨r1, ka, kb⟩ := k
      refine z_if_lt (tgt := 57) dX2_lead_43 rfl r1 rfl ⟨fun q => ?_, fun q => ?_⟩
      · have k := ka q
        refine z_aload_n 0 dX2_lead_57 rfl rfl (Nat.le_of_ble_eq_true rfl) rfl ?_
        refine z_iload_n 1 dX2_lead_58 rfl rfl rfl ?_
        refine z_iload_n 2 dX2_lead_59 rfl rfl rfl ?_
        refine z_callVi vX2_addEdge kX2_91 dX2_lead_60 rfl (zRo_d d) (as := [vi l1, vi l2]) (rest := []) (Nat.le_of_ble_eq_true rfl) rfl rfl (zCi_mono (fun x11 h12 k => ?_) k)
        refine z_istore dX2_lead_63 (Nat.le_of_ble_eq_true rfl) (L' := [some (vr 2 4), some (vi l1), some (vi l2), some (vi l3), some (vi x11)]) rfl rfl ?_
        refine z_iload dX2_lead_65 rfl rfl ?_
        obtain ⟨r1, ka, kb⟩ := k
        refine z_if_lt (tgt := 77) dX2_lead_67 rfl r1 rfl ⟨fun q => ?_, fun q => ?_⟩
        · have k := ka q
          exact z_return rfl dX2_lead_77 ⟨rfl, k⟩
        · have k := kb q
          refine z_aload_n 0 dX2_lead_70 rfl rfl (Nat.le_of_ble_eq_true rfl) rfl ?_
          refine z_iload dX2_lead_71 rfl rfl ?_
          refine z_iload_n 3 dX2_lead_73 rfl rfl rfl ?_
          refine z_callVv vX2_mark kX2_88 dX2_lead_74 rfl (zRo_d d) (as := [vi x11, vi l3]) (rest := []) (Nat.le_of_ble_eq_true rfl) rfl rfl (zCv_mono (fun h14 k => ?_) k)
          exact z_return rfl dX2_lead_77 ⟨rfl, k⟩
      · have k := kb q
        refine z_aload_n 0 dX2_lead_46 rfl rfl (Nat.le_of_ble_eq_true rfl) rfl ?_
        refine z_getF 2 13 (x := 5) fX2_9 rfl dX2_lead_47 rfl rfl ?_
        refine z_iload dX2_lead_50 rfl rfl ?_
        obtain ⟨i9, k⟩ := k
        refine z_iald (x := (h 5 l4)) dX2_lead_52 (by rw [zl_5]; exact i9) rfl rfl ?_
        refine z_iload_n 1 dX2_lead_53 rfl rfl rfl ?_
        obtain ⟨r1, r2, ka, kb⟩ := k
        refine z_icmp_eq (tgt := 65) dX2_lead_54 rfl r1 r2 rfl ⟨fun q => ?_, fun q => ?_⟩
        · have k := ka q
          refine z_iload dX2_lead_65 rfl rfl ?_
          obtain ⟨r1, ka, kb⟩ := k
          refine z_if_lt (tgt := 77) dX2_lead_67 rfl r1 rfl ⟨fun q => ?_, fun q => ?_⟩
          · have k := ka q
            exact z_return rfl dX2_lead_77 ⟨rfl, k⟩
          · have k := kb q
            refine z_aload_n 0 dX2_lead_70 rfl rfl (Nat.le_of_ble_eq_true rfl) rfl ?_
            refine z_iload dX2_lead_71 rfl rfl ?_
            refine z_iload_n 3 dX2_lead_73 rfl rfl rfl ?_
            refine z_callVv vX2_mark kX2_88 dX2_lead_74 rfl (zRo_d d) (as := [vi l4, vi l3]) (rest := []) (Nat.le_of_ble_eq_true rfl) rfl rfl (zCv_mono (fun h16 k => ?_) k)
            exact z_return rfl dX2_lead_77 ⟨rfl, k⟩
        · have k := kb q
          refine z_aload_n 0 dX2_lead_57 rfl rfl (Nat.le_of_ble_eq_true rfl) rfl ?_
          refine z_iload_n 1 dX2_lead_58 rfl rfl rfl ?_
          refine z_iload_n 2 dX2_lead_59 rfl rfl rfl ?_
          refine z_callVi vX2_addEdge kX2_91 dX2_lead_60 rfl (zRo_d d) (as := [vi l1, vi l2]) (rest := []) (Nat.le_of_ble_eq_true rfl) rfl rfl (zCi_mono (fun x17 h18 k => ?_) k)
          refine z_istore dX2_lead_63 (Nat.le_of_ble_eq_true rfl) (L' := [some (vr 2 4), some (vi l1), some (vi l2), some (vi l3), some (vi x17)]) rfl rfl ?_
          refine z_iload dX2_lead_65 rfl rfl ?_
          obtain ⟨r1, ka, kb⟩ := k
          refine z_if_lt (tgt := 77) dX2_lead_67 rfl r1 rfl ⟨fun q => ?_, fun q => ?_⟩
          · have k := ka q
            exact z_return rfl dX2_lead_77 ⟨rfl, k⟩
          · have k := kb q
            refine z_aload_n 0 dX2_lead_70 rfl rfl (Nat.le_of_ble_eq_true rfl) rfl ?_
            refine z_iload dX2_lead_71 rfl rfl ?_
            refine z_iload_n 3 dX2_lead_73 rfl rfl rfl ?_
            refine z_callVv vX2_mark kX2_88 dX2_lead_74 rfl (zRo_d d) (as := [vi x17, vi l3]) (rest := []) (Nat.le_of_ble_eq_true rfl) rfl rfl (zCv_mono (fun h20 k => ?_) k)
            exact z_return rfl dX2_lead_77 ⟨rfl, k⟩
    · have k := kb q
      refine z_aload_n 0 dX2_lead_24 rfl rfl (Nat.le_of_ble_eq_true rfl) rfl ?_
      refine z_getF 2 13 (x := 6) fX2_15 rfl dX2_lead_25 rfl rfl ?_
      refine z_iload dX2_lead_28 rfl rfl ?_
      obtain ⟨i9, k⟩ := k
      refine z_iald (x := (h 6 l4)) dX2_lead_30 (by rw [zl_6]; exact i9) rfl rfl ?_
      refine z_iload_n 2 dX2_lead_31 rfl rfl rfl ?_
      obtain ⟨r1, r2, ka, kb⟩ := k
      refine z_icmp_eq (tgt := 41) dX2_lead_32 rfl r1 r2 rfl ⟨fun q => ?_, fun q => ?_⟩
      · have k := ka q
        refine z_iload dX2_lead_41 rfl rfl ?_
        obtain ⟨r1, ka, kb⟩ := k
        refine z_if_lt (tgt := 57) dX2_lead_43 rfl r1 rfl ⟨fun q => ?_, fun q => ?_⟩
        · have k := ka q
          refine z_aload_n 0 dX2_lead_57 rfl rfl (Nat.le_of_ble_eq_true rfl) rfl ?_
          refine z_iload_n 1 dX2_lead_58 rfl rfl rfl ?_
          refine z_iload_n 2 dX2_lead_59 rfl rfl rfl ?_
          refine z_callVi vX2_addEdge kX2_91 dX2_lead_60 rfl (zRo_d d) (as := [vi l1, vi l2]) (rest := []) (Nat.le_of_ble_eq_true rfl) rfl rfl (zCi_mono (fun x21 h22 k => ?_) k)
          refine z_istore dX2_lead_63 (Nat.le_of_ble_eq_true rfl) (L' := [some (vr 2 4), some (vi l1), some (vi l2), some (vi l3), some (vi x21)]) rfl rfl ?_
          refine z_iload dX2_lead_65 rfl rfl ?_
          obtain ⟨r1, ka, kb⟩ := k
          refine z_if_lt (tgt := 77) dX2_lead_67 rfl r1 rfl ⟨fun q => ?_, fun q => ?_⟩
          · have k := ka q
            exact z_return rfl dX2_lead_77 ⟨rfl, k⟩
          · have k := kb q
            refine z_aload_n 0 dX2_lead_70 rfl rfl (Nat.le_of_ble_eq_true rfl) rfl ?_
            refine z_iload dX2_lead_71 rfl rfl ?_
            refine z_iload_n 3 dX2_lead_73 rfl rfl rfl ?_
            refine z_callVv vX2_mark kX2_88 dX2_lead_74 rfl (zRo_d d) (as := [vi x21, vi l3]) (rest := []) (Nat.le_of_ble_eq_true rfl) rfl rfl (zCv_mono (fun h24 k => ?_) k)
            exact z_return rfl dX2_lead_77 ⟨rfl, k⟩
        · have k := kb q
          refine z_aload_n 0 dX2_lead_46 rfl rfl (Nat.le_of_ble_eq_true rfl) rfl ?_
          refine z_getF 2 13 (x := 5) fX2_9 rfl dX2_lead_47 rfl rfl ?_
          refine z_iload dX2_lead_50 rfl rfl ?_
          obtain ⟨i9, k⟩ := k
          refine z_iald (x := (h 5 l4)) dX2_lead_52 (by rw [zl_5]; exact i9) rfl rfl ?_
          refine z_iload_n 1 dX2_lead_53 rfl rfl rfl ?_
          obtain ⟨r1, r2, ka, kb⟩ := k
          refine z_icmp_eq (tgt := 65) dX2_lead_54 rfl r1 r2 rfl ⟨fun q => ?_, fun q => ?_⟩
          · have k := ka q
            refine z_iload dX2_lead_65 rfl rfl ?_
            obtain ⟨r1, ka, kb⟩ := k
            refine z_if_lt (tgt := 77) dX2_lead_67 rfl r1 rfl ⟨fun q => ?_, fun q => ?_⟩
            · have k := ka q
              exact z_return rfl dX2_lead_77 ⟨rfl, k⟩
            · have k := kb q
              refine z_aload_n 0 dX2_lead_70 rfl rfl (Nat.le_of_ble_eq_true rfl) rfl ?_
              refine z_iload dX2_lead_71 rfl rfl ?_
              refine z_iload_n 3 dX2_lead_73 rfl rfl rfl ?_
              refine z_callVv vX2_mark kX2_88 dX2_lead_74 rfl (zRo_d d) (as := [vi l4, vi l3]) (rest := []) (Nat.le_of_ble_eq_true rfl) rfl rfl (zCv_mono (fun h26 k => ?_) k)
              exact z_return rfl dX2_lead_77 ⟨rfl, k⟩
          · have k := kb q
            refine z_aload_n 0 dX2_lead_57 rfl rfl (Nat.le_of_ble_eq_true rfl) rfl ?_
            refine z_iload_n 1 dX2_lead_58 rfl rfl rfl ?_
            refine z_iload_n 2 dX2_lead_59 rfl rfl rfl ?_
            refine z_callVi vX2_addEdge kX2_91 dX2_lead_60 rfl (zRo_d d) (as := [vi l1, vi l2]) (rest := []) (Nat.le_of_ble_eq_true rfl) rfl rfl (zCi_mono (fun x27 h28 k => ?_) k)
            refine z_istore dX2_lead_63 (Nat.le_of_ble_eq_true rfl) (L' := [some (vr 2 4), some (vi l1), some (vi l2), some (vi l3), some (vi x27)]) rfl rfl ?_
            refine z_iload dX2_lead_65 rfl rfl ?_
            obtain ⟨r1, ka, kb⟩ := k
            refine z_if_lt (tgt := 77) dX2_lead_67 rfl r1 rfl ⟨fun q => ?_, fun q => ?_⟩
            · have k := ka q
              exact z_return rfl dX2_lead_77 ⟨rfl, k⟩
            · have k := kb q
              refine z_aload_n 0 dX2_lead_70 rfl rfl (Nat.le_of_ble_eq_true rfl) rfl ?_
              refine z_iload dX2_lead_71 rfl rfl ?_
              refine z_iload_n 3 dX2_lead_73 rfl rfl rfl ?_
              refine z_callVv vX2_mark kX2_88 dX2_lead_74 rfl (zRo_d d) (as := [vi x27, vi l3]) (rest := []) (Nat.le_of_ble_eq_true rfl) rfl rfl (zCv_mono (fun h30 k => ?_) k)
              exact z_return rfl dX2_lead_77 ⟨rfl, k⟩
      · have k := kb q
        refine z_iinc dX2_lead_35 rfl (Nat.le_of_ble_eq_true rfl) (L' := [some (vr 2 4), some (vi l1), some (vi l2), some (vi l3), some (vi (l4 + (-1)))]) rfl rfl ?_
        refine z_goto (tgt := 8) dX2_lead_38 rfl ?_
        exact z_sub (L' := [some (vr 2 4), some (vi l1), some (vi l2), some (vi l3), some (vi (l4 + (-1)))]) (And.intro rfl (And.intro rfl (And.intro rfl (And.intro rfl (And.intro rfl trivial))))) k
theorem eX2_lead {G : zG} {d : Nat} {K : zH → Prop} {l1 : Int} {l2 : Int} {l3 : Int} {h : zH} (k : tX2_lead_0 G d K l1 l2 l3 h) : zCv G (d + 1) mX2_lead [vr 2 4, vi l1, vi l2, vi l3] h K := z_entry (by decide +kernel) (Nat.le_of_ble_eq_true rfl) rfl k
def tX2_copyWhole_0 (G : zG) (d : Nat) (K : zH → Prop) (l1 : Int) (l2 : Int) (l3 : Bool) (h : zH) : Prop := zTv G (d + 1) mX2_copyWhole K 0 [some (vr 2 4), some (vr 4 l1), some (vi l2), some (vi (bi l3))] [] h
theorem bX2_copyWhole_0 {G : zG} {d : Nat} {K : zH → Prop} {l1 : Int} {l2 : Int} {l3 : Bool} {h : zH} (k : zCv G d mX2_cutLike [vr 2 4, vr 4 l1, vi 0] h (fun h2 => zCv G d mX2_trace [vr 2 4, vr 4 l1, vi 0] h2 (fun h4 => zCv G d mX2_copyEdges [vr 2 4, vr 4 l1, vi l2, vi (bi l3)] h4 (fun h6 => zCv G d mX2_copyFrees [vr 2 4, vr 4 l1, vi l2, vi (bi l3)] h6 (fun h8 => K h8))))) : tX2_copyWhole_0 G d K l1 l2 l3 h := by
  unfold tX2_copyWhole_0
  refine z_aload_n 0 dX2_copyWhole_0 rfl rfl (Nat.le_of_ble_eq_true rfl) rfl ?_
  refine z_aload_n 1 dX2_copyWhole_1 rfl rfl (Nat.le_of_ble_eq_true rfl) rfl ?_
  refine z_iconst dX2_copyWhole_2 rfl ?_
  refine z_callVv vX2_cutLike kX2_95 dX2_copyWhole_3 rfl (zRo_d d) (as := [vr 4 l1, vi 0]) (rest := []) (Nat.le_of_ble_eq_true rfl) rfl rfl (zCv_mono (fun h2 k => ?_) k)
  refine z_aload_n 0 dX2_copyWhole_6 rfl rfl (Nat.le_of_ble_eq_true rfl) rfl ?_
  refine z_aload_n 1 dX2_copyWhole_7 rfl rfl (Nat.le_of_ble_eq_true rfl) rfl ?_
  refine z_iconst dX2_copyWhole_8 rfl ?_
  refine z_callVv vX2_trace kX2_99 dX2_copyWhole_9 rfl (zRo_d d) (as := [vr 4 l1, vi 0]) (rest := []) (Nat.le_of_ble_eq_true rfl) rfl rfl (zCv_mono (fun h4 k => ?_) k)
  refine z_aload_n 0 dX2_copyWhole_12 rfl rfl (Nat.le_of_ble_eq_true rfl) rfl ?_
  refine z_aload_n 1 dX2_copyWhole_13 rfl rfl (Nat.le_of_ble_eq_true rfl) rfl ?_
  refine z_iload_n 2 dX2_copyWhole_14 rfl rfl rfl ?_
  refine z_iload_n 3 dX2_copyWhole_15 rfl rfl rfl ?_
  refine z_callVv vX2_copyEdges kX2_102 dX2_copyWhole_16 rfl (zRo_d d) (as := [vr 4 l1, vi l2, vi (bi l3)]) (rest := []) (Nat.le_of_ble_eq_true rfl) rfl rfl (zCv_mono (fun h6 k => ?_) k)
  refine z_aload_n 0 dX2_copyWhole_19 rfl rfl (Nat.le_of_ble_eq_true rfl) rfl ?_
  refine z_aload_n 1 dX2_copyWhole_20 rfl rfl (Nat.le_of_ble_eq_true rfl) rfl ?_
  refine z_iload_n 2 dX2_copyWhole_21 rfl rfl rfl ?_
  refine z_iload_n 3 dX2_copyWhole_22 rfl rfl rfl ?_
  refine z_callVv vX2_copyFrees kX2_106 dX2_copyWhole_23 rfl (zRo_d d) (as := [vr 4 l1, vi l2, vi (bi l3)]) (rest := []) (Nat.le_of_ble_eq_true rfl) rfl rfl (zCv_mono (fun h8 k => ?_) k)
  exact z_return rfl dX2_copyWhole_26 ⟨rfl, k⟩
theorem eX2_copyWhole {G : zG} {d : Nat} {K : zH → Prop} {l1 : Int} {l2 : Int} {l3 : Bool} {h : zH} (k : tX2_copyWhole_0 G d K l1 l2 l3 h) : zCv G (d + 1) mX2_copyWhole [vr 2 4, vr 4 l1, vi l2, vi (bi l3)] h K := z_entry (by decide +kernel) (Nat.le_of_ble_eq_true rfl) rfl k
def tX2_copyEdges_0 (G : zG) (d : Nat) (K : zH → Prop) (l1 : Int) (l2 : Int) (l3 : Bool) (h : zH) : Prop := zTv G (d + 1) mX2_copyEdges K 0 [some (vr 2 4), some (vr 4 l1), some (vi l2), some (vi (bi l3)), none, none, none] [] h
def tX2_copyEdges_3 (G : zG) (d : Nat) (K : zH → Prop) (l1 : Int) (l2 : Int) (l3 : Bool) (l4 : Int) (h : zH) : Prop := zTv G (d + 1) mX2_copyEdges K 3 [some (vr 2 4), some (vr 4 l1), some (vi l2), some (vi (bi l3)), some (vi l4), none, none] [] h
theorem bX2_copyEdges_0 {G : zG} {d : Nat} {K : zH → Prop} {l1 : Int} {l2 : Int} {l3 : Bool} {h : zH} (k : tX2_copyEdges_3 G d K l1 l2 l3 0 h) : tX2_copyEdges_0 G d K l1 l2 l3 h := by
  unfold tX2_copyEdges_0
  refine z_iconst dX2_copyEdges_0 rfl ?_
  refine z_istore dX2_copyEdges_1 (Nat.le_of_ble_eq_true rfl) (L' := [some (vr 2 4), some (vr 4 l1), some (vi l2), some (vi (bi l3)), some (vi 0), none, none]) rfl rfl ?_
  exact z_sub (L' := [some (vr 2 4), some (vr 4 l1), some (vi l2), some (vi (bi l3)), some (vi 0), none, none]) (And.intro rfl (And.intro rfl (And.intro rfl (And.intro rfl (And.intro rfl trivial))))) k
theorem bX2_copyEdges_3 {G : zG} {d : Nat} {K : zH → Prop} {l1 : Int} {l2 : Int} {l3 : Bool} {l4 : Int} {h : zH} (k : zR l4 ∧ zR (h l1 9) ∧ ((h l1 9) ≤ l4 → K h) ∧ (¬ (h l1 9) ≤ l4 → (l3 = false → ((0 : Int) ≤ l4 ∧ l4 < 160) ∧ (l3 = false → ((0 : Int) ≤ l4 ∧ l4 < 160) ∧ zCi G d mX2_addEdge [vr 2 4, vi ((h (l1 + 1) l4) + l2), vi ((h (l1 + 2) l4) + l2)] h (fun x1 h2 => zCi G d mX2_copyMarks [vr 2 4, vr 4 l1, vi l4, vi x1] h2 (fun x3 h4 => tX2_copyEdges_3 G d K l1 l2 l3 (l4 + 1) h4))) ∧ (l3 = true → ((0 : Int) ≤ l4 ∧ l4 < 160) ∧ zCi G d mX2_addEdge [vr 2 4, vi ((h (l1 + 1) l4) + l2), vi ((h (l1 + 1) l4) + l2)] h (fun x5 h6 => zCi G d mX2_copyMarks [vr 2 4, vr 4 l1, vi l4, vi x5] h6 (fun x7 h8 => tX2_copyEdges_3 G d K l1 l2 l3 (l4 + 1) h8)))) ∧ (l3 = true → ((0 : Int) ≤ l4 ∧ l4 < 160) ∧ (l3 = false → ((0 : Int) ≤ l4 ∧ l4 < 160) ∧ zCi G d mX2_addEdge [vr 2 4, vi ((h (l1 + 2) l4) + l2), vi ((h (l1 + 2) l4) + l2)] h (fun x9 h10 => zCi G d mX2_copyMarks [vr 2 4, vr 4 l1, vi l4, vi x9] h10 (fun x11 h12 => tX2_copyEdges_3 G d K l1 l2 l3 (l4 + 1) h12))) ∧ (l3 = true → ((0 : Int) ≤ l4 ∧ l4 < 160) ∧ zCi G d mX2_addEdge [vr 2 4, vi ((h (l1 + 2) l4) + l2), vi ((h (l1 + 1) l4) + l2)] h (fun x13 h14 => zCi G d mX2_copyMarks [vr 2 4, vr 4 l1, vi l4, vi x13] h14 (fun x15 h16 => tX2_copyEdges_3 G d K l1 l2 l3 (l4 + 1) h16)))))) : tX2_copyEdges_3 G d K l1 l2 l3 l4 h := by
  unfold tX2_copyEdges_3
  refine z_know (fun zo zs zv => ?_)
  have w_l1 : zvok (vr 4 l1) := zv _ (List.mem_of_getElem? (i := 1) rfl)
  refine z_iload dX2_copyEdges_3 rfl rfl ?_
  refine z_aload_n 1 dX2_copyEdges_5 rfl rfl (Nat.le_of_ble_eq_true rfl) rfl ?_
  refine z_getI 4 (x := (h l1 9)) fX2_109 rfl dX2_copyEdges_6 rfl rfl ?_
  obtain ⟨r1, r2, ka, kb⟩ := k
  refine z_icmp_ge (tgt := 84) dX2_copyEdges_9 rfl r1 r2 rfl ⟨fun q => ?_, fun q => ?_⟩
  · have k := ka q
    exact z_return rfl dX2_copyEdges_84 ⟨rfl, k⟩
  · have k := kb q
    refine z_iload_n 3 dX2_copyEdges_12 rfl rfl rfl ?_
    obtain ⟨ka, kb⟩ := k
    refine z_ifb_eq (tgt := 26) dX2_copyEdges_13 rfl rfl ⟨fun q => ?_, fun q => ?_⟩
    · have k := ka q
      refine z_aload_n 1 dX2_copyEdges_26 rfl rfl (Nat.le_of_ble_eq_true rfl) rfl ?_
      refine z_getF 4 13 (x := (l1 + 1)) fX2_111 rfl dX2_copyEdges_27 (by omega) rfl ?_
      refine z_iload dX2_copyEdges_30 rfl rfl ?_
      obtain ⟨i9, k⟩ := k
      refine z_iald (x := (h (l1 + 1) l4)) dX2_copyEdges_32 (by rw [zl4_1 w_l1]; exact i9) rfl rfl ?_
      refine z_istore dX2_copyEdges_33 (Nat.le_of_ble_eq_true rfl) (L' := [some (vr 2 4), some (vr 4 l1), some (vi l2), some (vi (bi l3)), some (vi l4), some (vi (h (l1 + 1) l4)), none]) rfl rfl ?_
      refine z_iload_n 3 dX2_copyEdges_35 rfl rfl rfl ?_
      obtain ⟨ka, kb⟩ := k
      refine z_ifb_eq (tgt := 49) dX2_copyEdges_36 rfl rfl ⟨fun q => ?_, fun q => ?_⟩
      · have k := ka q
        refine z_aload_n 1 dX2_copyEdges_49 rfl rfl (Nat.le_of_ble_eq_true rfl) rfl ?_
        refine z_getF 4 13 (x := (l1 + 2)) fX2_110 rfl dX2_copyEdges_50 (by omega) rfl ?_
        refine z_iload dX2_copyEdges_53 rfl rfl ?_
        obtain ⟨i9, k⟩ := k
        refine z_iald (x := (h (l1 + 2) l4)) dX2_copyEdges_55 (by rw [zl4_2 w_l1]; exact i9) rfl rfl ?_
        refine z_istore dX2_copyEdges_56 (Nat.le_of_ble_eq_true rfl) (L' := [some (vr 2 4), some (vr 4 l1), some (vi l2), some (vi (bi l3)), some (vi l4), some (vi (h (l1 + 1) l4)), some (vi (h (l1 + 2) l4))]) rfl rfl ?_
        refine z_aload_n 0 dX2_copyEdges_58 rfl rfl (Nat.le_of_ble_eq_true rfl) rfl ?_
        refine z_aload_n 1 dX2_copyEdges_59 rfl rfl (Nat.le_of_ble_eq_true rfl) rfl ?_
        refine z_iload dX2_copyEdges_60 rfl rfl ?_
        refine z_aload_n 0 dX2_copyEdges_62 rfl rfl (Nat.le_of_ble_eq_true rfl) rfl ?_
        refine z_iload dX2_copyEdges_63 rfl rfl ?_
        refine z_iload_n 2 dX2_copyEdges_65 rfl rfl rfl ?_
        refine z_iadd dX2_copyEdges_66 rfl ?_
        refine z_iload dX2_copyEdges_67 rfl rfl ?_
        refine z_iload_n 2 dX2_copyEdges_69 rfl rfl rfl ?_
        refine z_iadd dX2_copyEdges_70 rfl ?_
        refine z_callVi vX2_addEdge kX2_91 dX2_copyEdges_71 rfl (zRo_d d) (as := [vi ((h (l1 + 1) l4) + l2), vi ((h (l1 + 2) l4) + l2)]) (rest := [vi l4, vr 4 l1, vr 2 4]) (Nat.le_of_ble_eq_true rfl) rfl rfl (zCi_mono (fun x1 h2 k => ?_) k)
        refine z_callVi vX2_copyMarks kX2_112 dX2_copyEdges_74 rfl (zRo_d d) (as := [vr 4 l1, vi l4, vi x1]) (rest := []) (Nat.le_of_ble_eq_true rfl) rfl rfl (zCi_mono (fun x3 h4 k => ?_) k)
        refine z_pop dX2_copyEdges_77 (fun q => by cases q) rfl ?_
        refine z_iinc dX2_copyEdges_78 rfl (Nat.le_of_ble_eq_true rfl) (L' := [some (vr 2 4), some (vr 4 l1), some (vi l2), some (vi (bi l3)), some (vi (l4 + 1)), some (vi (h (l1 + 1) l4)), some (vi (h (l1 + 2) l4))]) rfl rfl ?_
        refine z_goto (tgt := 3) dX2_copyEdges_81 rfl ?_
        exact z_sub (L' := [some (vr 2 4), some (vr 4 l1), some (vi l2), some (vi (bi l3)), some (vi (l4 + 1)), none, none]) (And.intro rfl (And.intro rfl (And.intro rfl (And.intro rfl (And.intro rfl trivial))))) k
      · have k := kb q
        refine z_aload_n 1 dX2_copyEdges_39 rfl rfl (Nat.le_of_ble_eq_true rfl) rfl ?_
        refine z_getF 4 13 (x := (l1 + 1)) fX2_111 rfl dX2_copyEdges_40 (by omega) rfl ?_
        refine z_iload dX2_copyEdges_43 rfl rfl ?_
        obtain ⟨i9, k⟩ := k
        refine z_iald (x := (h (l1 + 1) l4)) dX2_copyEdges_45 (by rw [zl4_1 w_l1]; exact i9) rfl rfl ?_
        refine z_goto (tgt := 56) dX2_copyEdges_46 rfl ?_
        refine z_istore dX2_copyEdges_56 (Nat.le_of_ble_eq_true rfl) (L' := [some (vr 2 4), some (vr 4 l1), some (vi l2), some (vi (bi l3)), some (vi l4), some (vi (h (l1 + 1) l4)), some (vi (h (l1 + 1) l4))]) rfl rfl ?_
        refine z_aload_n 0 dX2_copyEdges_58 rfl rfl (Nat.le_of_ble_eq_true rfl) rfl ?_
        refine z_aload_n 1 dX2_copyEdges_59 rfl rfl (Nat.le_of_ble_eq_true rfl) rfl ?_
        refine z_iload dX2_copyEdges_60 rfl rfl ?_
        refine z_aload_n 0 dX2_copyEdges_62 rfl rfl (Nat.le_of_ble_eq_true rfl) rfl ?_
        refine z_iload dX2_copyEdges_63 rfl rfl ?_
        refine z_iload_n 2 dX2_copyEdges_65 rfl rfl rfl ?_
        refine z_iadd dX2_copyEdges_66 rfl ?_
        refine z_iload dX2_copyEdges_67 rfl rfl ?_
        refine z_iload_n 2 dX2_copyEdges_69 rfl rfl rfl ?_
        refine z_iadd dX2_copyEdges_70 rfl ?_
        refine z_callVi vX2_addEdge kX2_91 dX2_copyEdges_71 rfl (zRo_d d) (as := [vi ((h (l1 + 1) l4) + l2), vi ((h (l1 + 1) l4) + l2)]) (rest := [vi l4, vr 4 l1, vr 2 4]) (Nat.le_of_ble_eq_true rfl) rfl rfl (zCi_mono (fun x5 h6 k => ?_) k)
        refine z_callVi vX2_copyMarks kX2_112 dX2_copyEdges_74 rfl (zRo_d d) (as := [vr 4 l1, vi l4, vi x5]) (rest := []) (Nat.le_of_ble_eq_true rfl) rfl rfl (zCi_mono (fun x7 h8 k => ?_) k)
        refine z_pop dX2_copyEdges_77 (fun q => by cases q) rfl ?_
        refine z_iinc dX2_copyEdges_78 rfl (Nat.le_of_ble_eq_true rfl) (L' := [some (vr 2 4), some (vr 4 l1), some (vi l2), some (vi (bi l3)), some (vi (l4 + 1)), some (vi (h (l1 + 1) l4)), some (vi (h (l1 + 1) l4))]) rfl rfl ?_
        refine z_goto (tgt := 3) dX2_copyEdges_81 rfl ?_
        exact z_sub (L' := [some (vr 2 4), some (vr 4 l1), some (vi l2), some (vi (bi l3)), some (vi (l4 + 1)), none, none]) (And.intro rfl (And.intro rfl (And.intro rfl (And.intro rfl (And.intro rfl trivial))))) k
    · have k := kb q
      refine z_aload_n 1 dX2_copyEdges_16 rfl rfl (Nat.le_of_ble_eq_true rfl) rfl ?_
      refine z_getF 4 13 (x := (l1 + 2)) fX2_110 rfl dX2_copyEdges_17 (by omega) rfl ?_
      refine z_iload dX2_copyEdges_20 rfl rfl ?_
      obtain ⟨i9, k⟩ := k
      refine z_iald (x := (h (l1 + 2) l4)) dX2_copyEdges_22 (by rw [zl4_2 w_l1]; exact i9) rfl rfl ?_
      refine z_goto (tgt := 33) dX2_copyEdges_23 rfl ?_
      refine z_istore dX2_copyEdges_33 (Nat.le_of_ble_eq_true rfl) (L' := [some (vr 2 4), some (vr 4 l1), some (vi l2), some (vi (bi l3)), some (vi l4), some (vi (h (l1 + 2) l4)), none]) rfl rfl ?_
      refine z_iload_n 3 dX2_copyEdges_35 rfl rfl rfl ?_
      obtain ⟨ka, kb⟩ := k
      refine z_ifb_eq (tgt := 49) dX2_copyEdges_36 rfl rfl ⟨fun q => ?_, fun q => ?_⟩
      · have k := ka q
        refine z_aload_n 1 dX2_copyEdges_49 rfl rfl (Nat.le_of_ble_eq_true rfl) rfl ?_
        refine z_getF 4 13 (x := (l1 + 2)) fX2_110 rfl dX2_copyEdges_50 (by omega) rfl ?_
        refine z_iload dX2_copyEdges_53 rfl rfl ?_
        obtain ⟨i9, k⟩ := k
        refine z_iald (x := (h (l1 + 2) l4)) dX2_copyEdges_55 (by rw [zl4_2 w_l1]; exact i9) rfl rfl ?_
        refine z_istore dX2_copyEdges_56 (Nat.le_of_ble_eq_true rfl) (L' := [some (vr 2 4), some (vr 4 l1), some (vi l2), some (vi (bi l3)), some (vi l4), some (vi (h (l1 + 2) l4)), some (vi (h (l1 + 2) l4))]) rfl rfl ?_
        refine z_aload_n 0 dX2_copyEdges_58 rfl rfl (Nat.le_of_ble_eq_true rfl) rfl ?_
        refine z_aload_n 1 dX2_copyEdges_59 rfl rfl (Nat.le_of_ble_eq_true rfl) rfl ?_
        refine z_iload dX2_copyEdges_60 rfl rfl ?_
        refine z_aload_n 0 dX2_copyEdges_62 rfl rfl (Nat.le_of_ble_eq_true rfl) rfl ?_
        refine z_iload dX2_copyEdges_63 rfl rfl ?_
        refine z_iload_n 2 dX2_copyEdges_65 rfl rfl rfl ?_
        refine z_iadd dX2_copyEdges_66 rfl ?_
        refine z_iload dX2_copyEdges_67 rfl rfl ?_
        refine z_iload_n 2 dX2_copyEdges_69 rfl rfl rfl ?_
        refine z_iadd dX2_copyEdges_70 rfl ?_
        refine z_callVi vX2_addEdge kX2_91 dX2_copyEdges_71 rfl (zRo_d d) (as := [vi ((h (l1 + 2) l4) + l2), vi ((h (l1 + 2) l4) + l2)]) (rest := [vi l4, vr 4 l1, vr 2 4]) (Nat.le_of_ble_eq_true rfl) rfl rfl (zCi_mono (fun x9 h10 k => ?_) k)
        refine z_callVi vX2_copyMarks kX2_112 dX2_copyEdges_74 rfl (zRo_d d) (as := [vr 4 l1, vi l4, vi x9]) (rest := []) (Nat.le_of_ble_eq_true rfl) rfl rfl (zCi_mono (fun x11 h12 k => ?_) k)
        refine z_pop dX2_copyEdges_77 (fun q => by cases q) rfl ?_
        refine z_iinc dX2_copyEdges_78 rfl (Nat.le_of_ble_eq_true rfl) (L' := [some (vr 2 4), some (vr 4 l1), some (vi l2), some (vi (bi l3)), some (vi (l4 + 1)), some (vi (h (l1 + 2) l4)), some (vi (h (l1 + 2) l4))]) rfl rfl ?_
        refine z_goto (tgt := 3) dX2_copyEdges_81 rfl ?_
        exact z_sub (L' := [some (vr 2 4), some (vr 4 l1), some (vi l2), some (vi (bi l3)), some (vi (l4 + 1)), none, none]) (And.intro rfl (And.intro rfl (And.intro rfl (And.intro rfl (And.intro rfl trivial))))) k
      · have k := kb q
        refine z_aload_n 1 dX2_copyEdges_39 rfl rfl (Nat.le_of_ble_eq_true rfl) rfl ?_
        refine z_getF 4 13 (x := (l1 + 1)) fX2_111 rfl dX2_copyEdges_40 (by omega) rfl ?_
        refine z_iload dX2_copyEdges_43 rfl rfl ?_
        obtain ⟨i9, k⟩ := k
        refine z_iald (x := (h (l1 + 1) l4)) dX2_copyEdges_45 (by rw [zl4_1 w_l1]; exact i9) rfl rfl ?_
        refine z_goto (tgt := 56) dX2_copyEdges_46 rfl ?_
        refine z_istore dX2_copyEdges_56 (Nat.le_of_ble_eq_true rfl) (L' := [some (vr 2 4), some (vr 4 l1), some (vi l2), some (vi (bi l3)), some (vi l4), some (vi (h (l1 + 2) l4)), some (vi (h (l1 + 1) l4))]) rfl rfl ?_
        refine z_aload_n 0 dX2_copyEdges_58 rfl rfl (Nat.le_of_ble_eq_true rfl) rfl ?_
        refine z_aload_n 1 dX2_copyEdges_59 rfl rfl (Nat.le_of_ble_eq_true rfl) rfl ?_
        refine z_iload dX2_copyEdges_60 rfl rfl ?_
        refine z_aload_n 0 dX2_copyEdges_62 rfl rfl (Nat.le_of_ble_eq_true rfl) rfl ?_
        refine z_iload dX2_copyEdges_63 rfl rfl ?_
        refine z_iload_n 2 dX2_copyEdges_65 rfl rfl rfl ?_
        refine z_iadd dX2_copyEdges_66 rfl ?_
        refine z_iload dX2_copyEdges_67 rfl rfl ?_
        refine z_iload_n 2 dX2_copyEdges_69 rfl rfl rfl ?_
        refine z_iadd dX2_copyEdges_70 rfl ?_
        refine z_callVi vX2_addEdge kX2_91 dX2_copyEdges_71 rfl (zRo_d d) (as := [vi ((h (l1 + 2) l4) + l2), vi ((h (l1 + 1) l4) + l2)]) (rest := [vi l4, vr 4 l1, vr 2 4]) (Nat.le_of_ble_eq_true rfl) rfl rfl (zCi_mono (fun x13 h14 k => ?_) k)
        refine z_callVi vX2_copyMarks kX2_112 dX2_copyEdges_74 rfl (zRo_d d) (as := [vr 4 l1, vi l4, vi x13]) (rest := []) (Nat.le_of_ble_eq_true rfl) rfl rfl (zCi_mono (fun x15 h16 k => ?_) k)
        refine z_pop dX2_copyEdges_77 (fun q => by cases q) rfl ?_
        refine z_iinc dX2_copyEdges_78 rfl (Nat.le_of_ble_eq_true rfl) (L' := [some (vr 2 4), some (vr 4 l1), some (vi l2), some (vi (bi l3)), some (vi (l4 + 1)), some (vi (h (l1 + 2) l4)), some (vi (h (l1 + 1) l4))]) rfl rfl ?_
        refine z_goto (tgt := 3) dX2_copyEdges_81 rfl ?_
        exact z_sub (L' := [some (vr 2 4), some (vr 4 l1), some (vi l2), some (vi (bi l3)), some (vi (l4 + 1)), none, none]) (And.intro rfl (And.intro rfl (And.intro rfl (And.intro rfl (And.intro rfl trivial))))) k
theorem eX2_copyEdges {G : zG} {d : Nat} {K : zH → Prop} {l1 : Int} {l2 : Int} {l3 : Bool} {h : zH} (k : tX2_copyEdges_0 G d K l1 l2 l3 h) : zCv G (d + 1) mX2_copyEdges [vr 2 4, vr 4 l1, vi l2, vi (bi l3)] h K := z_entry (by decide +kernel) (Nat.le_of_ble_eq_true rfl) rfl k
def tX2_copyFilledEdges_0 (G : zG) (d : Nat) (K : zH → Prop) (l1 : Int) (h : zH) : Prop := zTv G (d + 1) mX2_copyFilledEdges K 0 [some (vr 2 4), some (vr 4 l1), none, none] [] h
def tX2_copyFilledEdges_2 (G : zG) (d : Nat) (K : zH → Prop) (l1 : Int) (l2 : Int) (h : zH) : Prop := zTv G (d + 1) mX2_copyFilledEdges K 2 [some (vr 2 4), some (vr 4 l1), some (vi l2), none] [] h
theorem bX2_copyFilledEdges_0 {G : zG} {d : Nat} {K : zH → Prop} {l1 : Int} {h : zH} (k : tX2_copyFilledEdges_2 G d K l1 0 h) : tX2_copyFilledEdges_0 G d K l1 h := by
  unfold tX2_copyFilledEdges_0
  refine z_iconst dX2_copyFilledEdges_0 rfl ?_
  refine z_istore_n 2 dX2_copyFilledEdges_1 rfl (Nat.le_of_ble_eq_true rfl) (L' := [some (vr 2 4), some (vr 4 l1), some (vi 0), none]) rfl rfl ?_
  exact z_sub (L' := [some (vr 2 4), some (vr 4 l1), some (vi 0), none]) (And.intro rfl (And.intro rfl (And.intro rfl trivial))) k
theorem bX2_copyFilledEdges_2 {G : zG} {d : Nat} {K : zH → Prop} {l1 : Int} {l2 : Int} {h : zH} (k : zR l2 ∧ zR (h l1 9) ∧ ((h l1 9) ≤ l2 → K h) ∧ (¬ (h l1 9) ≤ l2 → ((0 : Int) ≤ l2 ∧ l2 < 160) ∧ ((0 : Int) ≤ l2 ∧ l2 < 160) ∧ zCi G d mX2_addEdge [vr 2 4, vi (h (l1 + 1) l2), vi (h (l1 + 2) l2)] h (fun x1 h2 => zR x1 ∧ (x1 < 0 → tX2_copyFilledEdges_2 G d K l1 (l2 + 1) h2) ∧ (¬ x1 < 0 → zCi G d mX2_copyMarks [vr 2 4, vr 4 l1, vi l2, vi x1] h2 (fun x3 h4 => zR x3 ∧ (¬ x3 = 0 → tX2_copyFilledEdges_2 G d K l1 (l2 + 1) h4) ∧ (x3 = 0 → tX2_copyFilledEdges_2 G d K l1 (l2 + 1) (zup h4 4 9 x1))))))) : tX2_copyFilledEdges_2 G d K l1 l2 h := by
  unfold tX2_copyFilledEdges_2
  refine z_know (fun zo zs zv => ?_)
  have w_l1 : zvok (vr 4 l1) := zv _ (List.mem_of_getElem? (i := 1) rfl)
  refine z_iload_n 2 dX2_copyFilledEdges_2 rfl rfl rfl ?_
  refine z_aload_n 1 dX2_copyFilledEdges_3 rfl rfl (Nat.le_of_ble_eq_true rfl) rfl ?_
  refine z_getI 4 (x := (h l1 9)) fX2_109 rfl dX2_copyFilledEdges_4 rfl rfl ?_
  obtain ⟨r1, r2, ka, kb⟩ := k
  refine z_icmp_ge (tgt := 52) dX2_copyFilledEdges_7 rfl r1 r2 rfl ⟨fun q => ?_, fun q => ?_⟩
  · have k := ka q
    exact z_return rfl dX2_copyFilledEdges_52 ⟨rfl, k⟩
  · have k := kb q
    refine z_aload_n 0 dX2_copyFilledEdges_10 rfl rfl (Nat.le_of_ble_eq_true rfl) rfl ?_
    refine z_aload_n 1 dX2_copyFilledEdges_11 rfl rfl (Nat.le_of_ble_eq_true rfl) rfl ?_
    refine z_getF 4 13 (x := (l1 + 1)) fX2_111 rfl dX2_copyFilledEdges_12 (by omega) rfl ?_
    refine z_iload_n 2 dX2_copyFilledEdges_15 rfl rfl rfl ?_
    obtain ⟨i9, k⟩ := k
    refine z_iald (x := (h (l1 + 1) l2)) dX2_copyFilledEdges_16 (by rw [zl4_1 w_l1]; exact i9) rfl rfl ?_
    refine z_aload_n 1 dX2_copyFilledEdges_17 rfl rfl (Nat.le_of_ble_eq_true rfl) rfl ?_
    refine z_getF 4 13 (x := (l1 + 2)) fX2_110 rfl dX2_copyFilledEdges_18 (by omega) rfl ?_
    refine z_iload_n 2 dX2_copyFilledEdges_21 rfl rfl rfl ?_
    obtain ⟨i9, k⟩ := k
    refine z_iald (x := (h (l1 + 2) l2)) dX2_copyFilledEdges_22 (by rw [zl4_2 w_l1]; exact i9) rfl rfl ?_
    refine z_callVi vX2_addEdge kX2_91 dX2_copyFilledEdges_23 rfl (zRo_d d) (as := [vi (h (l1 + 1) l2), vi (h (l1 + 2) l2)]) (rest := []) (Nat.le_of_ble_eq_true rfl) rfl rfl (zCi_mono (fun x1 h2 k => ?_) k)
    refine z_istore_n 3 dX2_copyFilledEdges_26 rfl (Nat.le_of_ble_eq_true rfl) (L' := [some (vr 2 4), some (vr 4 l1), some (vi l2), some (vi x1)]) rfl rfl ?_
    refine z_iload_n 3 dX2_copyFilledEdges_27 rfl rfl rfl ?_
    obtain ⟨r1, ka, kb⟩ := k
    refine z_if_lt (tgt := 46) dX2_copyFilledEdges_28 rfl r1 rfl ⟨fun q => ?_, fun q => ?_⟩
    · have k := ka q
      refine z_iinc dX2_copyFilledEdges_46 rfl (Nat.le_of_ble_eq_true rfl) (L' := [some (vr 2 4), some (vr 4 l1), some (vi (l2 + 1)), some (vi x1)]) rfl rfl ?_
      refine z_goto (tgt := 2) dX2_copyFilledEdges_49 rfl ?_
      exact z_sub (L' := [some (vr 2 4), some (vr 4 l1), some (vi (l2 + 1)), none]) (And.intro rfl (And.intro rfl (And.intro rfl trivial))) k
    · have k := kb q
      refine z_aload_n 0 dX2_copyFilledEdges_31 rfl rfl (Nat.le_of_ble_eq_true rfl) rfl ?_
      refine z_aload_n 1 dX2_copyFilledEdges_32 rfl rfl (Nat.le_of_ble_eq_true rfl) rfl ?_
      refine z_iload_n 2 dX2_copyFilledEdges_33 rfl rfl rfl ?_
      refine z_iload_n 3 dX2_copyFilledEdges_34 rfl rfl rfl ?_
      refine z_callVi vX2_copyMarks kX2_112 dX2_copyFilledEdges_35 rfl (zRo_d d) (as := [vr 4 l1, vi l2, vi x1]) (rest := []) (Nat.le_of_ble_eq_true rfl) rfl rfl (zCi_mono (fun x3 h4 k => ?_) k)
      obtain ⟨r1, ka, kb⟩ := k
      refine z_if_ne (tgt := 46) dX2_copyFilledEdges_38 rfl r1 rfl ⟨fun q => ?_, fun q => ?_⟩
      · have k := ka q
        refine z_iinc dX2_copyFilledEdges_46 rfl (Nat.le_of_ble_eq_true rfl) (L' := [some (vr 2 4), some (vr 4 l1), some (vi (l2 + 1)), some (vi x1)]) rfl rfl ?_
        refine z_goto (tgt := 2) dX2_copyFilledEdges_49 rfl ?_
        exact z_sub (L' := [some (vr 2 4), some (vr 4 l1), some (vi (l2 + 1)), none]) (And.intro rfl (And.intro rfl (And.intro rfl trivial))) k
      · have k := kb q
        refine z_aload_n 0 dX2_copyFilledEdges_41 rfl rfl (Nat.le_of_ble_eq_true rfl) rfl ?_
        refine z_iload_n 3 dX2_copyFilledEdges_42 rfl rfl rfl ?_
        refine z_putI 2 gX2_42 dX2_copyFilledEdges_43 rfl ?_
        refine z_iinc dX2_copyFilledEdges_46 rfl (Nat.le_of_ble_eq_true rfl) (L' := [some (vr 2 4), some (vr 4 l1), some (vi (l2 + 1)), some (vi x1)]) rfl rfl ?_
        refine z_goto (tgt := 2) dX2_copyFilledEdges_49 rfl ?_
        exact z_sub (L' := [some (vr 2 4), some (vr 4 l1), some (vi (l2 + 1)), none]) (And.intro rfl (And.intro rfl (And.intro rfl trivial))) k
theorem eX2_copyFilledEdges {G : zG} {d : Nat} {K : zH → Prop} {l1 : Int} {h : zH} (k : tX2_copyFilledEdges_0 G d K l1 h) : zCv G (d + 1) mX2_copyFilledEdges [vr 2 4, vr 4 l1] h K := z_entry (by decide +kernel) (Nat.le_of_ble_eq_true rfl) rfl k
def tX2_copyFrees_0 (G : zG) (d : Nat) (K : zH → Prop) (l1 : Int) (l2 : Int) (l3 : Bool) (h : zH) : Prop := zTv G (d + 1) mX2_copyFrees K 0 [some (vr 2 4), some (vr 4 l1), some (vi l2), some (vi (bi l3)), none, none, none] [] h
def tX2_copyFrees_3 (G : zG) (d : Nat) (K : zH → Prop) (l1 : Int) (l2 : Int) (l3 : Bool) (l4 : Int) (h : zH) : Prop := zTv G (d + 1) mX2_copyFrees K 3 [some (vr 2 4), some (vr 4 l1), some (vi l2), some (vi (bi l3)), some (vi l4), none, none] [] h
theorem bX2_copyFrees_0 {G : zG} {d : Nat} {K : zH → Prop} {l1 : Int} {l2 : Int} {l3 : Bool} {h : zH} (k : tX2_copyFrees_3 G d K l1 l2 l3 0 h) : tX2_copyFrees_0 G d K l1 l2 l3 h := by
  unfold tX2_copyFrees_0
  refine z_iconst dX2_copyFrees_0 rfl ?_
  refine z_istore dX2_copyFrees_1 (Nat.le_of_ble_eq_true rfl) (L' := [some (vr 2 4), some (vr 4 l1), some (vi l2), some (vi (bi l3)), some (vi 0), none, none]) rfl rfl ?_
  exact z_sub (L' := [some (vr 2 4), some (vr 4 l1), some (vi l2), some (vi (bi l3)), some (vi 0), none, none]) (And.intro rfl (And.intro rfl (And.intro rfl (And.intro rfl (And.intro rfl trivial))))) k
theorem bX2_copyFrees_3 {G : zG} {d : Nat} {K : zH → Prop} {l1 : Int} {l2 : Int} {l3 : Bool} {l4 : Int} {h : zH} (k : zR l4 ∧ zR (h l1 10) ∧ ((h l1 10) ≤ l4 → K h) ∧ (¬ (h l1 10) ≤ l4 → (l3 = false → ((0 : Int) ≤ l4 ∧ l4 < 64) ∧ (l3 = false → ((0 : Int) ≤ l4 ∧ l4 < 64) ∧ zCv G d mX2_addFree [vr 2 4, vi ((h (l1 + 4) l4) + l2), vi ((h (l1 + 5) l4) + l2)] h (fun h2 => tX2_copyFrees_3 G d K l1 l2 l3 (l4 + 1) h2)) ∧ (l3 = true → ((0 : Int) ≤ l4 ∧ l4 < 64) ∧ zCv G d mX2_addFree [vr 2 4, vi ((h (l1 + 4) l4) + l2), vi ((h (l1 + 4) l4) + l2)] h (fun h4 => tX2_copyFrees_3 G d K l1 l2 l3 (l4 + 1) h4))) ∧ (l3 = true → ((0 : Int) ≤ l4 ∧ l4 < 64) ∧ (l3 = false → ((0 : Int) ≤ l4 ∧ l4 < 64) ∧ zCv G d mX2_addFree [vr 2 4, vi ((h (l1 + 5) l4) + l2), vi ((h (l1 + 5) l4) + l2)] h (fun h6 => tX2_copyFrees_3 G d K l1 l2 l3 (l4 + 1) h6)) ∧ (l3 = true → ((0 : Int) ≤ l4 ∧ l4 < 64) ∧ zCv G d mX2_addFree [vr 2 4, vi ((h (l1 + 5) l4) + l2), vi ((h (l1 + 4) l4) + l2)] h (fun h8 => tX2_copyFrees_3 G d K l1 l2 l3 (l4 + 1) h8))))) : tX2_copyFrees_3 G d K l1 l2 l3 l4 h := by
  unfold tX2_copyFrees_3
  refine z_know (fun zo zs zv => ?_)
  have w_l1 : zvok (vr 4 l1) := zv _ (List.mem_of_getElem? (i := 1) rfl)
  refine z_iload dX2_copyFrees_3 rfl rfl ?_
  refine z_aload_n 1 dX2_copyFrees_5 rfl rfl (Nat.le_of_ble_eq_true rfl) rfl ?_
  refine z_getI 4 (x := (h l1 10)) fX2_116 rfl dX2_copyFrees_6 rfl rfl ?_
  obtain ⟨r1, r2, ka, kb⟩ := k
  refine z_icmp_ge (tgt := 76) dX2_copyFrees_9 rfl r1 r2 rfl ⟨fun q => ?_, fun q => ?_⟩
  · have k := ka q
    exact z_return rfl dX2_copyFrees_76 ⟨rfl, k⟩
  · have k := kb q
    refine z_iload_n 3 dX2_copyFrees_12 rfl rfl rfl ?_
    obtain ⟨ka, kb⟩ := k
    refine z_ifb_eq (tgt := 26) dX2_copyFrees_13 rfl rfl ⟨fun q => ?_, fun q => ?_⟩
    · have k := ka q
      refine z_aload_n 1 dX2_copyFrees_26 rfl rfl (Nat.le_of_ble_eq_true rfl) rfl ?_
      refine z_getF 4 13 (x := (l1 + 4)) fX2_118 rfl dX2_copyFrees_27 (by omega) rfl ?_
      refine z_iload dX2_copyFrees_30 rfl rfl ?_
      obtain ⟨i9, k⟩ := k
      refine z_iald (x := (h (l1 + 4) l4)) dX2_copyFrees_32 (by rw [zl4_4 w_l1]; exact i9) rfl rfl ?_
      refine z_istore dX2_copyFrees_33 (Nat.le_of_ble_eq_true rfl) (L' := [some (vr 2 4), some (vr 4 l1), some (vi l2), some (vi (bi l3)), some (vi l4), some (vi (h (l1 + 4) l4)), none]) rfl rfl ?_
      refine z_iload_n 3 dX2_copyFrees_35 rfl rfl rfl ?_
      obtain ⟨ka, kb⟩ := k
      refine z_ifb_eq (tgt := 49) dX2_copyFrees_36 rfl rfl ⟨fun q => ?_, fun q => ?_⟩
      · have k := ka q
        refine z_aload_n 1 dX2_copyFrees_49 rfl rfl (Nat.le_of_ble_eq_true rfl) rfl ?_
        refine z_getF 4 13 (x := (l1 + 5)) fX2_117 rfl dX2_copyFrees_50 (by omega) rfl ?_
        refine z_iload dX2_copyFrees_53 rfl rfl ?_
        obtain ⟨i9, k⟩ := k
        refine z_iald (x := (h (l1 + 5) l4)) dX2_copyFrees_55 (by rw [zl4_5 w_l1]; exact i9) rfl rfl ?_
        refine z_istore dX2_copyFrees_56 (Nat.le_of_ble_eq_true rfl) (L' := [some (vr 2 4), some (vr 4 l1), some (vi l2), some (vi (bi l3)), some (vi l4), some (vi (h (l1 + 4) l4)), some (vi (h (l1 + 5) l4))]) rfl rfl ?_
        refine z_aload_n 0 dX2_copyFrees_58 rfl rfl (Nat.le_of_ble_eq_true rfl) rfl ?_
        refine z_iload dX2_copyFrees_59 rfl rfl ?_
        refine z_iload_n 2 dX2_copyFrees_61 rfl rfl rfl ?_
        refine z_iadd dX2_copyFrees_62 rfl ?_
        refine z_iload dX2_copyFrees_63 rfl rfl ?_
        refine z_iload_n 2 dX2_copyFrees_65 rfl rfl rfl ?_
        refine z_iadd dX2_copyFrees_66 rfl ?_
        refine z_callVv vX2_addFree kX2_84 dX2_copyFrees_67 rfl (zRo_d d) (as := [vi ((h (l1 + 4) l4) + l2), vi ((h (l1 + 5) l4) + l2)]) (rest := []) (Nat.le_of_ble_eq_true rfl) rfl rfl (zCv_mono (fun h2 k => ?_) k)
        refine z_iinc dX2_copyFrees_70 rfl (Nat.le_of_ble_eq_true rfl) (L' := [some (vr 2 4), some (vr 4 l1), some (vi l2), some (vi (bi l3)), some (vi (l4 + 1)), some (vi (h (l1 + 4) l4)), some (vi (h (l1 + 5) l4))]) rfl rfl ?_
        refine z_goto (tgt := 3) dX2_copyFrees_73 rfl ?_
        exact z_sub (L' := [some (vr 2 4), some (vr 4 l1), some (vi l2), some (vi (bi l3)), some (vi (l4 + 1)), none, none]) (And.intro rfl (And.intro rfl (And.intro rfl (And.intro rfl (And.intro rfl trivial))))) k
      · have k := kb q
        refine z_aload_n 1 dX2_copyFrees_39 rfl rfl (Nat.le_of_ble_eq_true rfl) rfl ?_
        refine z_getF 4 13 (x := (l1 + 4)) fX2_118 rfl dX2_copyFrees_40 (by omega) rfl ?_
        refine z_iload dX2_copyFrees_43 rfl rfl ?_
        obtain ⟨i9, k⟩ := k
        refine z_iald (x := (h (l1 + 4) l4)) dX2_copyFrees_45 (by rw [zl4_4 w_l1]; exact i9) rfl rfl ?_
        refine z_goto (tgt := 56) dX2_copyFrees_46 rfl ?_
        refine z_istore dX2_copyFrees_56 (Nat.le_of_ble_eq_true rfl) (L' := [some (vr 2 4), some (vr 4 l1), some (vi l2), some (vi (bi l3)), some (vi l4), some (vi (h (l1 + 4) l4)), some (vi (h (l1 + 4) l4))]) rfl rfl ?_
        refine z_aload_n 0 dX2_copyFrees_58 rfl rfl (Nat.le_of_ble_eq_true rfl) rfl ?_
        refine z_iload dX2_copyFrees_59 rfl rfl ?_
        refine z_iload_n 2 dX2_copyFrees_61 rfl rfl rfl ?_
        refine z_iadd dX2_copyFrees_62 rfl ?_
        refine z_iload dX2_copyFrees_63 rfl rfl ?_
        refine z_iload_n 2 dX2_copyFrees_65 rfl rfl rfl ?_
        refine z_iadd dX2_copyFrees_66 rfl ?_
        refine z_callVv vX2_addFree kX2_84 dX2_copyFrees_67 rfl (zRo_d d) (as := [vi ((h (l1 + 4) l4) + l2), vi ((h (l1 + 4) l4) + l2)]) (rest := []) (Nat.le_of_ble_eq_true rfl) rfl rfl (zCv_mono (fun h4 k => ?_) k)
        refine z_iinc dX2_copyFrees_70 rfl (Nat.le_of_ble_eq_true rfl) (L' := [some (vr 2 4), some (vr 4 l1), some (vi l2), some (vi (bi l3)), some (vi (l4 + 1)), some (vi (h (l1 + 4) l4)), some (vi (h (l1 + 4) l4))]) rfl rfl ?_
        refine z_goto (tgt := 3) dX2_copyFrees_73 rfl ?_
        exact z_sub (L' := [some (vr 2 4), some (vr 4 l1), some (vi l2), some (vi (bi l3)), some (vi (l4 + 1)), none, none]) (And.intro rfl (And.intro rfl (And.intro rfl (And.intro rfl (And.intro rfl trivial))))) k
    · have k := kb q
      refine z_aload_n 1 dX2_copyFrees_16 rfl rfl (Nat.le_of_ble_eq_true rfl) rfl ?_
      refine z_getF 4 13 (x := (l1 + 5)) fX2_117 rfl dX2_copyFrees_17 (by omega) rfl ?_
      refine z_iload dX2_copyFrees_20 rfl rfl ?_
      obtain ⟨i9, k⟩ := k
      refine z_iald (x := (h (l1 + 5) l4)) dX2_copyFrees_22 (by rw [zl4_5 w_l1]; exact i9) rfl rfl ?_
      refine z_goto (tgt := 33) dX2_copyFrees_23 rfl ?_
      refine z_istore dX2_copyFrees_33 (Nat.le_of_ble_eq_true rfl) (L' := [some (vr 2 4), some (vr 4 l1), some (vi l2), some (vi (bi l3)), some (vi l4), some (vi (h (l1 + 5) l4)), none]) rfl rfl ?_
      refine z_iload_n 3 dX2_copyFrees_35 rfl rfl rfl ?_
      obtain ⟨ka, kb⟩ := k
      refine z_ifb_eq (tgt := 49) dX2_copyFrees_36 rfl rfl ⟨fun q => ?_, fun q => ?_⟩
      · have k := ka q
        refine z_aload_n 1 dX2_copyFrees_49 rfl rfl (Nat.le_of_ble_eq_true rfl) rfl ?_
        refine z_getF 4 13 (x := (l1 + 5)) fX2_117 rfl dX2_copyFrees_50 (by omega) rfl ?_
        refine z_iload dX2_copyFrees_53 rfl rfl ?_
        obtain ⟨i9, k⟩ := k
        refine z_iald (x := (h (l1 + 5) l4)) dX2_copyFrees_55 (by rw [zl4_5 w_l1]; exact i9) rfl rfl ?_
        refine z_istore dX2_copyFrees_56 (Nat.le_of_ble_eq_true rfl) (L' := [some (vr 2 4), some (vr 4 l1), some (vi l2), some (vi (bi l3)), some (vi l4), some (vi (h (l1 + 5) l4)), some (vi (h (l1 + 5) l4))]) rfl rfl ?_
        refine z_aload_n 0 dX2_copyFrees_58 rfl rfl (Nat.le_of_ble_eq_true rfl) rfl ?_
        refine z_iload dX2_copyFrees_59 rfl rfl ?_
        refine z_iload_n 2 dX2_copyFrees_61 rfl rfl rfl ?_
        refine z_iadd dX2_copyFrees_62 rfl ?_
        refine z_iload dX2_copyFrees_63 rfl rfl ?_
        refine z_iload_n 2 dX2_copyFrees_65 rfl rfl rfl ?_
        refine z_iadd dX2_copyFrees_66 rfl ?_
        refine z_callVv vX2_addFree kX2_84 dX2_copyFrees_67 rfl (zRo_d d) (as := [vi ((h (l1 + 5) l4) + l2), vi ((h (l1 + 5) l4) + l2)]) (rest := []) (Nat.le_of_ble_eq_true rfl) rfl rfl (zCv_mono (fun h6 k => ?_) k)
        refine z_iinc dX2_copyFrees_70 rfl (Nat.le_of_ble_eq_true rfl) (L' := [some (vr 2 4), some (vr 4 l1), some (vi l2), some (vi (bi l3)), some (vi (l4 + 1)), some (vi (h (l1 + 5) l4)), some (vi (h (l1 + 5) l4))]) rfl rfl ?_
        refine z_goto (tgt := 3) dX2_copyFrees_73 rfl ?_
        exact z_sub (L' := [some (vr 2 4), some (vr 4 l1), some (vi l2), some (vi (bi l3)), some (vi (l4 + 1)), none, none]) (And.intro rfl (And.intro rfl (And.intro rfl (And.intro rfl (And.intro rfl trivial))))) k
      · have k := kb q
        refine z_aload_n 1 dX2_copyFrees_39 rfl rfl (Nat.le_of_ble_eq_true rfl) rfl ?_
        refine z_getF 4 13 (x := (l1 + 4)) fX2_118 rfl dX2_copyFrees_40 (by omega) rfl ?_
        refine z_iload dX2_copyFrees_43 rfl rfl ?_
        obtain ⟨i9, k⟩ := k
        refine z_iald (x := (h (l1 + 4) l4)) dX2_copyFrees_45 (by rw [zl4_4 w_l1]; exact i9) rfl rfl ?_
        refine z_goto (tgt := 56) dX2_copyFrees_46 rfl ?_
        refine z_istore dX2_copyFrees_56 (Nat.le_of_ble_eq_true rfl) (L' := [some (vr 2 4), some (vr 4 l1), some (vi l2), some (vi (bi l3)), some (vi l4), some (vi (h (l1 + 5) l4)), some (vi (h (l1 + 4) l4))]) rfl rfl ?_
        refine z_aload_n 0 dX2_copyFrees_58 rfl rfl (Nat.le_of_ble_eq_true rfl) rfl ?_
        refine z_iload dX2_copyFrees_59 rfl rfl ?_
        refine z_iload_n 2 dX2_copyFrees_61 rfl rfl rfl ?_
        refine z_iadd dX2_copyFrees_62 rfl ?_
        refine z_iload dX2_copyFrees_63 rfl rfl ?_
        refine z_iload_n 2 dX2_copyFrees_65 rfl rfl rfl ?_
        refine z_iadd dX2_copyFrees_66 rfl ?_
        refine z_callVv vX2_addFree kX2_84 dX2_copyFrees_67 rfl (zRo_d d) (as := [vi ((h (l1 + 5) l4) + l2), vi ((h (l1 + 4) l4) + l2)]) (rest := []) (Nat.le_of_ble_eq_true rfl) rfl rfl (zCv_mono (fun h8 k => ?_) k)
        refine z_iinc dX2_copyFrees_70 rfl (Nat.le_of_ble_eq_true rfl) (L' := [some (vr 2 4), some (vr 4 l1), some (vi l2), some (vi (bi l3)), some (vi (l4 + 1)), some (vi (h (l1 + 5) l4)), some (vi (h (l1 + 4) l4))]) rfl rfl ?_
        refine z_goto (tgt := 3) dX2_copyFrees_73 rfl ?_
        exact z_sub (L' := [some (vr 2 4), some (vr 4 l1), some (vi l2), some (vi (bi l3)), some (vi (l4 + 1)), none, none]) (And.intro rfl (And.intro rfl (And.intro rfl (And.intro rfl (And.intro rfl trivial))))) k
theorem eX2_copyFrees {G : zG} {d : Nat} {K : zH → Prop} {l1 : Int} {l2 : Int} {l3 : Bool} {h : zH} (k : tX2_copyFrees_0 G d K l1 l2 l3 h) : zCv G (d + 1) mX2_copyFrees [vr 2 4, vr 4 l1, vi l2, vi (bi l3)] h K := z_entry (by decide +kernel) (Nat.le_of_ble_eq_true rfl) rfl k
def tX2_drawSheaves_0 (G : zG) (d : Nat) (K : zH → Prop) (l1 : Int) (h : zH) : Prop := zTv G (d + 1) mX2_drawSheaves K 0 [some (vr 2 4), some (vr 4 l1), none, none] [] h
def tX2_drawSheaves_19 (G : zG) (d : Nat) (K : zH → Prop) (l1 : Int) (l2 : Int) (h : zH) : Prop := zTv G (d + 1) mX2_drawSheaves K 19 [some (vr 2 4), some (vr 4 l1), some (vi l2), none] [] h
def tX2_drawSheaves_32 (G : zG) (d : Nat) (K : zH → Prop) (l1 : Int) (l2 : Int) (l3 : Int) (h : zH) : Prop := zTv G (d + 1) mX2_drawSheaves K 32 [some (vr 2 4), some (vr 4 l1), some (vi l2), some (vi l3)] [] h
theorem bX2_drawSheaves_0 {G : zG} {d : Nat} {K : zH → Prop} {l1 : Int} {h : zH} (k : zCv G d mX2_begin [vr 2 4, vi (h (l1 + 7) 0)] h (fun h2 => zCv G d mX2_cutLike [vr 2 4, vr 4 l1, vi 0] h2 (fun h4 => tX2_drawSheaves_19 G d K l1 0 h4))) : tX2_drawSheaves_0 G d K l1 h := by
  unfold tX2_drawSheaves_0
  refine z_aload_n 0 dX2_drawSheaves_0 rfl rfl (Nat.le_of_ble_eq_true rfl) rfl ?_
  refine z_aload_n 1 dX2_drawSheaves_1 rfl rfl (Nat.le_of_ble_eq_true rfl) rfl ?_
  refine z_getF 4 7 (x := (l1 + 7)) fX2_119 rfl dX2_drawSheaves_2 (by omega) rfl ?_
  refine z_getI 7 (x := (h (l1 + 7) 0)) fX2_123 rfl dX2_drawSheaves_5 rfl rfl ?_
  refine z_callVv vX2_begin kX2_128 dX2_drawSheaves_8 rfl (zRo_d d) (as := [vi (h (l1 + 7) 0)]) (rest := []) (Nat.le_of_ble_eq_true rfl) rfl rfl (zCv_mono (fun h2 k => ?_) k)
  refine z_aload_n 0 dX2_drawSheaves_11 rfl rfl (Nat.le_of_ble_eq_true rfl) rfl ?_
  refine z_aload_n 1 dX2_drawSheaves_12 rfl rfl (Nat.le_of_ble_eq_true rfl) rfl ?_
  refine z_iconst dX2_drawSheaves_13 rfl ?_
  refine z_callVv vX2_cutLike kX2_95 dX2_drawSheaves_14 rfl (zRo_d d) (as := [vr 4 l1, vi 0]) (rest := []) (Nat.le_of_ble_eq_true rfl) rfl rfl (zCv_mono (fun h4 k => ?_) k)
  refine z_iconst dX2_drawSheaves_17 rfl ?_
  refine z_istore_n 2 dX2_drawSheaves_18 rfl (Nat.le_of_ble_eq_true rfl) (L' := [some (vr 2 4), some (vr 4 l1), some (vi 0), none]) rfl rfl ?_
  exact z_sub (L' := [some (vr 2 4), some (vr 4 l1), some (vi 0), none]) (And.intro rfl (And.intro rfl (And.intro rfl trivial))) k
theorem bX2_drawSheaves_19 {G : zG} {d : Nat} {K : zH → Prop} {l1 : Int} {l2 : Int} {h : zH} (k : zR l2 ∧ zR (h (l1 + 7) 0) ∧ ((h (l1 + 7) 0) ≤ l2 → K (zup h 4 8 (h (l1 + 7) 6))) ∧ (¬ (h (l1 + 7) 0) ≤ l2 → tX2_drawSheaves_32 G d K l1 l2 0 h)) : tX2_drawSheaves_19 G d K l1 l2 h := by
  unfold tX2_drawSheaves_19
  refine z_iload_n 2 dX2_drawSheaves_19 rfl rfl rfl ?_
  refine z_aload_n 1 dX2_drawSheaves_20 rfl rfl (Nat.le_of_ble_eq_true rfl) rfl ?_
  refine z_getF 4 7 (x := (l1 + 7)) fX2_119 rfl dX2_drawSheaves_21 (by omega) rfl ?_
  refine z_getI 7 (x := (h (l1 + 7) 0)) fX2_123 rfl dX2_drawSheaves_24 rfl rfl ?_
  obtain ⟨r1, r2, ka, kb⟩ := k
  refine z_icmp_ge (tgt := 67) dX2_drawSheaves_27 rfl r1 r2 rfl ⟨fun q => ?_, fun q => ?_⟩
  · have k := ka q
    refine z_aload_n 0 dX2_drawSheaves_67 rfl rfl (Nat.le_of_ble_eq_true rfl) rfl ?_
    refine z_aload_n 1 dX2_drawSheaves_68 rfl rfl (Nat.le_of_ble_eq_true rfl) rfl ?_
    refine z_getF 4 7 (x := (l1 + 7)) fX2_119 rfl dX2_drawSheaves_69 (by omega) rfl ?_
    refine z_getL 7 (x := (h (l1 + 7) 6)) fX2_138 rfl dX2_drawSheaves_72 rfl rfl ?_
    refine z_putL 2 gX2_38 dX2_drawSheaves_75 rfl ?_
    exact z_return rfl dX2_drawSheaves_78 ⟨rfl, k⟩
  · have k := kb q
    refine z_iconst dX2_drawSheaves_30 rfl ?_
    refine z_istore_n 3 dX2_drawSheaves_31 rfl (Nat.le_of_ble_eq_true rfl) (L' := [some (vr 2 4), some (vr 4 l1), some (vi l2), some (vi 0)]) rfl rfl ?_
    exact z_sub (L' := [some (vr 2 4), some (vr 4 l1), some (vi l2), some (vi 0)]) (And.intro rfl (And.intro rfl (And.intro rfl (And.intro rfl trivial)))) k
theorem bX2_drawSheaves_32 {G : zG} {d : Nat} {K : zH → Prop} {l1 : Int} {l2 : Int} {l3 : Int} {h : zH} (k : zR l3 ∧ zR (h l1 11) ∧ ((h l1 11) ≤ l3 → tX2_drawSheaves_19 G d K l1 (l2 + 1) h) ∧ (¬ (h l1 11) ≤ l3 → zCi G d mX7_sheafStep [vr 7 (l1 + 7), vi l2, vi l3] h (fun x1 h2 => zCv G d mX2_lead [vr 2 4, vi l2, vi x1, vi l3] h2 (fun h4 => tX2_drawSheaves_32 G d K l1 l2 (l3 + 1) h4)))) : tX2_drawSheaves_32 G d K l1 l2 l3 h := by
  unfold tX2_drawSheaves_32
  refine z_iload_n 3 dX2_drawSheaves_32 rfl rfl rfl ?_
  refine z_aload_n 1 dX2_drawSheaves_33 rfl rfl (Nat.le_of_ble_eq_true rfl) rfl ?_
  refine z_getI 4 (x := (h l1 11)) fX2_68 rfl dX2_drawSheaves_34 rfl rfl ?_
  obtain ⟨r1, r2, ka, kb⟩ := k
  refine z_icmp_ge (tgt := 61) dX2_drawSheaves_37 rfl r1 r2 rfl ⟨fun q => ?_, fun q => ?_⟩
  · have k := ka q
    refine z_iinc dX2_drawSheaves_61 rfl (Nat.le_of_ble_eq_true rfl) (L' := [some (vr 2 4), some (vr 4 l1), some (vi (l2 + 1)), some (vi l3)]) rfl rfl ?_
    refine z_goto (tgt := 19) dX2_drawSheaves_64 rfl ?_
    exact z_sub (L' := [some (vr 2 4), some (vr 4 l1), some (vi (l2 + 1)), none]) (And.intro rfl (And.intro rfl (And.intro rfl trivial))) k
  · have k := kb q
    refine z_aload_n 0 dX2_drawSheaves_40 rfl rfl (Nat.le_of_ble_eq_true rfl) rfl ?_
    refine z_iload_n 2 dX2_drawSheaves_41 rfl rfl rfl ?_
    refine z_aload_n 1 dX2_drawSheaves_42 rfl rfl (Nat.le_of_ble_eq_true rfl) rfl ?_
    refine z_getF 4 7 (x := (l1 + 7)) fX2_119 rfl dX2_drawSheaves_43 (by omega) rfl ?_
    refine z_iload_n 2 dX2_drawSheaves_46 rfl rfl rfl ?_
    refine z_iload_n 3 dX2_drawSheaves_47 rfl rfl rfl ?_
    refine z_callVi vX7_sheafStep kX2_131 dX2_drawSheaves_48 rfl (zRo_d d) (as := [vi l2, vi l3]) (rest := [vi l2, vr 2 4]) (Nat.le_of_ble_eq_true rfl) rfl rfl (zCi_mono (fun x1 h2 k => ?_) k)
    refine z_iload_n 3 dX2_drawSheaves_51 rfl rfl rfl ?_
    refine z_callVv vX2_lead kX2_134 dX2_drawSheaves_52 rfl (zRo_d d) (as := [vi l2, vi x1, vi l3]) (rest := []) (Nat.le_of_ble_eq_true rfl) rfl rfl (zCv_mono (fun h4 k => ?_) k)
    refine z_iinc dX2_drawSheaves_55 rfl (Nat.le_of_ble_eq_true rfl) (L' := [some (vr 2 4), some (vr 4 l1), some (vi l2), some (vi (l3 + 1))]) rfl rfl ?_
    refine z_goto (tgt := 32) dX2_drawSheaves_58 rfl ?_
    exact z_sub (L' := [some (vr 2 4), some (vr 4 l1), some (vi l2), some (vi (l3 + 1))]) (And.intro rfl (And.intro rfl (And.intro rfl (And.intro rfl trivial)))) k
theorem eX2_drawSheaves {G : zG} {d : Nat} {K : zH → Prop} {l1 : Int} {h : zH} (k : tX2_drawSheaves_0 G d K l1 h) : zCv G (d + 1) mX2_drawSheaves [vr 2 4, vr 4 l1] h K := z_entry (by decide +kernel) (Nat.le_of_ble_eq_true rfl) rfl k
def tX2_drawClasses_0 (G : zG) (d : Nat) (K : zH → Prop) (l1 : Int) (l2 : Bool) (h : zH) : Prop := zTv G (d + 1) mX2_drawClasses K 0 [some (vr 2 4), some (vr 4 l1), some (vi (bi l2)), none, none] [] h
def tX2_drawClasses_19 (G : zG) (d : Nat) (K : zH → Prop) (l1 : Int) (l2 : Bool) (l3 : Int) (h : zH) : Prop := zTv G (d + 1) mX2_drawClasses K 19 [some (vr 2 4), some (vr 4 l1), some (vi (bi l2)), some (vi l3), none] [] h
def tX2_drawClasses_33 (G : zG) (d : Nat) (K : zH → Prop) (l1 : Int) (l2 : Bool) (l3 : Int) (l4 : Int) (h : zH) : Prop := zTv G (d + 1) mX2_drawClasses K 33 [some (vr 2 4), some (vr 4 l1), some (vi (bi l2)), some (vi l3), some (vi l4)] [] h
theorem bX2_drawClasses_0 {G : zG} {d : Nat} {K : zH → Prop} {l1 : Int} {l2 : Bool} {h : zH} (k : zCv G d mX2_begin [vr 2 4, vi (h (l1 + 7) 10)] h (fun h2 => zCv G d mX2_cutLike [vr 2 4, vr 4 l1, vi 0] h2 (fun h4 => tX2_drawClasses_19 G d K l1 l2 0 h4))) : tX2_drawClasses_0 G d K l1 l2 h := by
  unfold tX2_drawClasses_0
  refine z_aload_n 0 dX2_drawClasses_0 rfl rfl (Nat.le_of_ble_eq_true rfl) rfl ?_
  refine z_aload_n 1 dX2_drawClasses_1 rfl rfl (Nat.le_of_ble_eq_true rfl) rfl ?_
  refine z_getF 4 7 (x := (l1 + 7)) fX2_119 rfl dX2_drawClasses_2 (by omega) rfl ?_
  refine z_getI 7 (x := (h (l1 + 7) 10)) fX2_141 rfl dX2_drawClasses_5 rfl rfl ?_
  refine z_callVv vX2_begin kX2_128 dX2_drawClasses_8 rfl (zRo_d d) (as := [vi (h (l1 + 7) 10)]) (rest := []) (Nat.le_of_ble_eq_true rfl) rfl rfl (zCv_mono (fun h2 k => ?_) k)
  refine z_aload_n 0 dX2_drawClasses_11 rfl rfl (Nat.le_of_ble_eq_true rfl) rfl ?_
  refine z_aload_n 1 dX2_drawClasses_12 rfl rfl (Nat.le_of_ble_eq_true rfl) rfl ?_
  refine z_iconst dX2_drawClasses_13 rfl ?_
  refine z_callVv vX2_cutLike kX2_95 dX2_drawClasses_14 rfl (zRo_d d) (as := [vr 4 l1, vi 0]) (rest := []) (Nat.le_of_ble_eq_true rfl) rfl rfl (zCv_mono (fun h4 k => ?_) k)
  refine z_iconst dX2_drawClasses_17 rfl ?_
  refine z_istore_n 3 dX2_drawClasses_18 rfl (Nat.le_of_ble_eq_true rfl) (L' := [some (vr 2 4), some (vr 4 l1), some (vi (bi l2)), some (vi 0), none]) rfl rfl ?_
  exact z_sub (L' := [some (vr 2 4), some (vr 4 l1), some (vi (bi l2)), some (vi 0), none]) (And.intro rfl (And.intro rfl (And.intro rfl (And.intro rfl trivial)))) k
theorem bX2_drawClasses_19 {G : zG} {d : Nat} {K : zH → Prop} {l1 : Int} {l2 : Bool} {l3 : Int} {h : zH} (k : zR l3 ∧ zR (h (l1 + 7) 10) ∧ ((h (l1 + 7) 10) ≤ l3 → K h) ∧ (¬ (h (l1 + 7) 10) ≤ l3 → tX2_drawClasses_33 G d K l1 l2 l3 0 h)) : tX2_drawClasses_19 G d K l1 l2 l3 h := by
  unfold tX2_drawClasses_19
  refine z_iload_n 3 dX2_drawClasses_19 rfl rfl rfl ?_
  refine z_aload_n 1 dX2_drawClasses_20 rfl rfl (Nat.le_of_ble_eq_true rfl) rfl ?_
  refine z_getF 4 7 (x := (l1 + 7)) fX2_119 rfl dX2_drawClasses_21 (by omega) rfl ?_
  refine z_getI 7 (x := (h (l1 + 7) 10)) fX2_141 rfl dX2_drawClasses_24 rfl rfl ?_
  obtain ⟨r1, r2, ka, kb⟩ := k
  refine z_icmp_ge (tgt := 95) dX2_drawClasses_27 rfl r1 r2 rfl ⟨fun q => ?_, fun q => ?_⟩
  · have k := ka q
    exact z_return rfl dX2_drawClasses_95 ⟨rfl, k⟩
  · have k := kb q
    refine z_iconst dX2_drawClasses_30 rfl ?_
    refine z_istore dX2_drawClasses_31 (Nat.le_of_ble_eq_true rfl) (L' := [some (vr 2 4), some (vr 4 l1), some (vi (bi l2)), some (vi l3), some (vi 0)]) rfl rfl ?_
    exact z_sub (L' := [some (vr 2 4), some (vr 4 l1), some (vi (bi l2)), some (vi l3), some (vi 0)]) (And.intro rfl (And.intro rfl (And.intro rfl (And.intro rfl (And.intro rfl trivial))))) k
theorem bX2_drawClasses_33 {G : zG} {d : Nat} {K : zH → Prop} {l1 : Int} {l2 : Bool} {l3 : Int} {l4 : Int} {h : zH} (k : zR l4 ∧ zR (h l1 11) ∧ ((h l1 11) ≤ l4 → zCb G d mX7_classTakes [vr 7 (l1 + 7), vi l3] h (fun x1 h2 => (¬ bi x1 = bi l2 → tX2_drawClasses_19 G d K l1 l2 (l3 + 1) h2) ∧ (bi x1 = bi l2 → tX2_drawClasses_19 G d K l1 l2 (l3 + 1) (zup h2 4 8 (zlor (h2 4 8) (zlshl 1 l3)))))) ∧ (¬ (h l1 11) ≤ l4 → zCi G d mX7_classStep [vr 7 (l1 + 7), vi l3, vi l4] h (fun x3 h4 => zCv G d mX2_lead [vr 2 4, vi l3, vi x3, vi l4] h4 (fun h6 => tX2_drawClasses_33 G d K l1 l2 l3 (l4 + 1) h6)))) : tX2_drawClasses_33 G d K l1 l2 l3 l4 h := by
  unfold tX2_drawClasses_33
  refine z_iload dX2_drawClasses_33 rfl rfl ?_
  refine z_aload_n 1 dX2_drawClasses_35 rfl rfl (Nat.le_of_ble_eq_true rfl) rfl ?_
  refine z_getI 4 (x := (h l1 11)) fX2_68 rfl dX2_drawClasses_36 rfl rfl ?_
  obtain ⟨r1, r2, ka, kb⟩ := k
  refine z_icmp_ge (tgt := 65) dX2_drawClasses_39 rfl r1 r2 rfl ⟨fun q => ?_, fun q => ?_⟩
  · have k := ka q
    refine z_aload_n 1 dX2_drawClasses_65 rfl rfl (Nat.le_of_ble_eq_true rfl) rfl ?_
    refine z_getF 4 7 (x := (l1 + 7)) fX2_119 rfl dX2_drawClasses_66 (by omega) rfl ?_
    refine z_iload_n 3 dX2_drawClasses_69 rfl rfl rfl ?_
    refine z_callVb vX7_classTakes kX2_147 dX2_drawClasses_70 rfl (zRo_d d) (as := [vi l3]) (rest := []) (Nat.le_of_ble_eq_true rfl) rfl rfl (zCb_mono (fun x1 h2 k => ?_) k)
    refine z_iload_n 2 dX2_drawClasses_73 rfl rfl rfl ?_
    obtain ⟨ka, kb⟩ := k
    refine z_icmp_ne (tgt := 89) dX2_drawClasses_74 rfl (bi_R _) (bi_R _) rfl ⟨fun q => ?_, fun q => ?_⟩
    · have k := ka q
      refine z_iinc dX2_drawClasses_89 rfl (Nat.le_of_ble_eq_true rfl) (L' := [some (vr 2 4), some (vr 4 l1), some (vi (bi l2)), some (vi (l3 + 1)), some (vi l4)]) rfl rfl ?_
      refine z_goto (tgt := 19) dX2_drawClasses_92 rfl ?_
      exact z_sub (L' := [some (vr 2 4), some (vr 4 l1), some (vi (bi l2)), some (vi (l3 + 1)), none]) (And.intro rfl (And.intro rfl (And.intro rfl (And.intro rfl trivial)))) k
    · have k := kb q
      refine z_aload_n 0 dX2_drawClasses_77 rfl rfl (Nat.le_of_ble_eq_true rfl) rfl ?_
      refine z_dup dX2_drawClasses_78 (fun q => by cases q) rfl ?_
      refine z_getL 2 (x := (h2 4 8)) fX2_38 rfl dX2_drawClasses_79 rfl rfl ?_
      refine z_lconst (x := 1) dX2_drawClasses_82 rfl rfl ?_
      refine z_iload_n 3 dX2_drawClasses_83 rfl rfl rfl ?_
      refine z_lshl dX2_drawClasses_84 rfl ?_
      refine z_lor dX2_drawClasses_85 rfl ?_
      refine z_putL 2 gX2_38 dX2_drawClasses_86 rfl ?_
      refine z_iinc dX2_drawClasses_89 rfl (Nat.le_of_ble_eq_true rfl) (L' := [some (vr 2 4), some (vr 4 l1), some (vi (bi l2)), some (vi (l3 + 1)), some (vi l4)]) rfl rfl ?_
      refine z_goto (tgt := 19) dX2_drawClasses_92 rfl ?_
      exact z_sub (L' := [some (vr 2 4), some (vr 4 l1), some (vi (bi l2)), some (vi (l3 + 1)), none]) (And.intro rfl (And.intro rfl (And.intro rfl (And.intro rfl trivial)))) k
  · have k := kb q
    refine z_aload_n 0 dX2_drawClasses_42 rfl rfl (Nat.le_of_ble_eq_true rfl) rfl ?_
    refine z_iload_n 3 dX2_drawClasses_43 rfl rfl rfl ?_
    refine z_aload_n 1 dX2_drawClasses_44 rfl rfl (Nat.le_of_ble_eq_true rfl) rfl ?_
    refine z_getF 4 7 (x := (l1 + 7)) fX2_119 rfl dX2_drawClasses_45 (by omega) rfl ?_
    refine z_iload_n 3 dX2_drawClasses_48 rfl rfl rfl ?_
    refine z_iload dX2_drawClasses_49 rfl rfl ?_
    refine z_callVi vX7_classStep kX2_144 dX2_drawClasses_51 rfl (zRo_d d) (as := [vi l3, vi l4]) (rest := [vi l3, vr 2 4]) (Nat.le_of_ble_eq_true rfl) rfl rfl (zCi_mono (fun x3 h4 k => ?_) k)
    refine z_iload dX2_drawClasses_54 rfl rfl ?_
    refine z_callVv vX2_lead kX2_134 dX2_drawClasses_56 rfl (zRo_d d) (as := [vi l3, vi x3, vi l4]) (rest := []) (Nat.le_of_ble_eq_true rfl) rfl rfl (zCv_mono (fun h6 k => ?_) k)
    refine z_iinc dX2_drawClasses_59 rfl (Nat.le_of_ble_eq_true rfl) (L' := [some (vr 2 4), some (vr 4 l1), some (vi (bi l2)), some (vi l3), some (vi (l4 + 1))]) rfl rfl ?_
    refine z_goto (tgt := 33) dX2_drawClasses_62 rfl ?_
    exact z_sub (L' := [some (vr 2 4), some (vr 4 l1), some (vi (bi l2)), some (vi l3), some (vi (l4 + 1))]) (And.intro rfl (And.intro rfl (And.intro rfl (And.intro rfl (And.intro rfl trivial))))) k
theorem eX2_drawClasses {G : zG} {d : Nat} {K : zH → Prop} {l1 : Int} {l2 : Bool} {h : zH} (k : tX2_drawClasses_0 G d K l1 l2 h) : zCv G (d + 1) mX2_drawClasses [vr 2 4, vr 4 l1, vi (bi l2)] h K := z_entry (by decide +kernel) (Nat.le_of_ble_eq_true rfl) rfl k
def tX2_copyMarks_0 (G : zG) (d : Nat) (K : Int → zH → Prop) (l1 : Int) (l2 : Int) (l3 : Int) (h : zH) : Prop := zTi G (d + 1) mX2_copyMarks K 0 [some (vr 2 4), some (vr 4 l1), some (vi l2), some (vi l3), none, none] [] h
def tX2_copyMarks_6 (G : zG) (d : Nat) (K : Int → zH → Prop) (l1 : Int) (l2 : Int) (l3 : Int) (l4 : Int) (l5 : Int) (h : zH) : Prop := zTi G (d + 1) mX2_copyMarks K 6 [some (vr 2 4), some (vr 4 l1), some (vi l2), some (vi l3), some (vi l4), some (vi l5)] [] h
theorem bX2_copyMarks_0 {G : zG} {d : Nat} {K : Int → zH → Prop} {l1 : Int} {l2 : Int} {l3 : Int} {h : zH} (k : tX2_copyMarks_6 G d K l1 l2 l3 0 0 h) : tX2_copyMarks_0 G d K l1 l2 l3 h := by
  unfold tX2_copyMarks_0
  refine z_iconst dX2_copyMarks_0 rfl ?_
  refine z_istore dX2_copyMarks_1 (Nat.le_of_ble_eq_true rfl) (L' := [some (vr 2 4), some (vr 4 l1), some (vi l2), some (vi l3), some (vi 0), none]) rfl rfl ?_
  refine z_iconst dX2_copyMarks_3 rfl ?_
  refine z_istore dX2_copyMarks_4 (Nat.le_of_ble_eq_true rfl) (L' := [some (vr 2 4), some (vr 4 l1), some (vi l2), some (vi l3), some (vi 0), some (vi 0)]) rfl rfl ?_
  exact z_sub (L' := [some (vr 2 4), some (vr 4 l1), some (vi l2), some (vi l3), some (vi 0), some (vi 0)]) (And.intro rfl (And.intro rfl (And.intro rfl (And.intro rfl (And.intro rfl (And.intro rfl trivial)))))) k
theorem bX2_copyMarks_6 {G : zG} {d : Nat} {K : Int → zH → Prop} {l1 : Int} {l2 : Int} {l3 : Int} {l4 : Int} {l5 : Int} {h : zH} (k : zR l3 ∧ (l3 < 0 → K l4 h) ∧ (¬ l3 < 0 → zR l5 ∧ zR (h 4 11) ∧ ((h 4 11) ≤ l5 → K l4 h) ∧ (¬ (h 4 11) ≤ l5 → ((0 : Int) ≤ l5 ∧ l5 < 256) ∧ zR (h 11 l5) ∧ ((h 11 l5) < 0 → tX2_copyMarks_6 G d K l1 l2 l3 l4 (l5 + 1) h) ∧ (¬ (h 11 l5) < 0 → ((0 : Int) ≤ l5 ∧ l5 < 256) ∧ zCb G d mX4_edgeHas [vr 4 l1, vi l2, vi (h 11 l5)] h (fun x1 h2 => (x1 = false → tX2_copyMarks_6 G d K l1 l2 l3 l4 (l5 + 1) h2) ∧ (x1 = true → zCv G d mX2_mark [vr 2 4, vi l3, vi l5] h2 (fun h4 => tX2_copyMarks_6 G d K l1 l2 l3 (l4 + 1) (l5 + 1) h4))))))) : tX2_copyMarks_6 G d K l1 l2 l3 l4 l5 h := by
  unfold tX2_copyMarks_6
  refine z_iload_n 3 dX2_copyMarks_6 rfl rfl rfl ?_
  obtain ⟨r1, ka, kb⟩ := k
  refine z_if_lt (tgt := 60) dX2_copyMarks_7 rfl r1 rfl ⟨fun q => ?_, fun q => ?_⟩
  · have k := ka q
    refine z_iload dX2_copyMarks_60 rfl rfl ?_
    exact z_ireturn rfl dX2_copyMarks_62 ⟨_, rfl, k⟩
  · have k := kb q
    refine z_iload dX2_copyMarks_10 rfl rfl ?_
    refine z_aload_n 0 dX2_copyMarks_12 rfl rfl (Nat.le_of_ble_eq_true rfl) rfl ?_
    refine z_getI 2 (x := (h 4 11)) fX2_48 rfl dX2_copyMarks_13 rfl rfl ?_
    obtain ⟨r1, r2, ka, kb⟩ := k
    refine z_icmp_ge (tgt := 60) dX2_copyMarks_16 rfl r1 r2 rfl ⟨fun q => ?_, fun q => ?_⟩
    · have k := ka q
      refine z_iload dX2_copyMarks_60 rfl rfl ?_
      exact z_ireturn rfl dX2_copyMarks_62 ⟨_, rfl, k⟩
    · have k := kb q
      refine z_aload_n 0 dX2_copyMarks_19 rfl rfl (Nat.le_of_ble_eq_true rfl) rfl ?_
      refine z_getF 2 13 (x := 11) fX2_31 rfl dX2_copyMarks_20 rfl rfl ?_
      refine z_iload dX2_copyMarks_23 rfl rfl ?_
      obtain ⟨i9, k⟩ := k
      refine z_iald (x := (h 11 l5)) dX2_copyMarks_25 (by rw [zl_11]; exact i9) rfl rfl ?_
      obtain ⟨r1, ka, kb⟩ := k
      refine z_if_lt (tgt := 54) dX2_copyMarks_26 rfl r1 rfl ⟨fun q => ?_, fun q => ?_⟩
      · have k := ka q
        refine z_iinc dX2_copyMarks_54 rfl (Nat.le_of_ble_eq_true rfl) (L' := [some (vr 2 4), some (vr 4 l1), some (vi l2), some (vi l3), some (vi l4), some (vi (l5 + 1))]) rfl rfl ?_
        refine z_goto (tgt := 6) dX2_copyMarks_57 rfl ?_
        exact z_sub (L' := [some (vr 2 4), some (vr 4 l1), some (vi l2), some (vi l3), some (vi l4), some (vi (l5 + 1))]) (And.intro rfl (And.intro rfl (And.intro rfl (And.intro rfl (And.intro rfl (And.intro rfl trivial)))))) k
      · have k := kb q
        refine z_aload_n 1 dX2_copyMarks_29 rfl rfl (Nat.le_of_ble_eq_true rfl) rfl ?_
        refine z_iload_n 2 dX2_copyMarks_30 rfl rfl rfl ?_
        refine z_aload_n 0 dX2_copyMarks_31 rfl rfl (Nat.le_of_ble_eq_true rfl) rfl ?_
        refine z_getF 2 13 (x := 11) fX2_31 rfl dX2_copyMarks_32 rfl rfl ?_
        refine z_iload dX2_copyMarks_35 rfl rfl ?_
        obtain ⟨i9, k⟩ := k
        refine z_iald (x := (h 11 l5)) dX2_copyMarks_37 (by rw [zl_11]; exact i9) rfl rfl ?_
        refine z_callVb vX4_edgeHas kX2_150 dX2_copyMarks_38 rfl (zRo_d d) (as := [vi l2, vi (h 11 l5)]) (rest := []) (Nat.le_of_ble_eq_true rfl) rfl rfl (zCb_mono (fun x1 h2 k => ?_) k)
        obtain ⟨ka, kb⟩ := k
        refine z_ifb_eq (tgt := 54) dX2_copyMarks_41 rfl rfl ⟨fun q => ?_, fun q => ?_⟩
        · have k := ka q
          refine z_iinc dX2_copyMarks_54 rfl (Nat.le_of_ble_eq_true rfl) (L' := [some (vr 2 4), some (vr 4 l1), some (vi l2), some (vi l3), some (vi l4), some (vi (l5 + 1))]) rfl rfl ?_
          refine z_goto (tgt := 6) dX2_copyMarks_57 rfl ?_
          exact z_sub (L' := [some (vr 2 4), some (vr 4 l1), some (vi l2), some (vi l3), some (vi l4), some (vi (l5 + 1))]) (And.intro rfl (And.intro rfl (And.intro rfl (And.intro rfl (And.intro rfl (And.intro rfl trivial)))))) k
        · have k := kb q
          refine z_aload_n 0 dX2_copyMarks_44 rfl rfl (Nat.le_of_ble_eq_true rfl) rfl ?_
          refine z_iload_n 3 dX2_copyMarks_45 rfl rfl rfl ?_
          refine z_iload dX2_copyMarks_46 rfl rfl ?_
          refine z_callVv vX2_mark kX2_88 dX2_copyMarks_48 rfl (zRo_d d) (as := [vi l3, vi l5]) (rest := []) (Nat.le_of_ble_eq_true rfl) rfl rfl (zCv_mono (fun h4 k => ?_) k)
          refine z_iinc dX2_copyMarks_51 rfl (Nat.le_of_ble_eq_true rfl) (L' := [some (vr 2 4), some (vr 4 l1), some (vi l2), some (vi l3), some (vi (l4 + 1)), some (vi l5)]) rfl rfl ?_
          refine z_iinc dX2_copyMarks_54 rfl (Nat.le_of_ble_eq_true rfl) (L' := [some (vr 2 4), some (vr 4 l1), some (vi l2), some (vi l3), some (vi (l4 + 1)), some (vi (l5 + 1))]) rfl rfl ?_
          refine z_goto (tgt := 6) dX2_copyMarks_57 rfl ?_
          exact z_sub (L' := [some (vr 2 4), some (vr 4 l1), some (vi l2), some (vi l3), some (vi (l4 + 1)), some (vi (l5 + 1))]) (And.intro rfl (And.intro rfl (And.intro rfl (And.intro rfl (And.intro rfl (And.intro rfl trivial)))))) k
theorem eX2_copyMarks {G : zG} {d : Nat} {K : Int → zH → Prop} {l1 : Int} {l2 : Int} {l3 : Int} {h : zH} (k : tX2_copyMarks_0 G d K l1 l2 l3 h) : zCi G (d + 1) mX2_copyMarks [vr 2 4, vr 4 l1, vi l2, vi l3] h K := z_entry (by decide +kernel) (Nat.le_of_ble_eq_true rfl) rfl k
def tX4_settle_0 (G : zG) (d : Nat) (K : Bool → zH → Prop) (l0 : Int) (h : zH) : Prop := zTb G (d + 1) mX4_settle K 0 [some (vr 4 l0), some (vr 2 4)] [] h
theorem bX4_settle_0 {G : zG} {d : Nat} {K : Bool → zH → Prop} {l0 : Int} {h : zH} (k : zR (h 4 12) ∧ ((h 4 12) = 0 → zCb G d mX4_takeBlocks [vr 4 l0, vr 2 4] (zcp (zcp (zcp (zcp (zup (zup (zup (zup h l0 7 (h 4 7)) l0 8 ((zup h l0 7 (h 4 7)) 4 8)) l0 9 ((zup (zup h l0 7 (h 4 7)) l0 8 ((zup h l0 7 (h 4 7)) 4 8)) 4 9)) l0 10 ((zup (zup (zup h l0 7 (h 4 7)) l0 8 ((zup h l0 7 (h 4 7)) 4 8)) l0 9 ((zup (zup h l0 7 (h 4 7)) l0 8 ((zup h l0 7 (h 4 7)) 4 8)) 4 9)) 4 10)) 5 (l0 + 1) 160) 6 (l0 + 2) 160) 8 (l0 + 4) 64) 9 (l0 + 5) 64) (fun x1 h2 => (x1 = false → K false h2) ∧ (x1 = true → zCb G d mX7_findSheaves [vr 7 (l0 + 7), vr 4 l0] h2 (fun x3 h4 => (x3 = true → zCv G d mX7_findClasses [vr 7 (l0 + 7)] h4 (fun h6 => K true h6)) ∧ (x3 = false → K false h4))))) ∧ (¬ (h 4 12) = 0 → K false h)) : tX4_settle_0 G d K l0 h := by
  unfold tX4_settle_0
  refine z_know (fun zo zs zv => ?_)
  have w_l0 : zvok (vr 4 l0) := zv _ (List.mem_of_getElem? (i := 0) rfl)
  refine z_aload_n 1 dX4_settle_0 rfl rfl (Nat.le_of_ble_eq_true rfl) rfl ?_
  refine z_getZ 2 (x := (h 4 12)) fX4_38 rfl dX4_settle_1 rfl rfl ?_
  obtain ⟨r1, ka, kb⟩ := k
  refine z_if_eq (tgt := 9) dX4_settle_4 rfl r1 rfl ⟨fun q => ?_, fun q => ?_⟩
  · have k := ka q
    refine z_aload_n 0 dX4_settle_9 rfl rfl (Nat.le_of_ble_eq_true rfl) rfl ?_
    refine z_aload_n 1 dX4_settle_10 rfl rfl (Nat.le_of_ble_eq_true rfl) rfl ?_
    refine z_getI 2 (x := (h 4 7)) fX4_44 rfl dX4_settle_11 rfl rfl ?_
    refine z_putI 4 gX4_48 dX4_settle_14 rfl ?_
    refine z_aload_n 0 dX4_settle_17 rfl rfl (Nat.le_of_ble_eq_true rfl) rfl ?_
    refine z_aload_n 1 dX4_settle_18 rfl rfl (Nat.le_of_ble_eq_true rfl) rfl ?_
    refine z_getL 2 (x := ((zup h l0 7 (h 4 7)) 4 8)) fX4_49 rfl dX4_settle_19 rfl rfl ?_
    refine z_putL 4 gX4_53 dX4_settle_22 rfl ?_
    refine z_aload_n 0 dX4_settle_25 rfl rfl (Nat.le_of_ble_eq_true rfl) rfl ?_
    refine z_aload_n 1 dX4_settle_26 rfl rfl (Nat.le_of_ble_eq_true rfl) rfl ?_
    refine z_getI 2 (x := ((zup (zup h l0 7 (h 4 7)) l0 8 ((zup h l0 7 (h 4 7)) 4 8)) 4 9)) fX4_54 rfl dX4_settle_27 rfl rfl ?_
    refine z_putI 4 gX4_57 dX4_settle_30 rfl ?_
    refine z_aload_n 0 dX4_settle_33 rfl rfl (Nat.le_of_ble_eq_true rfl) rfl ?_
    refine z_aload_n 1 dX4_settle_34 rfl rfl (Nat.le_of_ble_eq_true rfl) rfl ?_
    refine z_getI 2 (x := ((zup (zup (zup h l0 7 (h 4 7)) l0 8 ((zup h l0 7 (h 4 7)) 4 8)) l0 9 ((zup (zup h l0 7 (h 4 7)) l0 8 ((zup h l0 7 (h 4 7)) 4 8)) 4 9)) 4 10)) fX4_58 rfl dX4_settle_35 rfl rfl ?_
    refine z_putI 4 gX4_61 dX4_settle_38 rfl ?_
    refine z_aload_n 1 dX4_settle_41 rfl rfl (Nat.le_of_ble_eq_true rfl) rfl ?_
    refine z_getF 2 13 (x := 5) fX4_62 rfl dX4_settle_42 rfl rfl ?_
    refine z_iconst dX4_settle_45 rfl ?_
    refine z_aload_n 0 dX4_settle_46 rfl rfl (Nat.le_of_ble_eq_true rfl) rfl ?_
    refine z_getF 4 13 (x := (l0 + 1)) fX4_9 rfl dX4_settle_47 (by omega) rfl ?_
    refine z_iconst dX4_settle_50 rfl ?_
    refine z_sipush dX4_settle_51 rfl rfl ?_
    refine z_copy kX4_63 kcopy.1 kcopy.2.1 kcopy.2.2 dX4_settle_54 (by rw [zl_5, zl4_1 w_l0]; decide) ⟨Nat.le_add_left 1 d, (by show _ ≤ 64 * (d + 1); have := kcw; rw [show zcat _ = 0 from rfl]; omega)⟩ rfl ?_
    refine z_aload_n 1 dX4_settle_57 rfl rfl (Nat.le_of_ble_eq_true rfl) rfl ?_
    refine z_getF 2 13 (x := 6) fX4_69 rfl dX4_settle_58 rfl rfl ?_
    refine z_iconst dX4_settle_61 rfl ?_
    refine z_aload_n 0 dX4_settle_62 rfl rfl (Nat.le_of_ble_eq_true rfl) rfl ?_
    refine z_getF 4 13 (x := (l0 + 2)) fX4_15 rfl dX4_settle_63 (by omega) rfl ?_
    refine z_iconst dX4_settle_66 rfl ?_
    refine z_sipush dX4_settle_67 rfl rfl ?_
    refine z_copy kX4_63 kcopy.1 kcopy.2.1 kcopy.2.2 dX4_settle_70 (by rw [zl_6, zl4_2 w_l0]; decide) ⟨Nat.le_add_left 1 d, (by show _ ≤ 64 * (d + 1); have := kcw; rw [show zcat _ = 0 from rfl]; omega)⟩ rfl ?_
    refine z_aload_n 1 dX4_settle_73 rfl rfl (Nat.le_of_ble_eq_true rfl) rfl ?_
    refine z_getF 2 13 (x := 8) fX4_70 rfl dX4_settle_74 rfl rfl ?_
    refine z_iconst dX4_settle_77 rfl ?_
    refine z_aload_n 0 dX4_settle_78 rfl rfl (Nat.le_of_ble_eq_true rfl) rfl ?_
    refine z_getF 4 13 (x := (l0 + 4)) fX4_22 rfl dX4_settle_79 (by omega) rfl ?_
    refine z_iconst dX4_settle_82 rfl ?_
    refine z_bipush dX4_settle_83 rfl rfl ?_
    refine z_copy kX4_63 kcopy.1 kcopy.2.1 kcopy.2.2 dX4_settle_85 (by rw [zl_8, zl4_4 w_l0]; decide) ⟨Nat.le_add_left 1 d, (by show _ ≤ 64 * (d + 1); have := kcw; rw [show zcat _ = 0 from rfl]; omega)⟩ rfl ?_
    refine z_aload_n 1 dX4_settle_88 rfl rfl (Nat.le_of_ble_eq_true rfl) rfl ?_
    refine z_getF 2 13 (x := 9) fX4_71 rfl dX4_settle_89 rfl rfl ?_
    refine z_iconst dX4_settle_92 rfl ?_
    refine z_aload_n 0 dX4_settle_93 rfl rfl (Nat.le_of_ble_eq_true rfl) rfl ?_
    refine z_getF 4 13 (x := (l0 + 5)) fX4_25 rfl dX4_settle_94 (by omega) rfl ?_
    refine z_iconst dX4_settle_97 rfl ?_
    refine z_bipush dX4_settle_98 rfl rfl ?_
    refine z_copy kX4_63 kcopy.1 kcopy.2.1 kcopy.2.2 dX4_settle_100 (by rw [zl_9, zl4_5 w_l0]; decide) ⟨Nat.le_add_left 1 d, (by show _ ≤ 64 * (d + 1); have := kcw; rw [show zcat _ = 0 from rfl]; omega)⟩ rfl ?_
    refine z_aload_n 0 dX4_settle_103 rfl rfl (Nat.le_of_ble_eq_true rfl) rfl ?_
    refine z_aload_n 1 dX4_settle_104 rfl rfl (Nat.le_of_ble_eq_true rfl) rfl ?_
    refine z_callVb vX4_takeBlocks kX4_72 dX4_settle_105 rfl (zRo_d d) (as := [vr 2 4]) (rest := []) (Nat.le_of_ble_eq_true rfl) rfl rfl (zCb_mono (fun x1 h2 k => ?_) k)
    obtain ⟨ka, kb⟩ := k
    refine z_ifb_eq (tgt := 122) dX4_settle_108 rfl rfl ⟨fun q => ?_, fun q => ?_⟩
    · have k := ka q
      refine z_iconst dX4_settle_122 rfl ?_
      exact z_zreturn rfl (Or.inl rfl) dX4_settle_123 ⟨false, rfl, k⟩
    · have k := kb q
      refine z_aload_n 0 dX4_settle_111 rfl rfl (Nat.le_of_ble_eq_true rfl) rfl ?_
      refine z_getF 4 7 (x := (l0 + 7)) fX4_34 rfl dX4_settle_112 (by omega) rfl ?_
      refine z_aload_n 0 dX4_settle_115 rfl rfl (Nat.le_of_ble_eq_true rfl) rfl ?_
      refine z_callVb vX7_findSheaves kX4_76 dX4_settle_116 rfl (zRo_d d) (as := [vr 4 l0]) (rest := []) (Nat.le_of_ble_eq_true rfl) rfl rfl (zCb_mono (fun x3 h4 k => ?_) k)
      obtain ⟨ka, kb⟩ := k
      refine z_ifb_ne (tgt := 124) dX4_settle_119 rfl rfl ⟨fun q => ?_, fun q => ?_⟩
      · have k := ka q
        refine z_aload_n 0 dX4_settle_124 rfl rfl (Nat.le_of_ble_eq_true rfl) rfl ?_
        refine z_getF 4 7 (x := (l0 + 7)) fX4_34 rfl dX4_settle_125 (by omega) rfl ?_
        refine z_callVv vX7_findClasses kX4_80 dX4_settle_128 rfl (zRo_d d) (as := []) (rest := []) (Nat.le_of_ble_eq_true rfl) rfl rfl (zCv_mono (fun h6 k => ?_) k)
        refine z_iconst dX4_settle_131 rfl ?_
        exact z_zreturn rfl (Or.inr rfl) dX4_settle_132 ⟨true, rfl, k⟩
      · have k := kb q
        refine z_iconst dX4_settle_122 rfl ?_
        exact z_zreturn rfl (Or.inl rfl) dX4_settle_123 ⟨false, rfl, k⟩
  · have k := kb q
    refine z_iconst dX4_settle_7 rfl ?_
    exact z_zreturn rfl (Or.inl rfl) dX4_settle_8 ⟨false, rfl, k⟩
theorem eX4_settle {G : zG} {d : Nat} {K : Bool → zH → Prop} {l0 : Int} {h : zH} (k : tX4_settle_0 G d K l0 h) : zCb G (d + 1) mX4_settle [vr 4 l0, vr 2 4] h K := z_entry (by decide +kernel) (Nat.le_of_ble_eq_true rfl) rfl k
def tX4_takeBlocks_0 (G : zG) (d : Nat) (K : Bool → zH → Prop) (l0 : Int) (h : zH) : Prop := zTb G (d + 1) mX4_takeBlocks K 0 [some (vr 4 l0), some (vr 2 4), none, none] [] h
def tX4_takeBlocks_15 (G : zG) (d : Nat) (K : Bool → zH → Prop) (l0 : Int) (l2 : Int) (h : zH) : Prop := zTb G (d + 1) mX4_takeBlocks K 15 [some (vr 4 l0), some (vr 2 4), some (vi l2), none] [] h
def tX4_takeBlocks_64 (G : zG) (d : Nat) (K : Bool → zH → Prop) (l0 : Int) (l2 : Int) (l3 : Int) (h : zH) : Prop := zTb G (d + 1) mX4_takeBlocks K 64 [some (vr 4 l0), some (vr 2 4), some (vi l2), some (vi l3)] [] h
theorem bX4_takeBlocks_0 {G : zG} {d : Nat} {K : Bool → zH → Prop} {l0 : Int} {h : zH} (k : zCv G d mJ7_fill_d0a16 [vr 14 (l0 + 3), vl 0] h (fun h2 => tX4_takeBlocks_15 G d K l0 0 (zup h2 l0 11 0))) : tX4_takeBlocks_0 G d K l0 h := by
  unfold tX4_takeBlocks_0
  refine z_aload_n 0 dX4_takeBlocks_0 rfl rfl (Nat.le_of_ble_eq_true rfl) rfl ?_
  refine z_getF 4 14 (x := (l0 + 3)) fX4_18 rfl dX4_takeBlocks_1 (by omega) rfl ?_
  refine z_lconst (x := 0) dX4_takeBlocks_4 rfl rfl ?_
  refine z_callSv sJ7_fill_d0a16 kX4_83 dX4_takeBlocks_5 rfl (zRo_d d) (as := [vr 14 (l0 + 3), vl 0]) (rest := []) (Nat.le_of_ble_eq_true rfl) rfl rfl (zCv_mono (fun h2 k => ?_) k)
  refine z_aload_n 0 dX4_takeBlocks_8 rfl rfl (Nat.le_of_ble_eq_true rfl) rfl ?_
  refine z_iconst dX4_takeBlocks_9 rfl ?_
  refine z_putI 4 gX4_89 dX4_takeBlocks_10 rfl ?_
  refine z_iconst dX4_takeBlocks_13 rfl ?_
  refine z_istore_n 2 dX4_takeBlocks_14 rfl (Nat.le_of_ble_eq_true rfl) (L' := [some (vr 4 l0), some (vr 2 4), some (vi 0), none]) rfl rfl ?_
  exact z_sub (L' := [some (vr 4 l0), some (vr 2 4), some (vi 0), none]) (And.intro rfl (And.intro rfl (And.intro rfl trivial))) k
theorem bX4_takeBlocks_15 {G : zG} {d : Nat} {K : Bool → zH → Prop} {l0 : Int} {l2 : Int} {h : zH} (k : zR l2 ∧ zR (h 4 11) ∧ ((h 4 11) ≤ l2 → K true h) ∧ (¬ (h 4 11) ≤ l2 → zCb G d mX4_beginsBlock [vr 4 l0, vr 2 4, vi l2] h (fun x1 h2 => (x1 = true → zR (h2 l0 11) ∧ ((h2 l0 11) < 128 → ((0 : Int) ≤ l2 ∧ l2 < 256) ∧ ((0 : Int) ≤ (h2 l0 11) ∧ (h2 l0 11) < 128) ∧ tX4_takeBlocks_64 G d K l0 l2 0 (zup h2 (l0 + 6) (h2 l0 11) (h2 10 l2))) ∧ (¬ (h2 l0 11) < 128 → K false h2)) ∧ (x1 = false → tX4_takeBlocks_15 G d K l0 (l2 + 1) h2)))) : tX4_takeBlocks_15 G d K l0 l2 h := by
  unfold tX4_takeBlocks_15
  refine z_know (fun zo zs zv => ?_)
  have w_l0 : zvok (vr 4 l0) := zv _ (List.mem_of_getElem? (i := 0) rfl)
  refine z_iload_n 2 dX4_takeBlocks_15 rfl rfl rfl ?_
  refine z_aload_n 1 dX4_takeBlocks_16 rfl rfl (Nat.le_of_ble_eq_true rfl) rfl ?_
  refine z_getI 2 (x := (h 4 11)) fX4_92 rfl dX4_takeBlocks_17 rfl rfl ?_
  obtain ⟨r1, r2, ka, kb⟩ := k
  refine z_icmp_ge (tgt := 131) dX4_takeBlocks_20 rfl r1 r2 rfl ⟨fun q => ?_, fun q => ?_⟩
  · have k := ka q
    refine z_iconst dX4_takeBlocks_131 rfl ?_
    exact z_zreturn rfl (Or.inr rfl) dX4_takeBlocks_132 ⟨true, rfl, k⟩
  · have k := kb q
    refine z_aload_n 0 dX4_takeBlocks_23 rfl rfl (Nat.le_of_ble_eq_true rfl) rfl ?_
    refine z_aload_n 1 dX4_takeBlocks_24 rfl rfl (Nat.le_of_ble_eq_true rfl) rfl ?_
    refine z_iload_n 2 dX4_takeBlocks_25 rfl rfl rfl ?_
    refine z_callVb vX4_beginsBlock kX4_93 dX4_takeBlocks_26 rfl (zRo_d d) (as := [vr 2 4, vi l2]) (rest := []) (Nat.le_of_ble_eq_true rfl) rfl rfl (zCb_mono (fun x1 h2 k => ?_) k)
    obtain ⟨ka, kb⟩ := k
    refine z_ifb_ne (tgt := 35) dX4_takeBlocks_29 rfl rfl ⟨fun q => ?_, fun q => ?_⟩
    · have k := ka q
      refine z_aload_n 0 dX4_takeBlocks_35 rfl rfl (Nat.le_of_ble_eq_true rfl) rfl ?_
      refine z_getI 4 (x := (h2 l0 11)) fX4_89 rfl dX4_takeBlocks_36 rfl rfl ?_
      refine z_sipush dX4_takeBlocks_39 rfl rfl ?_
      obtain ⟨r1, ka, kb⟩ := k
      refine z_icmp_lt (tgt := 47) dX4_takeBlocks_42 rfl r1 ⟨by decide, by decide⟩ rfl ⟨fun q => ?_, fun q => ?_⟩
      · have k := ka q
        refine z_aload_n 0 dX4_takeBlocks_47 rfl rfl (Nat.le_of_ble_eq_true rfl) rfl ?_
        refine z_getF 4 13 (x := (l0 + 6)) fX4_28 rfl dX4_takeBlocks_48 (by omega) rfl ?_
        refine z_aload_n 0 dX4_takeBlocks_51 rfl rfl (Nat.le_of_ble_eq_true rfl) rfl ?_
        refine z_getI 4 (x := (h2 l0 11)) fX4_89 rfl dX4_takeBlocks_52 rfl rfl ?_
        refine z_aload_n 1 dX4_takeBlocks_55 rfl rfl (Nat.le_of_ble_eq_true rfl) rfl ?_
        refine z_getF 2 13 (x := 10) fX4_97 rfl dX4_takeBlocks_56 rfl rfl ?_
        refine z_iload_n 2 dX4_takeBlocks_59 rfl rfl rfl ?_
        obtain ⟨i9, k⟩ := k
        refine z_iald (x := (h2 10 l2)) dX4_takeBlocks_60 (by rw [zl_10]; exact i9) rfl rfl ?_
        obtain ⟨i9, k⟩ := k
        refine z_iast dX4_takeBlocks_61 (by rw [zl4_6 w_l0]; exact i9) rfl ?_
        refine z_iconst dX4_takeBlocks_62 rfl ?_
        refine z_istore_n 3 dX4_takeBlocks_63 rfl (Nat.le_of_ble_eq_true rfl) (L' := [some (vr 4 l0), some (vr 2 4), some (vi l2), some (vi 0)]) rfl rfl ?_
        exact z_sub (L' := [some (vr 4 l0), some (vr 2 4), some (vi l2), some (vi 0)]) (And.intro rfl (And.intro rfl (And.intro rfl (And.intro rfl trivial)))) k
      · have k := kb q
        refine z_iconst dX4_takeBlocks_45 rfl ?_
        exact z_zreturn rfl (Or.inl rfl) dX4_takeBlocks_46 ⟨false, rfl, k⟩
    · have k := kb q
      refine z_goto (tgt := 125) dX4_takeBlocks_32 rfl ?_
      refine z_iinc dX4_takeBlocks_125 rfl (Nat.le_of_ble_eq_true rfl) (L' := [some (vr 4 l0), some (vr 2 4), some (vi (l2 + 1)), none]) rfl rfl ?_
      refine z_goto (tgt := 15) dX4_takeBlocks_128 rfl ?_
      exact z_sub (L' := [some (vr 4 l0), some (vr 2 4), some (vi (l2 + 1)), none]) (And.intro rfl (And.intro rfl (And.intro rfl trivial))) k
theorem bX4_takeBlocks_64 {G : zG} {d : Nat} {K : Bool → zH → Prop} {l0 : Int} {l2 : Int} {l3 : Int} {h : zH} (k : zR l3 ∧ zR (h l0 9) ∧ ((h l0 9) ≤ l3 → tX4_takeBlocks_15 G d K l0 (l2 + 1) (zup h l0 11 ((h l0 11) + 1))) ∧ (¬ (h l0 9) ≤ l3 → zCb G d mX2_isMarked [vr 2 4, vi l3, vi l2] h (fun x1 h2 => (x1 = false → tX4_takeBlocks_64 G d K l0 l2 (l3 + 1) h2) ∧ (x1 = true → (0 ≤ (h2 l0 11) ∧ (h2 l0 11) < 2147483648) ∧ ((0 : Int) ≤ ((l3 * 2) + ((h2 l0 11) / 64)) ∧ ((l3 * 2) + ((h2 l0 11) / 64)) < 320) ∧ (0 ≤ (h2 l0 11) ∧ (h2 l0 11) < 2147483648) ∧ ((0 : Int) ≤ ((l3 * 2) + ((h2 l0 11) / 64)) ∧ ((l3 * 2) + ((h2 l0 11) / 64)) < 320) ∧ tX4_takeBlocks_64 G d K l0 l2 (l3 + 1) (zup h2 (l0 + 3) ((l3 * 2) + ((h2 l0 11) / 64)) (zlor (h2 (l0 + 3) ((l3 * 2) + ((h2 l0 11) / 64))) (zlshl 1 ((h2 l0 11) % 64)))))))) : tX4_takeBlocks_64 G d K l0 l2 l3 h := by
  unfold tX4_takeBlocks_64
  refine z_know (fun zo zs zv => ?_)
  have w_l0 : zvok (vr 4 l0) := zv _ (List.mem_of_getElem? (i := 0) rfl)
  refine z_iload_n 3 dX4_takeBlocks_64 rfl rfl rfl ?_
  refine z_aload_n 0 dX4_takeBlocks_65 rfl rfl (Nat.le_of_ble_eq_true rfl) rfl ?_
  refine z_getI 4 (x := (h l0 9)) fX4_57 rfl dX4_takeBlocks_66 rfl rfl ?_
  obtain ⟨r1, r2, ka, kb⟩ := k
  refine z_icmp_ge (tgt := 115) dX4_takeBlocks_69 rfl r1 r2 rfl ⟨fun q => ?_, fun q => ?_⟩
  · have k := ka q
    refine z_aload_n 0 dX4_takeBlocks_115 rfl rfl (Nat.le_of_ble_eq_true rfl) rfl ?_
    refine z_dup dX4_takeBlocks_116 (fun q => by cases q) rfl ?_
    refine z_getI 4 (x := (h l0 11)) fX4_89 rfl dX4_takeBlocks_117 rfl rfl ?_
    refine z_iconst dX4_takeBlocks_120 rfl ?_
    refine z_iadd dX4_takeBlocks_121 rfl ?_
    refine z_putI 4 gX4_89 dX4_takeBlocks_122 rfl ?_
    refine z_iinc dX4_takeBlocks_125 rfl (Nat.le_of_ble_eq_true rfl) (L' := [some (vr 4 l0), some (vr 2 4), some (vi (l2 + 1)), some (vi l3)]) rfl rfl ?_
    refine z_goto (tgt := 15) dX4_takeBlocks_128 rfl ?_
    exact z_sub (L' := [some (vr 4 l0), some (vr 2 4), some (vi (l2 + 1)), none]) (And.intro rfl (And.intro rfl (And.intro rfl trivial))) k
  · have k := kb q
    refine z_aload_n 1 dX4_takeBlocks_72 rfl rfl (Nat.le_of_ble_eq_true rfl) rfl ?_
    refine z_iload_n 3 dX4_takeBlocks_73 rfl rfl rfl ?_
    refine z_iload_n 2 dX4_takeBlocks_74 rfl rfl rfl ?_
    refine z_callVb vX2_isMarked kX4_98 dX4_takeBlocks_75 rfl (zRo_d d) (as := [vi l3, vi l2]) (rest := []) (Nat.le_of_ble_eq_true rfl) rfl rfl (zCb_mono (fun x1 h2 k => ?_) k)
    obtain ⟨ka, kb⟩ := k
    refine z_ifb_eq (tgt := 109) dX4_takeBlocks_78 rfl rfl ⟨fun q => ?_, fun q => ?_⟩
    · have k := ka q
      refine z_iinc dX4_takeBlocks_109 rfl (Nat.le_of_ble_eq_true rfl) (L' := [some (vr 4 l0), some (vr 2 4), some (vi l2), some (vi (l3 + 1))]) rfl rfl ?_
      refine z_goto (tgt := 64) dX4_takeBlocks_112 rfl ?_
      exact z_sub (L' := [some (vr 4 l0), some (vr 2 4), some (vi l2), some (vi (l3 + 1))]) (And.intro rfl (And.intro rfl (And.intro rfl (And.intro rfl trivial)))) k
    · have k := kb q
      refine z_aload_n 0 dX4_takeBlocks_81 rfl rfl (Nat.le_of_ble_eq_true rfl) rfl ?_
      refine z_getF 4 14 (x := (l0 + 3)) fX4_18 rfl dX4_takeBlocks_82 (by omega) rfl ?_
      refine z_iload_n 3 dX4_takeBlocks_85 rfl rfl rfl ?_
      refine z_iconst dX4_takeBlocks_86 rfl ?_
      refine z_imul dX4_takeBlocks_87 rfl ?_
      refine z_aload_n 0 dX4_takeBlocks_88 rfl rfl (Nat.le_of_ble_eq_true rfl) rfl ?_
      refine z_getI 4 (x := (h2 l0 11)) fX4_89 rfl dX4_takeBlocks_89 rfl rfl ?_
      refine z_bipush dX4_takeBlocks_92 rfl rfl ?_
      obtain ⟨i9, k⟩ := k
      refine z_idiv dX4_takeBlocks_94 ⟨i9.1, i9.2, by decide, by decide⟩ rfl ?_
      refine z_iadd dX4_takeBlocks_95 rfl ?_
      refine z_dup2 dX4_takeBlocks_96 (fun q => by cases q) (fun q => by cases q) rfl ?_
      obtain ⟨i9, k⟩ := k
      refine z_lald (x := (h2 (l0 + 3) ((l3 * 2) + ((h2 l0 11) / 64)))) dX4_takeBlocks_97 (by rw [zl4_3 w_l0]; exact i9) rfl rfl ?_
      refine z_lconst (x := 1) dX4_takeBlocks_98 rfl rfl ?_
      refine z_aload_n 0 dX4_takeBlocks_99 rfl rfl (Nat.le_of_ble_eq_true rfl) rfl ?_
      refine z_getI 4 (x := (h2 l0 11)) fX4_89 rfl dX4_takeBlocks_100 rfl rfl ?_
      refine z_bipush dX4_takeBlocks_103 rfl rfl ?_
      obtain ⟨i9, k⟩ := k
      refine z_irem dX4_takeBlocks_105 ⟨i9.1, i9.2, by decide, by decide⟩ rfl ?_
      refine z_lshl dX4_takeBlocks_106 rfl ?_
      refine z_lor dX4_takeBlocks_107 rfl ?_
      obtain ⟨i9, k⟩ := k
      refine z_last dX4_takeBlocks_108 (by rw [zl4_3 w_l0]; exact i9) rfl ?_
      refine z_iinc dX4_takeBlocks_109 rfl (Nat.le_of_ble_eq_true rfl) (L' := [some (vr 4 l0), some (vr 2 4), some (vi l2), some (vi (l3 + 1))]) rfl rfl ?_
      refine z_goto (tgt := 64) dX4_takeBlocks_112 rfl ?_
      exact z_sub (L' := [some (vr 4 l0), some (vr 2 4), some (vi l2), some (vi (l3 + 1))]) (And.intro rfl (And.intro rfl (And.intro rfl (And.intro rfl trivial)))) k
theorem eX4_takeBlocks {G : zG} {d : Nat} {K : Bool → zH → Prop} {l0 : Int} {h : zH} (k : tX4_takeBlocks_0 G d K l0 h) : zCb G (d + 1) mX4_takeBlocks [vr 4 l0, vr 2 4] h K := z_entry (by decide +kernel) (Nat.le_of_ble_eq_true rfl) rfl k
def tX4_beginsBlock_0 (G : zG) (d : Nat) (K : Bool → zH → Prop) (l0 : Int) (l2 : Int) (h : zH) : Prop := zTb G (d + 1) mX4_beginsBlock K 0 [some (vr 4 l0), some (vr 2 4), some (vi l2), none, none] [] h
def tX4_beginsBlock_13 (G : zG) (d : Nat) (K : Bool → zH → Prop) (l0 : Int) (l2 : Int) (l3 : Int) (l4 : Int) (h : zH) : Prop := zTb G (d + 1) mX4_beginsBlock K 13 [some (vr 4 l0), some (vr 2 4), some (vi l2), some (vi l3), some (vi l4)] [] h
theorem bX4_beginsBlock_0 {G : zG} {d : Nat} {K : Bool → zH → Prop} {l0 : Int} {l2 : Int} {h : zH} (k : zR l2 ∧ (¬ l2 = 0 → tX4_beginsBlock_13 G d K l0 l2 0 0 h) ∧ (l2 = 0 → tX4_beginsBlock_13 G d K l0 l2 1 0 h)) : tX4_beginsBlock_0 G d K l0 l2 h := by
  unfold tX4_beginsBlock_0
  refine z_iload_n 2 dX4_beginsBlock_0 rfl rfl rfl ?_
  obtain ⟨r1, ka, kb⟩ := k
  refine z_if_ne (tgt := 8) dX4_beginsBlock_1 rfl r1 rfl ⟨fun q => ?_, fun q => ?_⟩
  · have k := ka q
    refine z_iconst dX4_beginsBlock_8 rfl ?_
    refine z_istore_n 3 dX4_beginsBlock_9 rfl (Nat.le_of_ble_eq_true rfl) (L' := [some (vr 4 l0), some (vr 2 4), some (vi l2), some (vi 0), none]) rfl rfl ?_
    refine z_iconst dX4_beginsBlock_10 rfl ?_
    refine z_istore dX4_beginsBlock_11 (Nat.le_of_ble_eq_true rfl) (L' := [some (vr 4 l0), some (vr 2 4), some (vi l2), some (vi 0), some (vi 0)]) rfl rfl ?_
    exact z_sub (L' := [some (vr 4 l0), some (vr 2 4), some (vi l2), some (vi 0), some (vi 0)]) (And.intro rfl (And.intro rfl (And.intro rfl (And.intro rfl (And.intro rfl trivial))))) k
  · have k := kb q
    refine z_iconst dX4_beginsBlock_4 rfl ?_
    refine z_goto (tgt := 9) dX4_beginsBlock_5 rfl ?_
    refine z_istore_n 3 dX4_beginsBlock_9 rfl (Nat.le_of_ble_eq_true rfl) (L' := [some (vr 4 l0), some (vr 2 4), some (vi l2), some (vi 1), none]) rfl rfl ?_
    refine z_iconst dX4_beginsBlock_10 rfl ?_
    refine z_istore dX4_beginsBlock_11 (Nat.le_of_ble_eq_true rfl) (L' := [some (vr 4 l0), some (vr 2 4), some (vi l2), some (vi 1), some (vi 0)]) rfl rfl ?_
    exact z_sub (L' := [some (vr 4 l0), some (vr 2 4), some (vi l2), some (vi 1), some (vi 0)]) (And.intro rfl (And.intro rfl (And.intro rfl (And.intro rfl (And.intro rfl trivial))))) k
theorem bX4_beginsBlock_13 {G : zG} {d : Nat} {K : Bool → zH → Prop} {l0 : Int} {l2 : Int} {l3 : Int} {l4 : Int} {h : zH} (k : zR l3 ∧ (¬ l3 = 0 → (∃ b1, l3 = bi b1 ∧ K b1 h)) ∧ (l3 = 0 → zR l4 ∧ zR (h l0 9) ∧ ((h l0 9) ≤ l4 → (∃ b2, l3 = bi b2 ∧ K b2 h)) ∧ (¬ (h l0 9) ≤ l4 → zCb G d mX2_isMarked [vr 2 4, vi l4, vi l2] h (fun x3 h4 => zCb G d mX2_isMarked [vr 2 4, vi l4, vi (l2 - 1)] h4 (fun x5 h6 => (bi x3 = bi x5 → tX4_beginsBlock_13 G d K l0 l2 0 (l4 + 1) h6) ∧ (¬ bi x3 = bi x5 → tX4_beginsBlock_13 G d K l0 l2 1 (l4 + 1) h6)))))) : tX4_beginsBlock_13 G d K l0 l2 l3 l4 h := by
  unfold tX4_beginsBlock_13
  refine z_iload_n 3 dX4_beginsBlock_13 rfl rfl rfl ?_
  obtain ⟨r1, ka, kb⟩ := k
  refine z_if_ne (tgt := 57) dX4_beginsBlock_14 rfl r1 rfl ⟨fun q => ?_, fun q => ?_⟩
  · have k := ka q
    refine z_iload_n 3 dX4_beginsBlock_57 rfl rfl rfl ?_
    obtain ⟨b9, e9, k⟩ := k
    exact z_zreturn rfl (by rw [e9]; exact bi_01 b9) dX4_beginsBlock_58 ⟨b9, by rw [e9], k⟩
  · have k := kb q
    refine z_iload dX4_beginsBlock_17 rfl rfl ?_
    refine z_aload_n 0 dX4_beginsBlock_19 rfl rfl (Nat.le_of_ble_eq_true rfl) rfl ?_
    refine z_getI 4 (x := (h l0 9)) fX4_57 rfl dX4_beginsBlock_20 rfl rfl ?_
    obtain ⟨r1, r2, ka, kb⟩ := k
    refine z_icmp_ge (tgt := 57) dX4_beginsBlock_23 rfl r1 r2 rfl ⟨fun q => ?_, fun q => ?_⟩
    · have k := ka q
      refine z_iload_n 3 dX4_beginsBlock_57 rfl rfl rfl ?_
      obtain ⟨b9, e9, k⟩ := k
      exact z_zreturn rfl (by rw [e9]; exact bi_01 b9) dX4_beginsBlock_58 ⟨b9, by rw [e9], k⟩
    · have k := kb q
      refine z_aload_n 1 dX4_beginsBlock_26 rfl rfl (Nat.le_of_ble_eq_true rfl) rfl ?_
      refine z_iload dX4_beginsBlock_27 rfl rfl ?_
      refine z_iload_n 2 dX4_beginsBlock_29 rfl rfl rfl ?_
      refine z_callVb vX2_isMarked kX4_98 dX4_beginsBlock_30 rfl (zRo_d d) (as := [vi l4, vi l2]) (rest := []) (Nat.le_of_ble_eq_true rfl) rfl rfl (zCb_mono (fun x3 h4 k => ?_) k)
      refine z_aload_n 1 dX4_beginsBlock_33 rfl rfl (Nat.le_of_ble_eq_true rfl) rfl ?_
      refine z_iload dX4_beginsBlock_34 rfl rfl ?_
      refine z_iload_n 2 dX4_beginsBlock_36 rfl rfl rfl ?_
      refine z_iconst dX4_beginsBlock_37 rfl ?_
      refine z_isub dX4_beginsBlock_38 rfl ?_
      refine z_callVb vX2_isMarked kX4_98 dX4_beginsBlock_39 rfl (zRo_d d) (as := [vi l4, vi (l2 - 1)]) (rest := [vi (bi x3)]) (Nat.le_of_ble_eq_true rfl) rfl rfl (zCb_mono (fun x5 h6 k => ?_) k)
      obtain ⟨ka, kb⟩ := k
      refine z_icmp_eq (tgt := 49) dX4_beginsBlock_42 rfl (bi_R _) (bi_R _) rfl ⟨fun q => ?_, fun q => ?_⟩
      · have k := ka q
        refine z_iconst dX4_beginsBlock_49 rfl ?_
        refine z_istore_n 3 dX4_beginsBlock_50 rfl (Nat.le_of_ble_eq_true rfl) (L' := [some (vr 4 l0), some (vr 2 4), some (vi l2), some (vi 0), some (vi l4)]) rfl rfl ?_
        refine z_iinc dX4_beginsBlock_51 rfl (Nat.le_of_ble_eq_true rfl) (L' := [some (vr 4 l0), some (vr 2 4), some (vi l2), some (vi 0), some (vi (l4 + 1))]) rfl rfl ?_
        refine z_goto (tgt := 13) dX4_beginsBlock_54 rfl ?_
        exact z_sub (L' := [some (vr 4 l0), some (vr 2 4), some (vi l2), some (vi 0), some (vi (l4 + 1))]) (And.intro rfl (And.intro rfl (And.intro rfl (And.intro rfl (And.intro rfl trivial))))) k
      · have k := kb q
        refine z_iconst dX4_beginsBlock_45 rfl ?_
        refine z_goto (tgt := 50) dX4_beginsBlock_46 rfl ?_
        refine z_istore_n 3 dX4_beginsBlock_50 rfl (Nat.le_of_ble_eq_true rfl) (L' := [some (vr 4 l0), some (vr 2 4), some (vi l2), some (vi 1), some (vi l4)]) rfl rfl ?_
        refine z_iinc dX4_beginsBlock_51 rfl (Nat.le_of_ble_eq_true rfl) (L' := [some (vr 4 l0), some (vr 2 4), some (vi l2), some (vi 1), some (vi (l4 + 1))]) rfl rfl ?_
        refine z_goto (tgt := 13) dX4_beginsBlock_54 rfl ?_
        exact z_sub (L' := [some (vr 4 l0), some (vr 2 4), some (vi l2), some (vi 1), some (vi (l4 + 1))]) (And.intro rfl (And.intro rfl (And.intro rfl (And.intro rfl (And.intro rfl trivial))))) k
theorem eX4_beginsBlock {G : zG} {d : Nat} {K : Bool → zH → Prop} {l0 : Int} {l2 : Int} {h : zH} (k : tX4_beginsBlock_0 G d K l0 l2 h) : zCb G (d + 1) mX4_beginsBlock [vr 4 l0, vr 2 4, vi l2] h K := z_entry (by decide +kernel) (Nat.le_of_ble_eq_true rfl) rfl k
def tX4_edgeHas_0 (G : zG) (d : Nat) (K : Bool → zH → Prop) (l0 : Int) (l1 : Int) (l2 : Int) (h : zH) : Prop := zTb G d mX4_edgeHas K 0 [some (vr 4 l0), some (vi l1), some (vi l2)] [] h
theorem bX4_edgeHas_0 {G : zG} {d : Nat} {K : Bool → zH → Prop} {l0 : Int} {l1 : Int} {l2 : Int} {h : zH} (k : (0 ≤ l2 ∧ l2 < 2147483648) ∧ ((0 : Int) ≤ ((l1 * 2) + (l2 / 64)) ∧ ((l1 * 2) + (l2 / 64)) < 320) ∧ (0 ≤ l2 ∧ l2 < 2147483648) ∧ (¬ (zcmp (zland (zlushr (h (l0 + 3) ((l1 * 2) + (l2 / 64))) (l2 % 64)) 1) 1) = 0 → K false h) ∧ ((zcmp (zland (zlushr (h (l0 + 3) ((l1 * 2) + (l2 / 64))) (l2 % 64)) 1) 1) = 0 → K true h)) : tX4_edgeHas_0 G d K l0 l1 l2 h := by
  unfold tX4_edgeHas_0
  refine z_know (fun zo zs zv => ?_)
  have w_l0 : zvok (vr 4 l0) := zv _ (List.mem_of_getElem? (i := 0) rfl)
  refine z_aload_n 0 dX4_edgeHas_0 rfl rfl (Nat.le_of_ble_eq_true rfl) rfl ?_
  refine z_getF 4 14 (x := (l0 + 3)) fX4_18 rfl dX4_edgeHas_1 (by omega) rfl ?_
  refine z_iload_n 1 dX4_edgeHas_4 rfl rfl rfl ?_
  refine z_iconst dX4_edgeHas_5 rfl ?_
  refine z_imul dX4_edgeHas_6 rfl ?_
  refine z_iload_n 2 dX4_edgeHas_7 rfl rfl rfl ?_
  refine z_bipush dX4_edgeHas_8 rfl rfl ?_
  obtain ⟨i9, k⟩ := k
  refine z_idiv dX4_edgeHas_10 ⟨i9.1, i9.2, by decide, by decide⟩ rfl ?_
  refine z_iadd dX4_edgeHas_11 rfl ?_
  obtain ⟨i9, k⟩ := k
  refine z_lald (x := (h (l0 + 3) ((l1 * 2) + (l2 / 64)))) dX4_edgeHas_12 (by rw [zl4_3 w_l0]; exact i9) rfl rfl ?_
  refine z_iload_n 2 dX4_edgeHas_13 rfl rfl rfl ?_
  refine z_bipush dX4_edgeHas_14 rfl rfl ?_
  obtain ⟨i9, k⟩ := k
  refine z_irem dX4_edgeHas_16 ⟨i9.1, i9.2, by decide, by decide⟩ rfl ?_
  refine z_lushr dX4_edgeHas_17 rfl ?_
  refine z_lconst (x := 1) dX4_edgeHas_18 rfl rfl ?_
  refine z_land dX4_edgeHas_19 rfl ?_
  refine z_lconst (x := 1) dX4_edgeHas_20 rfl rfl ?_
  refine z_lcmp dX4_edgeHas_21 rfl ?_
  obtain ⟨ka, kb⟩ := k
  refine z_if_ne (tgt := 29) dX4_edgeHas_22 rfl (zcmp_R _ _) rfl ⟨fun q => ?_, fun q => ?_⟩
  · have k := ka q
    refine z_iconst dX4_edgeHas_29 rfl ?_
    exact z_zreturn rfl (Or.inl rfl) dX4_edgeHas_30 ⟨false, rfl, k⟩
  · have k := kb q
    refine z_iconst dX4_edgeHas_25 rfl ?_
    refine z_goto (tgt := 30) dX4_edgeHas_26 rfl ?_
    exact z_zreturn rfl (Or.inr rfl) dX4_edgeHas_30 ⟨true, rfl, k⟩
theorem eX4_edgeHas {G : zG} {d : Nat} {K : Bool → zH → Prop} {l0 : Int} {l1 : Int} {l2 : Int} {h : zH} (k : tX4_edgeHas_0 G d K l0 l1 l2 h) : zCb G d mX4_edgeHas [vr 4 l0, vi l1, vi l2] h K := z_entry (by decide +kernel) (Nat.le_of_ble_eq_true rfl) rfl k
def tX4_edgeIsFilled_0 (G : zG) (d : Nat) (K : Bool → zH → Prop) (l0 : Int) (l1 : Int) (h : zH) : Prop := zTb G d mX4_edgeIsFilled K 0 [some (vr 4 l0), some (vi l1)] [] h
theorem bX4_edgeIsFilled_0 {G : zG} {d : Nat} {K : Bool → zH → Prop} {l0 : Int} {l1 : Int} {h : zH} (k : ((0 : Int) ≤ (l1 * 2) ∧ (l1 * 2) < 320) ∧ ((0 : Int) ≤ ((l1 * 2) + 1) ∧ ((l1 * 2) + 1) < 320) ∧ ((zcmp (zlor (h (l0 + 3) (l1 * 2)) (h (l0 + 3) ((l1 * 2) + 1))) 0) = 0 → K false h) ∧ (¬ (zcmp (zlor (h (l0 + 3) (l1 * 2)) (h (l0 + 3) ((l1 * 2) + 1))) 0) = 0 → K true h)) : tX4_edgeIsFilled_0 G d K l0 l1 h := by
  unfold tX4_edgeIsFilled_0
  refine z_know (fun zo zs zv => ?_)
  have w_l0 : zvok (vr 4 l0) := zv _ (List.mem_of_getElem? (i := 0) rfl)
  refine z_aload_n 0 dX4_edgeIsFilled_0 rfl rfl (Nat.le_of_ble_eq_true rfl) rfl ?_
  refine z_getF 4 14 (x := (l0 + 3)) fX4_18 rfl dX4_edgeIsFilled_1 (by omega) rfl ?_
  refine z_iload_n 1 dX4_edgeIsFilled_4 rfl rfl rfl ?_
  refine z_iconst dX4_edgeIsFilled_5 rfl ?_
  refine z_imul dX4_edgeIsFilled_6 rfl ?_
  obtain ⟨i9, k⟩ := k
  refine z_lald (x := (h (l0 + 3) (l1 * 2))) dX4_edgeIsFilled_7 (by rw [zl4_3 w_l0]; exact i9) rfl rfl ?_
  refine z_aload_n 0 dX4_edgeIsFilled_8 rfl rfl (Nat.le_of_ble_eq_true rfl) rfl ?_
  refine z_getF 4 14 (x := (l0 + 3)) fX4_18 rfl dX4_edgeIsFilled_9 (by omega) rfl ?_
  refine z_iload_n 1 dX4_edgeIsFilled_12 rfl rfl rfl ?_
  refine z_iconst dX4_edgeIsFilled_13 rfl ?_
  refine z_imul dX4_edgeIsFilled_14 rfl ?_
  refine z_iconst dX4_edgeIsFilled_15 rfl ?_
  refine z_iadd dX4_edgeIsFilled_16 rfl ?_
  obtain ⟨i9, k⟩ := k
  refine z_lald (x := (h (l0 + 3) ((l1 * 2) + 1))) dX4_edgeIsFilled_17 (by rw [zl4_3 w_l0]; exact i9) rfl rfl ?_
  refine z_lor dX4_edgeIsFilled_18 rfl ?_
  refine z_lconst (x := 0) dX4_edgeIsFilled_19 rfl rfl ?_
  refine z_lcmp dX4_edgeIsFilled_20 rfl ?_
  obtain ⟨ka, kb⟩ := k
  refine z_if_eq (tgt := 28) dX4_edgeIsFilled_21 rfl (zcmp_R _ _) rfl ⟨fun q => ?_, fun q => ?_⟩
  · have k := ka q
    refine z_iconst dX4_edgeIsFilled_28 rfl ?_
    exact z_zreturn rfl (Or.inl rfl) dX4_edgeIsFilled_29 ⟨false, rfl, k⟩
  · have k := kb q
    refine z_iconst dX4_edgeIsFilled_24 rfl ?_
    refine z_goto (tgt := 29) dX4_edgeIsFilled_25 rfl ?_
    exact z_zreturn rfl (Or.inr rfl) dX4_edgeIsFilled_29 ⟨true, rfl, k⟩
theorem eX4_edgeIsFilled {G : zG} {d : Nat} {K : Bool → zH → Prop} {l0 : Int} {l1 : Int} {h : zH} (k : tX4_edgeIsFilled_0 G d K l0 l1 h) : zCb G d mX4_edgeIsFilled [vr 4 l0, vi l1] h K := z_entry (by decide +kernel) (Nat.le_of_ble_eq_true rfl) rfl k
def tX4_blockOf_0 (G : zG) (d : Nat) (K : Int → zH → Prop) (l0 : Int) (l1 : Int) (h : zH) : Prop := zTi G d mX4_blockOf K 0 [some (vr 4 l0), some (vi l1), none] [] h
def tX4_blockOf_7 (G : zG) (d : Nat) (K : Int → zH → Prop) (l0 : Int) (l1 : Int) (l2 : Int) (h : zH) : Prop := zTi G d mX4_blockOf K 7 [some (vr 4 l0), some (vi l1), some (vi l2)] [] h
theorem bX4_blockOf_0 {G : zG} {d : Nat} {K : Int → zH → Prop} {l0 : Int} {l1 : Int} {h : zH} (k : tX4_blockOf_7 G d K l0 l1 ((h l0 11) - 1) h) : tX4_blockOf_0 G d K l0 l1 h := by
  unfold tX4_blockOf_0
  refine z_aload_n 0 dX4_blockOf_0 rfl rfl (Nat.le_of_ble_eq_true rfl) rfl ?_
  refine z_getI 4 (x := (h l0 11)) fX4_89 rfl dX4_blockOf_1 rfl rfl ?_
  refine z_iconst dX4_blockOf_4 rfl ?_
  refine z_isub dX4_blockOf_5 rfl ?_
  refine z_istore_n 2 dX4_blockOf_6 rfl (Nat.le_of_ble_eq_true rfl) (L' := [some (vr 4 l0), some (vi l1), some (vi ((h l0 11) - 1))]) rfl rfl ?_
  exact z_sub (L' := [some (vr 4 l0), some (vi l1), some (vi ((h l0 11) - 1))]) (And.intro rfl (And.intro rfl (And.intro rfl trivial))) k
theorem bX4_blockOf_7 {G : zG} {d : Nat} {K : Int → zH → Prop} {l0 : Int} {l1 : Int} {l2 : Int} {h : zH} (k : zR l2 ∧ (l2 ≤ 0 → K l2 h) ∧ (¬ l2 ≤ 0 → ((0 : Int) ≤ l2 ∧ l2 < 128) ∧ zR (h (l0 + 6) l2) ∧ zR l1 ∧ ((h (l0 + 6) l2) ≤ l1 → K l2 h) ∧ (¬ (h (l0 + 6) l2) ≤ l1 → tX4_blockOf_7 G d K l0 l1 (l2 + (-1)) h))) : tX4_blockOf_7 G d K l0 l1 l2 h := by
  unfold tX4_blockOf_7
  refine z_know (fun zo zs zv => ?_)
  have w_l0 : zvok (vr 4 l0) := zv _ (List.mem_of_getElem? (i := 0) rfl)
  refine z_iload_n 2 dX4_blockOf_7 rfl rfl rfl ?_
  obtain ⟨r1, ka, kb⟩ := k
  refine z_if_le (tgt := 27) dX4_blockOf_8 rfl r1 rfl ⟨fun q => ?_, fun q => ?_⟩
  · have k := ka q
    refine z_iload_n 2 dX4_blockOf_27 rfl rfl rfl ?_
    exact z_ireturn rfl dX4_blockOf_28 ⟨_, rfl, k⟩
  · have k := kb q
    refine z_aload_n 0 dX4_blockOf_11 rfl rfl (Nat.le_of_ble_eq_true rfl) rfl ?_
    refine z_getF 4 13 (x := (l0 + 6)) fX4_28 rfl dX4_blockOf_12 (by omega) rfl ?_
    refine z_iload_n 2 dX4_blockOf_15 rfl rfl rfl ?_
    obtain ⟨i9, k⟩ := k
    refine z_iald (x := (h (l0 + 6) l2)) dX4_blockOf_16 (by rw [zl4_6 w_l0]; exact i9) rfl rfl ?_
    refine z_iload_n 1 dX4_blockOf_17 rfl rfl rfl ?_
    obtain ⟨r1, r2, ka, kb⟩ := k
    refine z_icmp_le (tgt := 27) dX4_blockOf_18 rfl r1 r2 rfl ⟨fun q => ?_, fun q => ?_⟩
    · have k := ka q
      refine z_iload_n 2 dX4_blockOf_27 rfl rfl rfl ?_
      exact z_ireturn rfl dX4_blockOf_28 ⟨_, rfl, k⟩
    · have k := kb q
      refine z_iinc dX4_blockOf_21 rfl (Nat.le_of_ble_eq_true rfl) (L' := [some (vr 4 l0), some (vi l1), some (vi (l2 + (-1)))]) rfl rfl ?_
      refine z_goto (tgt := 7) dX4_blockOf_24 rfl ?_
      exact z_sub (L' := [some (vr 4 l0), some (vi l1), some (vi (l2 + (-1)))]) (And.intro rfl (And.intro rfl (And.intro rfl trivial))) k
theorem eX4_blockOf {G : zG} {d : Nat} {K : Int → zH → Prop} {l0 : Int} {l1 : Int} {h : zH} (k : tX4_blockOf_0 G d K l0 l1 h) : zCi G d mX4_blockOf [vr 4 l0, vi l1] h K := z_entry (by decide +kernel) (Nat.le_of_ble_eq_true rfl) rfl k
def tX4_endOf_0 (G : zG) (d : Nat) (K : Int → zH → Prop) (l0 : Int) (l1 : Int) (h : zH) : Prop := zTi G d mX4_endOf K 0 [some (vr 4 l0), some (vi l1)] [] h
theorem bX4_endOf_0 {G : zG} {d : Nat} {K : Int → zH → Prop} {l0 : Int} {l1 : Int} {h : zH} (k : zR (l1 + 1) ∧ zR (h l0 11) ∧ ((h l0 11) ≤ (l1 + 1) → K 65536 h) ∧ (¬ (h l0 11) ≤ (l1 + 1) → ((0 : Int) ≤ (l1 + 1) ∧ (l1 + 1) < 128) ∧ K (h (l0 + 6) (l1 + 1)) h)) : tX4_endOf_0 G d K l0 l1 h := by
  unfold tX4_endOf_0
  refine z_know (fun zo zs zv => ?_)
  have w_l0 : zvok (vr 4 l0) := zv _ (List.mem_of_getElem? (i := 0) rfl)
  refine z_iload_n 1 dX4_endOf_0 rfl rfl rfl ?_
  refine z_iconst dX4_endOf_1 rfl ?_
  refine z_iadd dX4_endOf_2 rfl ?_
  refine z_aload_n 0 dX4_endOf_3 rfl rfl (Nat.le_of_ble_eq_true rfl) rfl ?_
  refine z_getI 4 (x := (h l0 11)) fX4_89 rfl dX4_endOf_4 rfl rfl ?_
  obtain ⟨r1, r2, ka, kb⟩ := k
  refine z_icmp_ge (tgt := 21) dX4_endOf_7 rfl r1 r2 rfl ⟨fun q => ?_, fun q => ?_⟩
  · have k := ka q
    refine z_ldc (x := 65536) cX4_102 rfl dX4_endOf_21 rfl ?_
    exact z_ireturn rfl dX4_endOf_23 ⟨_, rfl, k⟩
  · have k := kb q
    refine z_aload_n 0 dX4_endOf_10 rfl rfl (Nat.le_of_ble_eq_true rfl) rfl ?_
    refine z_getF 4 13 (x := (l0 + 6)) fX4_28 rfl dX4_endOf_11 (by omega) rfl ?_
    refine z_iload_n 1 dX4_endOf_14 rfl rfl rfl ?_
    refine z_iconst dX4_endOf_15 rfl ?_
    refine z_iadd dX4_endOf_16 rfl ?_
    obtain ⟨i9, k⟩ := k
    refine z_iald (x := (h (l0 + 6) (l1 + 1))) dX4_endOf_17 (by rw [zl4_6 w_l0]; exact i9) rfl rfl ?_
    refine z_goto (tgt := 23) dX4_endOf_18 rfl ?_
    exact z_ireturn rfl dX4_endOf_23 ⟨_, rfl, k⟩
theorem eX4_endOf {G : zG} {d : Nat} {K : Int → zH → Prop} {l0 : Int} {l1 : Int} {h : zH} (k : tX4_endOf_0 G d K l0 l1 h) : zCi G d mX4_endOf [vr 4 l0, vi l1] h K := z_entry (by decide +kernel) (Nat.le_of_ble_eq_true rfl) rfl k
def tX4_lengthOf_0 (G : zG) (d : Nat) (K : Int → zH → Prop) (l0 : Int) (l1 : Int) (h : zH) : Prop := zTi G (d + 1) mX4_lengthOf K 0 [some (vr 4 l0), some (vi l1)] [] h
theorem bX4_lengthOf_0 {G : zG} {d : Nat} {K : Int → zH → Prop} {l0 : Int} {l1 : Int} {h : zH} (k : zCi G d mX4_endOf [vr 4 l0, vi l1] h (fun x1 h2 => ((0 : Int) ≤ l1 ∧ l1 < 128) ∧ K (x1 - (h2 (l0 + 6) l1)) h2)) : tX4_lengthOf_0 G d K l0 l1 h := by
  unfold tX4_lengthOf_0
  refine z_know (fun zo zs zv => ?_)
  have w_l0 : zvok (vr 4 l0) := zv _ (List.mem_of_getElem? (i := 0) rfl)
  refine z_aload_n 0 dX4_lengthOf_0 rfl rfl (Nat.le_of_ble_eq_true rfl) rfl ?_
  refine z_iload_n 1 dX4_lengthOf_1 rfl rfl rfl ?_
  refine z_callVi vX4_endOf kX4_103 dX4_lengthOf_2 rfl (zRo_d d) (as := [vi l1]) (rest := []) (Nat.le_of_ble_eq_true rfl) rfl rfl (zCi_mono (fun x1 h2 k => ?_) k)
  refine z_aload_n 0 dX4_lengthOf_5 rfl rfl (Nat.le_of_ble_eq_true rfl) rfl ?_
  refine z_getF 4 13 (x := (l0 + 6)) fX4_28 rfl dX4_lengthOf_6 (by omega) rfl ?_
  refine z_iload_n 1 dX4_lengthOf_9 rfl rfl rfl ?_
  obtain ⟨i9, k⟩ := k
  refine z_iald (x := (h2 (l0 + 6) l1)) dX4_lengthOf_10 (by rw [zl4_6 w_l0]; exact i9) rfl rfl ?_
  refine z_isub dX4_lengthOf_11 rfl ?_
  exact z_ireturn rfl dX4_lengthOf_12 ⟨_, rfl, k⟩
theorem eX4_lengthOf {G : zG} {d : Nat} {K : Int → zH → Prop} {l0 : Int} {l1 : Int} {h : zH} (k : tX4_lengthOf_0 G d K l0 l1 h) : zCi G (d + 1) mX4_lengthOf [vr 4 l0, vi l1] h K := z_entry (by decide +kernel) (Nat.le_of_ble_eq_true rfl) rfl k
def tX4_howMany_0 (G : zG) (d : Nat) (K : Int → zH → Prop) (l0 : Int) (l1 : Int) (h : zH) : Prop := zTi G (d + 1) mX4_howMany K 0 [some (vr 4 l0), some (vi l1)] [] h
theorem bX4_howMany_0 {G : zG} {d : Nat} {K : Int → zH → Prop} {l0 : Int} {l1 : Int} {h : zH} (k : zR l1 ∧ (l1 < 0 ∨ 5 < l1 → K (h (l0 + 7) 10) h) ∧ (l1 = 0 → K (h l0 7) h) ∧ (l1 = 1 → K (h l0 9) h) ∧ (l1 = 2 → K (h l0 10) h) ∧ (l1 = 3 → zCi G d mJ13_bitCount_95d88 [vl (h l0 8)] h (fun x1 h2 => K x1 h2)) ∧ (l1 = 4 → K (h (l0 + 7) 0) h) ∧ (l1 = 5 → K (h l0 11) h)) : tX4_howMany_0 G d K l0 l1 h := by
  unfold tX4_howMany_0
  refine z_iload_n 1 dX4_howMany_0 rfl rfl rfl ?_
  obtain ⟨r1, kd, k_0, k_1, k_2, k_3, k_4, k_5⟩ := k
  refine z_table (dt := 76) (ts := [40, 45, 50, 55, 63, 71]) dX4_howMany_1 r1 rfl rfl rfl ⟨fun q => ?_, fun i t hi q => ?_⟩
  · have k := kd q
    refine z_aload_n 0 dX4_howMany_76 rfl rfl (Nat.le_of_ble_eq_true rfl) rfl ?_
    refine z_getF 4 7 (x := (l0 + 7)) fX4_34 rfl dX4_howMany_77 (by omega) rfl ?_
    refine z_getI 7 (x := (h (l0 + 7) 10)) fX4_116 rfl dX4_howMany_80 rfl rfl ?_
    exact z_ireturn rfl dX4_howMany_83 ⟨_, rfl, k⟩
  · match i, hi, q with
    | 0, hi, q =>
      cases hi
      have k := k_0 (by omega)
      refine z_aload_n 0 dX4_howMany_40 rfl rfl (Nat.le_of_ble_eq_true rfl) rfl ?_
      refine z_getI 4 (x := (h l0 7)) fX4_48 rfl dX4_howMany_41 rfl rfl ?_
      exact z_ireturn rfl dX4_howMany_44 ⟨_, rfl, k⟩
    | 1, hi, q =>
      cases hi
      have k := k_1 (by omega)
      refine z_aload_n 0 dX4_howMany_45 rfl rfl (Nat.le_of_ble_eq_true rfl) rfl ?_
      refine z_getI 4 (x := (h l0 9)) fX4_57 rfl dX4_howMany_46 rfl rfl ?_
      exact z_ireturn rfl dX4_howMany_49 ⟨_, rfl, k⟩
    | 2, hi, q =>
      cases hi
      have k := k_2 (by omega)
      refine z_aload_n 0 dX4_howMany_50 rfl rfl (Nat.le_of_ble_eq_true rfl) rfl ?_
      refine z_getI 4 (x := (h l0 10)) fX4_61 rfl dX4_howMany_51 rfl rfl ?_
      exact z_ireturn rfl dX4_howMany_54 ⟨_, rfl, k⟩
    | 3, hi, q =>
      cases hi
      have k := k_3 (by omega)
      refine z_aload_n 0 dX4_howMany_55 rfl rfl (Nat.le_of_ble_eq_true rfl) rfl ?_
      refine z_getL 4 (x := (h l0 8)) fX4_53 rfl dX4_howMany_56 rfl rfl ?_
      refine z_callSi sJ13_bitCount_95d88 kX4_107 dX4_howMany_59 rfl (zRo_d d) (as := [vl (h l0 8)]) (rest := []) (Nat.le_of_ble_eq_true rfl) rfl rfl (zCi_mono (fun x1 h2 k => ?_) k)
      exact z_ireturn rfl dX4_howMany_62 ⟨_, rfl, k⟩
    | 4, hi, q =>
      cases hi
      have k := k_4 (by omega)
      refine z_aload_n 0 dX4_howMany_63 rfl rfl (Nat.le_of_ble_eq_true rfl) rfl ?_
      refine z_getF 4 7 (x := (l0 + 7)) fX4_34 rfl dX4_howMany_64 (by omega) rfl ?_
      refine z_getI 7 (x := (h (l0 + 7) 0)) fX4_113 rfl dX4_howMany_67 rfl rfl ?_
      exact z_ireturn rfl dX4_howMany_70 ⟨_, rfl, k⟩
    | 5, hi, q =>
      cases hi
      have k := k_5 (by omega)
      refine z_aload_n 0 dX4_howMany_71 rfl rfl (Nat.le_of_ble_eq_true rfl) rfl ?_
      refine z_getI 4 (x := (h l0 11)) fX4_89 rfl dX4_howMany_72 rfl rfl ?_
      exact z_ireturn rfl dX4_howMany_75 ⟨_, rfl, k⟩
    | i + 6, hi, q =>
      exact absurd hi (by simp)
theorem eX4_howMany {G : zG} {d : Nat} {K : Int → zH → Prop} {l0 : Int} {l1 : Int} {h : zH} (k : tX4_howMany_0 G d K l0 l1 h) : zCi G (d + 1) mX4_howMany [vr 4 l0, vi l1] h K := z_entry (by decide +kernel) (Nat.le_of_ble_eq_true rfl) rfl k
def tX4_edgeRanges_0 (G : zG) (d : Nat) (K : Int → zH → Prop) (l0 : Int) (l1 : Int) (h : zH) : Prop := zTi G (d + 1) mX4_edgeRanges K 0 [some (vr 4 l0), some (vi l1), none, none] [] h
def tX4_edgeRanges_4 (G : zG) (d : Nat) (K : Int → zH → Prop) (l0 : Int) (l1 : Int) (l2 : Int) (l3 : Int) (h : zH) : Prop := zTi G (d + 1) mX4_edgeRanges K 4 [some (vr 4 l0), some (vi l1), some (vi l2), some (vi l3)] [] h
theorem bX4_edgeRanges_0 {G : zG} {d : Nat} {K : Int → zH → Prop} {l0 : Int} {l1 : Int} {h : zH} (k : tX4_edgeRanges_4 G d K l0 l1 0 0 h) : tX4_edgeRanges_0 G d K l0 l1 h := by
  unfold tX4_edgeRanges_0
  refine z_iconst dX4_edgeRanges_0 rfl ?_
  refine z_istore_n 2 dX4_edgeRanges_1 rfl (Nat.le_of_ble_eq_true rfl) (L' := [some (vr 4 l0), some (vi l1), some (vi 0), none]) rfl rfl ?_
  refine z_iconst dX4_edgeRanges_2 rfl ?_
  refine z_istore_n 3 dX4_edgeRanges_3 rfl (Nat.le_of_ble_eq_true rfl) (L' := [some (vr 4 l0), some (vi l1), some (vi 0), some (vi 0)]) rfl rfl ?_
  exact z_sub (L' := [some (vr 4 l0), some (vi l1), some (vi 0), some (vi 0)]) (And.intro rfl (And.intro rfl (And.intro rfl (And.intro rfl trivial)))) k
theorem bX4_edgeRanges_4 {G : zG} {d : Nat} {K : Int → zH → Prop} {l0 : Int} {l1 : Int} {l2 : Int} {l3 : Int} {h : zH} (k : zR l3 ∧ zR (h l0 11) ∧ ((h l0 11) ≤ l3 → K l2 h) ∧ (¬ (h l0 11) ≤ l3 → zCb G d mX4_edgeHas [vr 4 l0, vi l1, vi l3] h (fun x1 h2 => (x1 = false → tX4_edgeRanges_4 G d K l0 l1 l2 (l3 + 1) h2) ∧ (x1 = true → zR l3 ∧ (l3 = 0 → tX4_edgeRanges_4 G d K l0 l1 (l2 + 1) (l3 + 1) h2) ∧ (¬ l3 = 0 → zCb G d mX4_edgeHas [vr 4 l0, vi l1, vi (l3 - 1)] h2 (fun x3 h4 => (x3 = true → tX4_edgeRanges_4 G d K l0 l1 l2 (l3 + 1) h4) ∧ (x3 = false → tX4_edgeRanges_4 G d K l0 l1 (l2 + 1) (l3 + 1) h4))))))) : tX4_edgeRanges_4 G d K l0 l1 l2 l3 h := by
  unfold tX4_edgeRanges_4
  refine z_iload_n 3 dX4_edgeRanges_4 rfl rfl rfl ?_
  refine z_aload_n 0 dX4_edgeRanges_5 rfl rfl (Nat.le_of_ble_eq_true rfl) rfl ?_
  refine z_getI 4 (x := (h l0 11)) fX4_89 rfl dX4_edgeRanges_6 rfl rfl ?_
  obtain ⟨r1, r2, ka, kb⟩ := k
  refine z_icmp_ge (tgt := 45) dX4_edgeRanges_9 rfl r1 r2 rfl ⟨fun q => ?_, fun q => ?_⟩
  · have k := ka q
    refine z_iload_n 2 dX4_edgeRanges_45 rfl rfl rfl ?_
    exact z_ireturn rfl dX4_edgeRanges_46 ⟨_, rfl, k⟩
  · have k := kb q
    refine z_aload_n 0 dX4_edgeRanges_12 rfl rfl (Nat.le_of_ble_eq_true rfl) rfl ?_
    refine z_iload_n 1 dX4_edgeRanges_13 rfl rfl rfl ?_
    refine z_iload_n 3 dX4_edgeRanges_14 rfl rfl rfl ?_
    refine z_callVb vX4_edgeHas kX4_119 dX4_edgeRanges_15 rfl (zRo_d d) (as := [vi l1, vi l3]) (rest := []) (Nat.le_of_ble_eq_true rfl) rfl rfl (zCb_mono (fun x1 h2 k => ?_) k)
    obtain ⟨ka, kb⟩ := k
    refine z_ifb_eq (tgt := 39) dX4_edgeRanges_18 rfl rfl ⟨fun q => ?_, fun q => ?_⟩
    · have k := ka q
      refine z_iinc dX4_edgeRanges_39 rfl (Nat.le_of_ble_eq_true rfl) (L' := [some (vr 4 l0), some (vi l1), some (vi l2), some (vi (l3 + 1))]) rfl rfl ?_
      refine z_goto (tgt := 4) dX4_edgeRanges_42 rfl ?_
      exact z_sub (L' := [some (vr 4 l0), some (vi l1), some (vi l2), some (vi (l3 + 1))]) (And.intro rfl (And.intro rfl (And.intro rfl (And.intro rfl trivial)))) k
    · have k := kb q
      refine z_iload_n 3 dX4_edgeRanges_21 rfl rfl rfl ?_
      obtain ⟨r1, ka, kb⟩ := k
      refine z_if_eq (tgt := 36) dX4_edgeRanges_22 rfl r1 rfl ⟨fun q => ?_, fun q => ?_⟩
      · have k := ka q
        refine z_iinc dX4_edgeRanges_36 rfl (Nat.le_of_ble_eq_true rfl) (L' := [some (vr 4 l0), some (vi l1), some (vi (l2 + 1)), some (vi l3)]) rfl rfl ?_
        refine z_iinc dX4_edgeRanges_39 rfl (Nat.le_of_ble_eq_true rfl) (L' := [some (vr 4 l0), some (vi l1), some (vi (l2 + 1)), some (vi (l3 + 1))]) rfl rfl ?_
        refine z_goto (tgt := 4) dX4_edgeRanges_42 rfl ?_
        exact z_sub (L' := [some (vr 4 l0), some (vi l1), some (vi (l2 + 1)), some (vi (l3 + 1))]) (And.intro rfl (And.intro rfl (And.intro rfl (And.intro rfl trivial)))) k
      · have k := kb q
        refine z_aload_n 0 dX4_edgeRanges_25 rfl rfl (Nat.le_of_ble_eq_true rfl) rfl ?_
        refine z_iload_n 1 dX4_edgeRanges_26 rfl rfl rfl ?_
        refine z_iload_n 3 dX4_edgeRanges_27 rfl rfl rfl ?_
        refine z_iconst dX4_edgeRanges_28 rfl ?_
        refine z_isub dX4_edgeRanges_29 rfl ?_
        refine z_callVb vX4_edgeHas kX4_119 dX4_edgeRanges_30 rfl (zRo_d d) (as := [vi l1, vi (l3 - 1)]) (rest := []) (Nat.le_of_ble_eq_true rfl) rfl rfl (zCb_mono (fun x3 h4 k => ?_) k)
        obtain ⟨ka, kb⟩ := k
        refine z_ifb_ne (tgt := 39) dX4_edgeRanges_33 rfl rfl ⟨fun q => ?_, fun q => ?_⟩
        · have k := ka q
          refine z_iinc dX4_edgeRanges_39 rfl (Nat.le_of_ble_eq_true rfl) (L' := [some (vr 4 l0), some (vi l1), some (vi l2), some (vi (l3 + 1))]) rfl rfl ?_
          refine z_goto (tgt := 4) dX4_edgeRanges_42 rfl ?_
          exact z_sub (L' := [some (vr 4 l0), some (vi l1), some (vi l2), some (vi (l3 + 1))]) (And.intro rfl (And.intro rfl (And.intro rfl (And.intro rfl trivial)))) k
        · have k := kb q
          refine z_iinc dX4_edgeRanges_36 rfl (Nat.le_of_ble_eq_true rfl) (L' := [some (vr 4 l0), some (vi l1), some (vi (l2 + 1)), some (vi l3)]) rfl rfl ?_
          refine z_iinc dX4_edgeRanges_39 rfl (Nat.le_of_ble_eq_true rfl) (L' := [some (vr 4 l0), some (vi l1), some (vi (l2 + 1)), some (vi (l3 + 1))]) rfl rfl ?_
          refine z_goto (tgt := 4) dX4_edgeRanges_42 rfl ?_
          exact z_sub (L' := [some (vr 4 l0), some (vi l1), some (vi (l2 + 1)), some (vi (l3 + 1))]) (And.intro rfl (And.intro rfl (And.intro rfl (And.intro rfl trivial)))) k
theorem eX4_edgeRanges {G : zG} {d : Nat} {K : Int → zH → Prop} {l0 : Int} {l1 : Int} {h : zH} (k : tX4_edgeRanges_0 G d K l0 l1 h) : zCi G (d + 1) mX4_edgeRanges [vr 4 l0, vi l1] h K := z_entry (by decide +kernel) (Nat.le_of_ble_eq_true rfl) rfl k
