def tX12_buildsLetters_0 (G : zG) (d : Nat) (K : zH → Prop) (l1 : Int) (l2 : Int) (h : zH) : Prop := zTv G (d + 1) mX12_buildsLetters K 0 [some (vr 12 466), some (vi l1), some (vi l2), none] [] h
def tX12_buildsLetters_2 (G : zG) (d : Nat) (K : zH → Prop) (l1 : Int) (l2 : Int) (l3 : Int) (h : zH) : Prop := zTv G (d + 1) mX12_buildsLetters K 2 [some (vr 12 466), some (vi l1), some (vi l2), some (vi l3)] [] h
theorem bX12_buildsLetters_0 {G : zG} {d : Nat} {K : zH → Prop} {l1 : Int} {l2 : Int} {h : zH} (k : tX12_buildsLetters_2 G d K l1 l2 0 h) : tX12_buildsLetters_0 G d K l1 l2 h := by
  unfold tX12_buildsLetters_0
  refine z_iconst dX12_buildsLetters_0 rfl ?_
  refine z_istore_n 3 dX12_buildsLetters_1 rfl (Nat.le_of_ble_eq_true rfl) (L' := [some (vr 12 466), some (vi l1), some (vi l2), some (vi 0)]) rfl rfl ?_
  exact z_sub (L' := [some (vr 12 466), some (vi l1), some (vi l2), some (vi 0)]) (And.intro rfl (And.intro rfl (And.intro rfl (And.intro rfl trivial)))) k
theorem bX12_buildsLetters_2 {G : zG} {d : Nat} {K : zH → Prop} {l1 : Int} {l2 : Int} {l3 : Int} {h : zH} (k : ((0 : Int) ≤ l1 ∧ l1 < 14) ∧ zR l3 ∧ zR (h 496 l1) ∧ ((h 496 l1) ≤ l3 → K h) ∧ (¬ (h 496 l1) ≤ l3 → zCb G d mX12_edgeHas [vr 12 466, vi l1, vi l2, vi l3] h (fun x1 h2 => (x1 = false → tX12_buildsLetters_2 G d K l1 l2 (l3 + 1) h2) ∧ (x1 = true → ((0 : Int) ≤ ((l1 * 128) + l3) ∧ ((l1 * 128) + l3) < 1792) ∧ zCi G d mX12_blockEnd [vr 12 466, vi l1, vi l3] h2 (fun x3 h4 => zCv G d mX12_buildsRange [vr 12 466, vi (h2 497 ((l1 * 128) + l3)), vi (x3 - 1)] h4 (fun h6 => tX12_buildsLetters_2 G d K l1 l2 (l3 + 1) h6)))))) : tX12_buildsLetters_2 G d K l1 l2 l3 h := by
  unfold tX12_buildsLetters_2
  refine z_iload_n 3 dX12_buildsLetters_2 rfl rfl rfl ?_
  refine z_aload_n 0 dX12_buildsLetters_3 rfl rfl (Nat.le_of_ble_eq_true rfl) rfl ?_
  refine z_getF 12 13 (x := 496) fX12_103 rfl dX12_buildsLetters_4 rfl rfl ?_
  refine z_iload_n 1 dX12_buildsLetters_7 rfl rfl rfl ?_
  obtain ⟨i9, k⟩ := k
  refine z_iald (x := (h 496 l1)) dX12_buildsLetters_8 (by rw [zl_496]; exact i9) rfl rfl ?_
  obtain ⟨r1, r2, ka, kb⟩ := k
  refine z_icmp_ge (tgt := 52) dX12_buildsLetters_9 rfl r1 r2 rfl ⟨fun q => ?_, fun q => ?_⟩
  · have k := ka q
    exact z_return rfl dX12_buildsLetters_52 ⟨rfl, k⟩
  · have k := kb q
    refine z_aload_n 0 dX12_buildsLetters_12 rfl rfl (Nat.le_of_ble_eq_true rfl) rfl ?_
    refine z_iload_n 1 dX12_buildsLetters_13 rfl rfl rfl ?_
    refine z_iload_n 2 dX12_buildsLetters_14 rfl rfl rfl ?_
    refine z_iload_n 3 dX12_buildsLetters_15 rfl rfl rfl ?_
    refine z_callVb vX12_edgeHas kX12_527 dX12_buildsLetters_16 rfl (zRo_d d) (as := [vi l1, vi l2, vi l3]) (rest := []) (Nat.le_of_ble_eq_true rfl) rfl rfl (zCb_mono (fun x1 h2 k => ?_) k)
    obtain ⟨ka, kb⟩ := k
    refine z_ifb_eq (tgt := 46) dX12_buildsLetters_19 rfl rfl ⟨fun q => ?_, fun q => ?_⟩
    · have k := ka q
      refine z_iinc dX12_buildsLetters_46 rfl (Nat.le_of_ble_eq_true rfl) (L' := [some (vr 12 466), some (vi l1), some (vi l2), some (vi (l3 + 1))]) rfl rfl ?_
      refine z_goto (tgt := 2) dX12_buildsLetters_49 rfl ?_
      exact z_sub (L' := [some (vr 12 466), some (vi l1), some (vi l2), some (vi (l3 + 1))]) (And.intro rfl (And.intro rfl (And.intro rfl (And.intro rfl trivial)))) k
    · have k := kb q
      refine z_aload_n 0 dX12_buildsLetters_22 rfl rfl (Nat.le_of_ble_eq_true rfl) rfl ?_
      refine z_aload_n 0 dX12_buildsLetters_23 rfl rfl (Nat.le_of_ble_eq_true rfl) rfl ?_
      refine z_getF 12 13 (x := 497) fX12_106 rfl dX12_buildsLetters_24 rfl rfl ?_
      refine z_iload_n 1 dX12_buildsLetters_27 rfl rfl rfl ?_
      refine z_sipush dX12_buildsLetters_28 rfl rfl ?_
      refine z_imul dX12_buildsLetters_31 rfl ?_
      refine z_iload_n 3 dX12_buildsLetters_32 rfl rfl rfl ?_
      refine z_iadd dX12_buildsLetters_33 rfl ?_
      obtain ⟨i9, k⟩ := k
      refine z_iald (x := (h2 497 ((l1 * 128) + l3))) dX12_buildsLetters_34 (by rw [zl_497]; exact i9) rfl rfl ?_
      refine z_aload_n 0 dX12_buildsLetters_35 rfl rfl (Nat.le_of_ble_eq_true rfl) rfl ?_
      refine z_iload_n 1 dX12_buildsLetters_36 rfl rfl rfl ?_
      refine z_iload_n 3 dX12_buildsLetters_37 rfl rfl rfl ?_
      refine z_callVi vX12_blockEnd kX12_571 dX12_buildsLetters_38 rfl (zRo_d d) (as := [vi l1, vi l3]) (rest := [vi (h2 497 ((l1 * 128) + l3)), vr 12 466]) (Nat.le_of_ble_eq_true rfl) rfl rfl (zCi_mono (fun x3 h4 k => ?_) k)
      refine z_iconst dX12_buildsLetters_41 rfl ?_
      refine z_isub dX12_buildsLetters_42 rfl ?_
      refine z_callVv vX12_buildsRange kX12_506 dX12_buildsLetters_43 rfl (zRo_d d) (as := [vi (h2 497 ((l1 * 128) + l3)), vi (x3 - 1)]) (rest := []) (Nat.le_of_ble_eq_true rfl) rfl rfl (zCv_mono (fun h6 k => ?_) k)
      refine z_iinc dX12_buildsLetters_46 rfl (Nat.le_of_ble_eq_true rfl) (L' := [some (vr 12 466), some (vi l1), some (vi l2), some (vi (l3 + 1))]) rfl rfl ?_
      refine z_goto (tgt := 2) dX12_buildsLetters_49 rfl ?_
      exact z_sub (L' := [some (vr 12 466), some (vi l1), some (vi l2), some (vi (l3 + 1))]) (And.intro rfl (And.intro rfl (And.intro rfl (And.intro rfl trivial)))) k
theorem eX12_buildsLetters {G : zG} {d : Nat} {K : zH → Prop} {l1 : Int} {l2 : Int} {h : zH} (k : tX12_buildsLetters_0 G d K l1 l2 h) : zCv G (d + 1) mX12_buildsLetters [vr 12 466, vi l1, vi l2] h K := z_entry (by decide +kernel) (Nat.le_of_ble_eq_true rfl) rfl k
def tX12_buildsFrees_0 (G : zG) (d : Nat) (K : zH → Prop) (l1 : Int) (l2 : Int) (l3 : Bool) (h : zH) : Prop := zTv G (d + 1) mX12_buildsFrees K 0 [some (vr 12 466), some (vi l1), some (vi l2), some (vi (bi l3)), none] [] h
def tX12_buildsFrees_6 (G : zG) (d : Nat) (K : zH → Prop) (l1 : Int) (l2 : Int) (l3 : Bool) (l4 : Int) (h : zH) : Prop := zTv G (d + 1) mX12_buildsFrees K 6 [some (vr 12 466), some (vi l1), some (vi l2), some (vi (bi l3)), some (vi l4)] [] h
theorem bX12_buildsFrees_0 {G : zG} {d : Nat} {K : zH → Prop} {l1 : Int} {l2 : Int} {l3 : Bool} {h : zH} (k : tX12_buildsFrees_6 G d K l1 l2 l3 (l1 * 64) h) : tX12_buildsFrees_0 G d K l1 l2 l3 h := by
  unfold tX12_buildsFrees_0
  refine z_iload_n 1 dX12_buildsFrees_0 rfl rfl rfl ?_
  refine z_bipush dX12_buildsFrees_1 rfl rfl ?_
  refine z_imul dX12_buildsFrees_3 rfl ?_
  refine z_istore dX12_buildsFrees_4 (Nat.le_of_ble_eq_true rfl) (L' := [some (vr 12 466), some (vi l1), some (vi l2), some (vi (bi l3)), some (vi (l1 * 64))]) rfl rfl ?_
  exact z_sub (L' := [some (vr 12 466), some (vi l1), some (vi l2), some (vi (bi l3)), some (vi (l1 * 64))]) (And.intro rfl (And.intro rfl (And.intro rfl (And.intro rfl (And.intro rfl trivial))))) k
theorem bX12_buildsFrees_6 {G : zG} {d : Nat} {K : zH → Prop} {l1 : Int} {l2 : Int} {l3 : Bool} {l4 : Int} {h : zH} (k : ((0 : Int) ≤ l1 ∧ l1 < 14) ∧ zR l4 ∧ zR ((l1 * 64) + (h 495 l1)) ∧ (((l1 * 64) + (h 495 l1)) ≤ l4 → K h) ∧ (¬ ((l1 * 64) + (h 495 l1)) ≤ l4 → (l3 = false → ((0 : Int) ≤ l4 ∧ l4 < 896) ∧ (l3 = false → ((0 : Int) ≤ l4 ∧ l4 < 896) ∧ zCv G d mX12_buildsFree [vr 12 466, vi ((h 500 l4) + l2), vi ((h 501 l4) + l2)] h (fun h2 => tX12_buildsFrees_6 G d K l1 l2 l3 (l4 + 1) h2)) ∧ (l3 = true → ((0 : Int) ≤ l4 ∧ l4 < 896) ∧ zCv G d mX12_buildsFree [vr 12 466, vi ((h 500 l4) + l2), vi ((h 500 l4) + l2)] h (fun h4 => tX12_buildsFrees_6 G d K l1 l2 l3 (l4 + 1) h4))) ∧ (l3 = true → ((0 : Int) ≤ l4 ∧ l4 < 896) ∧ (l3 = false → ((0 : Int) ≤ l4 ∧ l4 < 896) ∧ zCv G d mX12_buildsFree [vr 12 466, vi ((h 501 l4) + l2), vi ((h 501 l4) + l2)] h (fun h6 => tX12_buildsFrees_6 G d K l1 l2 l3 (l4 + 1) h6)) ∧ (l3 = true → ((0 : Int) ≤ l4 ∧ l4 < 896) ∧ zCv G d mX12_buildsFree [vr 12 466, vi ((h 501 l4) + l2), vi ((h 500 l4) + l2)] h (fun h8 => tX12_buildsFrees_6 G d K l1 l2 l3 (l4 + 1) h8))))) : tX12_buildsFrees_6 G d K l1 l2 l3 l4 h := by
  unfold tX12_buildsFrees_6
  refine z_iload dX12_buildsFrees_6 rfl rfl ?_
  refine z_iload_n 1 dX12_buildsFrees_8 rfl rfl rfl ?_
  refine z_bipush dX12_buildsFrees_9 rfl rfl ?_
  refine z_imul dX12_buildsFrees_11 rfl ?_
  refine z_aload_n 0 dX12_buildsFrees_12 rfl rfl (Nat.le_of_ble_eq_true rfl) rfl ?_
  refine z_getF 12 13 (x := 495) fX12_100 rfl dX12_buildsFrees_13 rfl rfl ?_
  refine z_iload_n 1 dX12_buildsFrees_16 rfl rfl rfl ?_
  obtain ⟨i9, k⟩ := k
  refine z_iald (x := (h 495 l1)) dX12_buildsFrees_17 (by rw [zl_495]; exact i9) rfl rfl ?_
  refine z_iadd dX12_buildsFrees_18 rfl ?_
  obtain ⟨r1, r2, ka, kb⟩ := k
  refine z_icmp_ge (tgt := 78) dX12_buildsFrees_19 rfl r1 r2 rfl ⟨fun q => ?_, fun q => ?_⟩
  · have k := ka q
    exact z_return rfl dX12_buildsFrees_78 ⟨rfl, k⟩
  · have k := kb q
    refine z_aload_n 0 dX12_buildsFrees_22 rfl rfl (Nat.le_of_ble_eq_true rfl) rfl ?_
    refine z_iload_n 3 dX12_buildsFrees_23 rfl rfl rfl ?_
    obtain ⟨ka, kb⟩ := k
    refine z_ifb_eq (tgt := 37) dX12_buildsFrees_24 rfl rfl ⟨fun q => ?_, fun q => ?_⟩
    · have k := ka q
      refine z_aload_n 0 dX12_buildsFrees_37 rfl rfl (Nat.le_of_ble_eq_true rfl) rfl ?_
      refine z_getF 12 13 (x := 500) fX12_115 rfl dX12_buildsFrees_38 rfl rfl ?_
      refine z_iload dX12_buildsFrees_41 rfl rfl ?_
      obtain ⟨i9, k⟩ := k
      refine z_iald (x := (h 500 l4)) dX12_buildsFrees_43 (by rw [zl_500]; exact i9) rfl rfl ?_
      refine z_iload_n 2 dX12_buildsFrees_44 rfl rfl rfl ?_
      refine z_iadd dX12_buildsFrees_45 rfl ?_
      refine z_iload_n 3 dX12_buildsFrees_46 rfl rfl rfl ?_
      obtain ⟨ka, kb⟩ := k
      refine z_ifb_eq (tgt := 60) dX12_buildsFrees_47 rfl rfl ⟨fun q => ?_, fun q => ?_⟩
      · have k := ka q
        refine z_aload_n 0 dX12_buildsFrees_60 rfl rfl (Nat.le_of_ble_eq_true rfl) rfl ?_
        refine z_getF 12 13 (x := 501) fX12_118 rfl dX12_buildsFrees_61 rfl rfl ?_
        refine z_iload dX12_buildsFrees_64 rfl rfl ?_
        obtain ⟨i9, k⟩ := k
        refine z_iald (x := (h 501 l4)) dX12_buildsFrees_66 (by rw [zl_501]; exact i9) rfl rfl ?_
        refine z_iload_n 2 dX12_buildsFrees_67 rfl rfl rfl ?_
        refine z_iadd dX12_buildsFrees_68 rfl ?_
        refine z_callVv vX12_buildsFree kX12_509 dX12_buildsFrees_69 rfl (zRo_d d) (as := [vi ((h 500 l4) + l2), vi ((h 501 l4) + l2)]) (rest := []) (Nat.le_of_ble_eq_true rfl) rfl rfl (zCv_mono (fun h2 k => ?_) k)
        refine z_iinc dX12_buildsFrees_72 rfl (Nat.le_of_ble_eq_true rfl) (L' := [some (vr 12 466), some (vi l1), some (vi l2), some (vi (bi l3)), some (vi (l4 + 1))]) rfl rfl ?_
        refine z_goto (tgt := 6) dX12_buildsFrees_75 rfl ?_
        exact z_sub (L' := [some (vr 12 466), some (vi l1), some (vi l2), some (vi (bi l3)), some (vi (l4 + 1))]) (And.intro rfl (And.intro rfl (And.intro rfl (And.intro rfl (And.intro rfl trivial))))) k
      · have k := kb q
        refine z_aload_n 0 dX12_buildsFrees_50 rfl rfl (Nat.le_of_ble_eq_true rfl) rfl ?_
        refine z_getF 12 13 (x := 500) fX12_115 rfl dX12_buildsFrees_51 rfl rfl ?_
        refine z_iload dX12_buildsFrees_54 rfl rfl ?_
        obtain ⟨i9, k⟩ := k
        refine z_iald (x := (h 500 l4)) dX12_buildsFrees_56 (by rw [zl_500]; exact i9) rfl rfl ?_
        refine z_goto (tgt := 67) dX12_buildsFrees_57 rfl ?_
        refine z_iload_n 2 dX12_buildsFrees_67 rfl rfl rfl ?_
        refine z_iadd dX12_buildsFrees_68 rfl ?_
        refine z_callVv vX12_buildsFree kX12_509 dX12_buildsFrees_69 rfl (zRo_d d) (as := [vi ((h 500 l4) + l2), vi ((h 500 l4) + l2)]) (rest := []) (Nat.le_of_ble_eq_true rfl) rfl rfl (zCv_mono (fun h4 k => ?_) k)
        refine z_iinc dX12_buildsFrees_72 rfl (Nat.le_of_ble_eq_true rfl) (L' := [some (vr 12 466), some (vi l1), some (vi l2), some (vi (bi l3)), some (vi (l4 + 1))]) rfl rfl ?_
        refine z_goto (tgt := 6) dX12_buildsFrees_75 rfl ?_
        exact z_sub (L' := [some (vr 12 466), some (vi l1), some (vi l2), some (vi (bi l3)), some (vi (l4 + 1))]) (And.intro rfl (And.intro rfl (And.intro rfl (And.intro rfl (And.intro rfl trivial))))) k
    · have k := kb q
      refine z_aload_n 0 dX12_buildsFrees_27 rfl rfl (Nat.le_of_ble_eq_true rfl) rfl ?_
      refine z_getF 12 13 (x := 501) fX12_118 rfl dX12_buildsFrees_28 rfl rfl ?_
      refine z_iload dX12_buildsFrees_31 rfl rfl ?_
      obtain ⟨i9, k⟩ := k
      refine z_iald (x := (h 501 l4)) dX12_buildsFrees_33 (by rw [zl_501]; exact i9) rfl rfl ?_
      refine z_goto (tgt := 44) dX12_buildsFrees_34 rfl ?_
      refine z_iload_n 2 dX12_buildsFrees_44 rfl rfl rfl ?_
      refine z_iadd dX12_buildsFrees_45 rfl ?_
      refine z_iload_n 3 dX12_buildsFrees_46 rfl rfl rfl ?_
      obtain ⟨ka, kb⟩ := k
      refine z_ifb_eq (tgt := 60) dX12_buildsFrees_47 rfl rfl ⟨fun q => ?_, fun q => ?_⟩
      · have k := ka q
        refine z_aload_n 0 dX12_buildsFrees_60 rfl rfl (Nat.le_of_ble_eq_true rfl) rfl ?_
        refine z_getF 12 13 (x := 501) fX12_118 rfl dX12_buildsFrees_61 rfl rfl ?_
        refine z_iload dX12_buildsFrees_64 rfl rfl ?_
        obtain ⟨i9, k⟩ := k
        refine z_iald (x := (h 501 l4)) dX12_buildsFrees_66 (by rw [zl_501]; exact i9) rfl rfl ?_
        refine z_iload_n 2 dX12_buildsFrees_67 rfl rfl rfl ?_
        refine z_iadd dX12_buildsFrees_68 rfl ?_
        refine z_callVv vX12_buildsFree kX12_509 dX12_buildsFrees_69 rfl (zRo_d d) (as := [vi ((h 501 l4) + l2), vi ((h 501 l4) + l2)]) (rest := []) (Nat.le_of_ble_eq_true rfl) rfl rfl (zCv_mono (fun h6 k => ?_) k)
        refine z_iinc dX12_buildsFrees_72 rfl (Nat.le_of_ble_eq_true rfl) (L' := [some (vr 12 466), some (vi l1), some (vi l2), some (vi (bi l3)), some (vi (l4 + 1))]) rfl rfl ?_
        refine z_goto (tgt := 6) dX12_buildsFrees_75 rfl ?_
        exact z_sub (L' := [some (vr 12 466), some (vi l1), some (vi l2), some (vi (bi l3)), some (vi (l4 + 1))]) (And.intro rfl (And.intro rfl (And.intro rfl (And.intro rfl (And.intro rfl trivial))))) k
      · have k := kb q
        refine z_aload_n 0 dX12_buildsFrees_50 rfl rfl (Nat.le_of_ble_eq_true rfl) rfl ?_
        refine z_getF 12 13 (x := 500) fX12_115 rfl dX12_buildsFrees_51 rfl rfl ?_
        refine z_iload dX12_buildsFrees_54 rfl rfl ?_
        obtain ⟨i9, k⟩ := k
        refine z_iald (x := (h 500 l4)) dX12_buildsFrees_56 (by rw [zl_500]; exact i9) rfl rfl ?_
        refine z_goto (tgt := 67) dX12_buildsFrees_57 rfl ?_
        refine z_iload_n 2 dX12_buildsFrees_67 rfl rfl rfl ?_
        refine z_iadd dX12_buildsFrees_68 rfl ?_
        refine z_callVv vX12_buildsFree kX12_509 dX12_buildsFrees_69 rfl (zRo_d d) (as := [vi ((h 501 l4) + l2), vi ((h 500 l4) + l2)]) (rest := []) (Nat.le_of_ble_eq_true rfl) rfl rfl (zCv_mono (fun h8 k => ?_) k)
        refine z_iinc dX12_buildsFrees_72 rfl (Nat.le_of_ble_eq_true rfl) (L' := [some (vr 12 466), some (vi l1), some (vi l2), some (vi (bi l3)), some (vi (l4 + 1))]) rfl rfl ?_
        refine z_goto (tgt := 6) dX12_buildsFrees_75 rfl ?_
        exact z_sub (L' := [some (vr 12 466), some (vi l1), some (vi l2), some (vi (bi l3)), some (vi (l4 + 1))]) (And.intro rfl (And.intro rfl (And.intro rfl (And.intro rfl (And.intro rfl trivial))))) k
theorem eX12_buildsFrees {G : zG} {d : Nat} {K : zH → Prop} {l1 : Int} {l2 : Int} {l3 : Bool} {h : zH} (k : tX12_buildsFrees_0 G d K l1 l2 l3 h) : zCv G (d + 1) mX12_buildsFrees [vr 12 466, vi l1, vi l2, vi (bi l3)] h K := z_entry (by decide +kernel) (Nat.le_of_ble_eq_true rfl) rfl k
def tX12_behind_0 (G : zG) (d : Nat) (K : Int → zH → Prop) (l1 : Int) (l2 : Int) (h : zH) : Prop := zTi G (d + 1) mX12_behind K 0 [some (vr 12 466), some (vi l1), some (vi l2), none, none, none] [] h
def tX12_behind_99 (G : zG) (d : Nat) (K : Int → zH → Prop) (l1 : Int) (l2 : Int) (l4 : Int) (l5 : Int) (h : zH) : Prop := zTi G (d + 1) mX12_behind K 99 [some (vr 12 466), some (vi l1), some (vi l2), none, some (vi l4), some (vi l5)] [] h
theorem bX12_behind_0 {G : zG} {d : Nat} {K : Int → zH → Prop} {l1 : Int} {l2 : Int} {h : zH} (k : zCi G d mX12_refusesTwo [vr 12 466, vi l1, vi l2, vi 0] (zup h 466 0 0) (fun x1 h2 => zR x1 ∧ (¬ x1 = 0 → zR x1 ∧ (x1 ≤ 0 → ((0 : Int) ≤ l1 ∧ l1 < 14) ∧ ((0 : Int) ≤ l2 ∧ l2 < 14) ∧ zCv G d mX12_builds [vr 12 466, vi ((h2 493 l1) + (h2 493 l2))] h2 (fun h4 => zR (h4 466 51) ∧ ((h4 466 51) = 0 → zCv G d mX12_buildsEdges [vr 12 466, vi l1, vi 0, vi (bi false)] h4 (fun h6 => zCv G d mX12_buildsEdges [vr 12 466, vi l2, vi (h2 493 l1), vi (bi false)] h6 (fun h8 => zCv G d mX12_buildsFrees [vr 12 466, vi l1, vi 0, vi (bi false)] h8 (fun h10 => zCv G d mX12_buildsFrees [vr 12 466, vi l2, vi (h2 493 l1), vi (bi false)] h10 (fun h12 => tX12_behind_99 G d K l1 l2 (h2 493 l1) 0 h12))))) ∧ (¬ (h4 466 51) = 0 → zCi G d mX12_refused [vr 12 466, vi 3] h4 (fun x13 h14 => K x13 h14)))) ∧ (¬ x1 ≤ 0 → zCi G d mX12_refused [vr 12 466, vi x1] h2 (fun x15 h16 => K x15 h16))) ∧ (x1 = 0 → zCi G d mX12_mostMachines [vr 12 466] h2 (fun x17 h18 => zR x17 ∧ (x17 ≤ 0 → ((0 : Int) ≤ l1 ∧ l1 < 14) ∧ ((0 : Int) ≤ l2 ∧ l2 < 14) ∧ zCv G d mX12_builds [vr 12 466, vi ((h18 493 l1) + (h18 493 l2))] h18 (fun h20 => zR (h20 466 51) ∧ ((h20 466 51) = 0 → zCv G d mX12_buildsEdges [vr 12 466, vi l1, vi 0, vi (bi false)] h20 (fun h22 => zCv G d mX12_buildsEdges [vr 12 466, vi l2, vi (h18 493 l1), vi (bi false)] h22 (fun h24 => zCv G d mX12_buildsFrees [vr 12 466, vi l1, vi 0, vi (bi false)] h24 (fun h26 => zCv G d mX12_buildsFrees [vr 12 466, vi l2, vi (h18 493 l1), vi (bi false)] h26 (fun h28 => tX12_behind_99 G d K l1 l2 (h18 493 l1) 0 h28))))) ∧ (¬ (h20 466 51) = 0 → zCi G d mX12_refused [vr 12 466, vi 3] h20 (fun x29 h30 => K x29 h30)))) ∧ (¬ x17 ≤ 0 → zCi G d mX12_refused [vr 12 466, vi x17] h18 (fun x31 h32 => K x31 h32)))))) : tX12_behind_0 G d K l1 l2 h := by
  unfold tX12_behind_0
  refine z_aload_n 0 dX12_behind_0 rfl rfl (Nat.le_of_ble_eq_true rfl) rfl ?_
  refine z_iconst dX12_behind_1 rfl ?_
  refine z_putI 12 gX12_190 dX12_behind_2 rfl ?_
  refine z_aload_n 0 dX12_behind_5 rfl rfl (Nat.le_of_ble_eq_true rfl) rfl ?_
  refine z_iload_n 1 dX12_behind_6 rfl rfl rfl ?_
  refine z_iload_n 2 dX12_behind_7 rfl rfl rfl ?_
  refine z_iconst dX12_behind_8 rfl ?_
  refine z_callVi vX12_refusesTwo kX12_663 dX12_behind_9 rfl (zRo_d d) (as := [vi l1, vi l2, vi 0]) (rest := []) (Nat.le_of_ble_eq_true rfl) rfl rfl (zCi_mono (fun x1 h2 k => ?_) k)
  refine z_istore_n 3 dX12_behind_12 rfl (Nat.le_of_ble_eq_true rfl) (L' := [some (vr 12 466), some (vi l1), some (vi l2), some (vi x1), none, none]) rfl rfl ?_
  refine z_iload_n 3 dX12_behind_13 rfl rfl rfl ?_
  obtain ⟨r1, ka, kb⟩ := k
  refine z_if_ne (tgt := 22) dX12_behind_14 rfl r1 rfl ⟨fun q => ?_, fun q => ?_⟩
  · have k := ka q
    refine z_iload_n 3 dX12_behind_22 rfl rfl rfl ?_
    obtain ⟨r1, ka, kb⟩ := k
    refine z_if_le (tgt := 32) dX12_behind_23 rfl r1 rfl ⟨fun q => ?_, fun q => ?_⟩
    · have k := ka q
      refine z_aload_n 0 dX12_behind_32 rfl rfl (Nat.le_of_ble_eq_true rfl) rfl ?_
      refine z_getF 12 13 (x := 493) fX12_94 rfl dX12_behind_33 rfl rfl ?_
      refine z_iload_n 1 dX12_behind_36 rfl rfl rfl ?_
      obtain ⟨i9, k⟩ := k
      refine z_iald (x := (h2 493 l1)) dX12_behind_37 (by rw [zl_493]; exact i9) rfl rfl ?_
      refine z_istore dX12_behind_38 (Nat.le_of_ble_eq_true rfl) (L' := [some (vr 12 466), some (vi l1), some (vi l2), some (vi x1), some (vi (h2 493 l1)), none]) rfl rfl ?_
      refine z_aload_n 0 dX12_behind_40 rfl rfl (Nat.le_of_ble_eq_true rfl) rfl ?_
      refine z_iload dX12_behind_41 rfl rfl ?_
      refine z_aload_n 0 dX12_behind_43 rfl rfl (Nat.le_of_ble_eq_true rfl) rfl ?_
      refine z_getF 12 13 (x := 493) fX12_94 rfl dX12_behind_44 rfl rfl ?_
      refine z_iload_n 2 dX12_behind_47 rfl rfl rfl ?_
      obtain ⟨i9, k⟩ := k
      refine z_iald (x := (h2 493 l2)) dX12_behind_48 (by rw [zl_493]; exact i9) rfl rfl ?_
      refine z_iadd dX12_behind_49 rfl ?_
      refine z_callVv vX12_builds kX12_500 dX12_behind_50 rfl (zRo_d d) (as := [vi ((h2 493 l1) + (h2 493 l2))]) (rest := []) (Nat.le_of_ble_eq_true rfl) rfl rfl (zCv_mono (fun h4 k => ?_) k)
      refine z_aload_n 0 dX12_behind_53 rfl rfl (Nat.le_of_ble_eq_true rfl) rfl ?_
      refine z_getZ 12 (x := (h4 466 51)) fX12_496 rfl dX12_behind_54 rfl rfl ?_
      obtain ⟨r1, ka, kb⟩ := k
      refine z_if_eq (tgt := 66) dX12_behind_57 rfl r1 rfl ⟨fun q => ?_, fun q => ?_⟩
      · have k := ka q
        refine z_aload_n 0 dX12_behind_66 rfl rfl (Nat.le_of_ble_eq_true rfl) rfl ?_
        refine z_iload_n 1 dX12_behind_67 rfl rfl rfl ?_
        refine z_iconst dX12_behind_68 rfl ?_
        refine z_iconst dX12_behind_69 rfl ?_
        refine z_callVv vX12_buildsEdges kX12_692 dX12_behind_70 rfl (zRo_d d) (as := [vi l1, vi 0, vi (bi false)]) (rest := []) (Nat.le_of_ble_eq_true rfl) rfl rfl (zCv_mono (fun h6 k => ?_) k)
        refine z_aload_n 0 dX12_behind_73 rfl rfl (Nat.le_of_ble_eq_true rfl) rfl ?_
        refine z_iload_n 2 dX12_behind_74 rfl rfl rfl ?_
        refine z_iload dX12_behind_75 rfl rfl ?_
        refine z_iconst dX12_behind_77 rfl ?_
        refine z_callVv vX12_buildsEdges kX12_692 dX12_behind_78 rfl (zRo_d d) (as := [vi l2, vi (h2 493 l1), vi (bi false)]) (rest := []) (Nat.le_of_ble_eq_true rfl) rfl rfl (zCv_mono (fun h8 k => ?_) k)
        refine z_aload_n 0 dX12_behind_81 rfl rfl (Nat.le_of_ble_eq_true rfl) rfl ?_
        refine z_iload_n 1 dX12_behind_82 rfl rfl rfl ?_
        refine z_iconst dX12_behind_83 rfl ?_
        refine z_iconst dX12_behind_84 rfl ?_
        refine z_callVv vX12_buildsFrees kX12_696 dX12_behind_85 rfl (zRo_d d) (as := [vi l1, vi 0, vi (bi false)]) (rest := []) (Nat.le_of_ble_eq_true rfl) rfl rfl (zCv_mono (fun h10 k => ?_) k)
        refine z_aload_n 0 dX12_behind_88 rfl rfl (Nat.le_of_ble_eq_true rfl) rfl ?_
        refine z_iload_n 2 dX12_behind_89 rfl rfl rfl ?_
        refine z_iload dX12_behind_90 rfl rfl ?_
        refine z_iconst dX12_behind_92 rfl ?_
        refine z_callVv vX12_buildsFrees kX12_696 dX12_behind_93 rfl (zRo_d d) (as := [vi l2, vi (h2 493 l1), vi (bi false)]) (rest := []) (Nat.le_of_ble_eq_true rfl) rfl rfl (zCv_mono (fun h12 k => ?_) k)
        refine z_iconst dX12_behind_96 rfl ?_
        refine z_istore dX12_behind_97 (Nat.le_of_ble_eq_true rfl) (L' := [some (vr 12 466), some (vi l1), some (vi l2), some (vi x1), some (vi (h2 493 l1)), some (vi 0)]) rfl rfl ?_
        exact z_sub (L' := [some (vr 12 466), some (vi l1), some (vi l2), none, some (vi (h2 493 l1)), some (vi 0)]) (And.intro rfl (And.intro rfl (And.intro rfl (And.intro rfl (And.intro rfl trivial))))) k
      · have k := kb q
        refine z_aload_n 0 dX12_behind_60 rfl rfl (Nat.le_of_ble_eq_true rfl) rfl ?_
        refine z_iconst dX12_behind_61 rfl ?_
        refine z_callVi vX12_refused kX12_426 dX12_behind_62 rfl (zRo_d d) (as := [vi 3]) (rest := []) (Nat.le_of_ble_eq_true rfl) rfl rfl (zCi_mono (fun x13 h14 k => ?_) k)
        exact z_ireturn rfl dX12_behind_65 ⟨_, rfl, k⟩
    · have k := kb q
      refine z_aload_n 0 dX12_behind_26 rfl rfl (Nat.le_of_ble_eq_true rfl) rfl ?_
      refine z_iload_n 3 dX12_behind_27 rfl rfl rfl ?_
      refine z_callVi vX12_refused kX12_426 dX12_behind_28 rfl (zRo_d d) (as := [vi x1]) (rest := []) (Nat.le_of_ble_eq_true rfl) rfl rfl (zCi_mono (fun x15 h16 k => ?_) k)
      exact z_ireturn rfl dX12_behind_31 ⟨_, rfl, k⟩
  · have k := kb q
    refine z_aload_n 0 dX12_behind_17 rfl rfl (Nat.le_of_ble_eq_true rfl) rfl ?_
    refine z_callVi vX12_mostMachines kX12_672 dX12_behind_18 rfl (zRo_d d) (as := []) (rest := []) (Nat.le_of_ble_eq_true rfl) rfl rfl (zCi_mono (fun x17 h18 k => ?_) k)
    refine z_istore_n 3 dX12_behind_21 rfl (Nat.le_of_ble_eq_true rfl) (L' := [some (vr 12 466), some (vi l1), some (vi l2), some (vi x17), none, none]) rfl rfl ?_
    refine z_iload_n 3 dX12_behind_22 rfl rfl rfl ?_
    obtain ⟨r1, ka, kb⟩ := k
    refine z_if_le (tgt := 32) dX12_behind_23 rfl r1 rfl ⟨fun q => ?_, fun q => ?_⟩
    · have k := ka q
      refine z_aload_n 0 dX12_behind_32 rfl rfl (Nat.le_of_ble_eq_true rfl) rfl ?_
      refine z_getF 12 13 (x := 493) fX12_94 rfl dX12_behind_33 rfl rfl ?_
      refine z_iload_n 1 dX12_behind_36 rfl rfl rfl ?_
      obtain ⟨i9, k⟩ := k
      refine z_iald (x := (h18 493 l1)) dX12_behind_37 (by rw [zl_493]; exact i9) rfl rfl ?_
      refine z_istore dX12_behind_38 (Nat.le_of_ble_eq_true rfl) (L' := [some (vr 12 466), some (vi l1), some (vi l2), some (vi x17), some (vi (h18 493 l1)), none]) rfl rfl ?_
      refine z_aload_n 0 dX12_behind_40 rfl rfl (Nat.le_of_ble_eq_true rfl) rfl ?_
      refine z_iload dX12_behind_41 rfl rfl ?_
      refine z_aload_n 0 dX12_behind_43 rfl rfl (Nat.le_of_ble_eq_true rfl) rfl ?_
      refine z_getF 12 13 (x := 493) fX12_94 rfl dX12_behind_44 rfl rfl ?_
      refine z_iload_n 2 dX12_behind_47 rfl rfl rfl ?_
      obtain ⟨i9, k⟩ := k
      refine z_iald (x := (h18 493 l2)) dX12_behind_48 (by rw [zl_493]; exact i9) rfl rfl ?_
      refine z_iadd dX12_behind_49 rfl ?_
      refine z_callVv vX12_builds kX12_500 dX12_behind_50 rfl (zRo_d d) (as := [vi ((h18 493 l1) + (h18 493 l2))]) (rest := []) (Nat.le_of_ble_eq_true rfl) rfl rfl (zCv_mono (fun h20 k => ?_) k)
      refine z_aload_n 0 dX12_behind_53 rfl rfl (Nat.le_of_ble_eq_true rfl) rfl ?_
      refine z_getZ 12 (x := (h20 466 51)) fX12_496 rfl dX12_behind_54 rfl rfl ?_
      obtain ⟨r1, ka, kb⟩ := k
      refine z_if_eq (tgt := 66) dX12_behind_57 rfl r1 rfl ⟨fun q => ?_, fun q => ?_⟩
      · have k := ka q
        refine z_aload_n 0 dX12_behind_66 rfl rfl (Nat.le_of_ble_eq_true rfl) rfl ?_
        refine z_iload_n 1 dX12_behind_67 rfl rfl rfl ?_
        refine z_iconst dX12_behind_68 rfl ?_
        refine z_iconst dX12_behind_69 rfl ?_
        refine z_callVv vX12_buildsEdges kX12_692 dX12_behind_70 rfl (zRo_d d) (as := [vi l1, vi 0, vi (bi false)]) (rest := []) (Nat.le_of_ble_eq_true rfl) rfl rfl (zCv_mono (fun h22 k => ?_) k)
        refine z_aload_n 0 dX12_behind_73 rfl rfl (Nat.le_of_ble_eq_true rfl) rfl ?_
        refine z_iload_n 2 dX12_behind_74 rfl rfl rfl ?_
        refine z_iload dX12_behind_75 rfl rfl ?_
        refine z_iconst dX12_behind_77 rfl ?_
        refine z_callVv vX12_buildsEdges kX12_692 dX12_behind_78 rfl (zRo_d d) (as := [vi l2, vi (h18 493 l1), vi (bi false)]) (rest := []) (Nat.le_of_ble_eq_true rfl) rfl rfl (zCv_mono (fun h24 k => ?_) k)
        refine z_aload_n 0 dX12_behind_81 rfl rfl (Nat.le_of_ble_eq_true rfl) rfl ?_
        refine z_iload_n 1 dX12_behind_82 rfl rfl rfl ?_
        refine z_iconst dX12_behind_83 rfl ?_
        refine z_iconst dX12_behind_84 rfl ?_
        refine z_callVv vX12_buildsFrees kX12_696 dX12_behind_85 rfl (zRo_d d) (as := [vi l1, vi 0, vi (bi false)]) (rest := []) (Nat.le_of_ble_eq_true rfl) rfl rfl (zCv_mono (fun h26 k => ?_) k)
        refine z_aload_n 0 dX12_behind_88 rfl rfl (Nat.le_of_ble_eq_true rfl) rfl ?_
        refine z_iload_n 2 dX12_behind_89 rfl rfl rfl ?_
        refine z_iload dX12_behind_90 rfl rfl ?_
        refine z_iconst dX12_behind_92 rfl ?_
        refine z_callVv vX12_buildsFrees kX12_696 dX12_behind_93 rfl (zRo_d d) (as := [vi l2, vi (h18 493 l1), vi (bi false)]) (rest := []) (Nat.le_of_ble_eq_true rfl) rfl rfl (zCv_mono (fun h28 k => ?_) k)
        refine z_iconst dX12_behind_96 rfl ?_
        refine z_istore dX12_behind_97 (Nat.le_of_ble_eq_true rfl) (L' := [some (vr 12 466), some (vi l1), some (vi l2), some (vi x17), some (vi (h18 493 l1)), some (vi 0)]) rfl rfl ?_
        exact z_sub (L' := [some (vr 12 466), some (vi l1), some (vi l2), none, some (vi (h18 493 l1)), some (vi 0)]) (And.intro rfl (And.intro rfl (And.intro rfl (And.intro rfl (And.intro rfl trivial))))) k
      · have k := kb q
        refine z_aload_n 0 dX12_behind_60 rfl rfl (Nat.le_of_ble_eq_true rfl) rfl ?_
        refine z_iconst dX12_behind_61 rfl ?_
        refine z_callVi vX12_refused kX12_426 dX12_behind_62 rfl (zRo_d d) (as := [vi 3]) (rest := []) (Nat.le_of_ble_eq_true rfl) rfl rfl (zCi_mono (fun x29 h30 k => ?_) k)
        exact z_ireturn rfl dX12_behind_65 ⟨_, rfl, k⟩
    · have k := kb q
      refine z_aload_n 0 dX12_behind_26 rfl rfl (Nat.le_of_ble_eq_true rfl) rfl ?_
      refine z_iload_n 3 dX12_behind_27 rfl rfl rfl ?_
      refine z_callVi vX12_refused kX12_426 dX12_behind_28 rfl (zRo_d d) (as := [vi x17]) (rest := []) (Nat.le_of_ble_eq_true rfl) rfl rfl (zCi_mono (fun x31 h32 k => ?_) k)
      exact z_ireturn rfl dX12_behind_31 ⟨_, rfl, k⟩
theorem bX12_behind_99 {G : zG} {d : Nat} {K : Int → zH → Prop} {l1 : Int} {l2 : Int} {l4 : Int} {l5 : Int} {h : zH} (k : zR l5 ∧ zR l4 ∧ (l4 ≤ l5 → ((0 : Int) ≤ l2 ∧ l2 < 14) ∧ zCi G d mX12_makes [vr 12 466] (zup h 466 50 (zlshl (h 502 l2) l4)) (fun x1 h2 => K x1 h2)) ∧ (¬ l4 ≤ l5 → ((0 : Int) ≤ l1 ∧ l1 < 14) ∧ zCb G d mX12_bit [vl (h 502 l1), vi l5] h (fun x3 h4 => (x3 = false → tX12_behind_99 G d K l1 l2 l4 (l5 + 1) h4) ∧ (x3 = true → zCv G d mX12_buildsFree [vr 12 466, vi l5, vi l4] h4 (fun h6 => tX12_behind_99 G d K l1 l2 l4 (l5 + 1) h6))))) : tX12_behind_99 G d K l1 l2 l4 l5 h := by
  unfold tX12_behind_99
  refine z_iload dX12_behind_99 rfl rfl ?_
  refine z_iload dX12_behind_101 rfl rfl ?_
  obtain ⟨r1, r2, ka, kb⟩ := k
  refine z_icmp_ge (tgt := 134) dX12_behind_103 rfl r1 r2 rfl ⟨fun q => ?_, fun q => ?_⟩
  · have k := ka q
    refine z_aload_n 0 dX12_behind_134 rfl rfl (Nat.le_of_ble_eq_true rfl) rfl ?_
    refine z_aload_n 0 dX12_behind_135 rfl rfl (Nat.le_of_ble_eq_true rfl) rfl ?_
    refine z_getF 12 14 (x := 502) fX12_121 rfl dX12_behind_136 rfl rfl ?_
    refine z_iload_n 2 dX12_behind_139 rfl rfl rfl ?_
    obtain ⟨i9, k⟩ := k
    refine z_lald (x := (h 502 l2)) dX12_behind_140 (by rw [zl_502]; exact i9) rfl rfl ?_
    refine z_iload dX12_behind_141 rfl rfl ?_
    refine z_lshl dX12_behind_143 rfl ?_
    refine z_putL 12 gX12_493 dX12_behind_144 rfl ?_
    refine z_aload_n 0 dX12_behind_147 rfl rfl (Nat.le_of_ble_eq_true rfl) rfl ?_
    refine z_callVi vX12_makes kX12_682 dX12_behind_148 rfl (zRo_d d) (as := []) (rest := []) (Nat.le_of_ble_eq_true rfl) rfl rfl (zCi_mono (fun x1 h2 k => ?_) k)
    exact z_ireturn rfl dX12_behind_151 ⟨_, rfl, k⟩
  · have k := kb q
    refine z_aload_n 0 dX12_behind_106 rfl rfl (Nat.le_of_ble_eq_true rfl) rfl ?_
    refine z_getF 12 14 (x := 502) fX12_121 rfl dX12_behind_107 rfl rfl ?_
    refine z_iload_n 1 dX12_behind_110 rfl rfl rfl ?_
    obtain ⟨i9, k⟩ := k
    refine z_lald (x := (h 502 l1)) dX12_behind_111 (by rw [zl_502]; exact i9) rfl rfl ?_
    refine z_iload dX12_behind_112 rfl rfl ?_
    refine z_callSb sX12_bit kX12_366 dX12_behind_114 rfl (zRo_d d) (as := [vl (h 502 l1), vi l5]) (rest := []) (Nat.le_of_ble_eq_true rfl) rfl rfl (zCb_mono (fun x3 h4 k => ?_) k)
    obtain ⟨ka, kb⟩ := k
    refine z_ifb_eq (tgt := 128) dX12_behind_117 rfl rfl ⟨fun q => ?_, fun q => ?_⟩
    · have k := ka q
      refine z_iinc dX12_behind_128 rfl (Nat.le_of_ble_eq_true rfl) (L' := [some (vr 12 466), some (vi l1), some (vi l2), none, some (vi l4), some (vi (l5 + 1))]) rfl rfl ?_
      refine z_goto (tgt := 99) dX12_behind_131 rfl ?_
      exact z_sub (L' := [some (vr 12 466), some (vi l1), some (vi l2), none, some (vi l4), some (vi (l5 + 1))]) (And.intro rfl (And.intro rfl (And.intro rfl (And.intro rfl (And.intro rfl trivial))))) k
    · have k := kb q
      refine z_aload_n 0 dX12_behind_120 rfl rfl (Nat.le_of_ble_eq_true rfl) rfl ?_
      refine z_iload dX12_behind_121 rfl rfl ?_
      refine z_iload dX12_behind_123 rfl rfl ?_
      refine z_callVv vX12_buildsFree kX12_509 dX12_behind_125 rfl (zRo_d d) (as := [vi l5, vi l4]) (rest := []) (Nat.le_of_ble_eq_true rfl) rfl rfl (zCv_mono (fun h6 k => ?_) k)
      refine z_iinc dX12_behind_128 rfl (Nat.le_of_ble_eq_true rfl) (L' := [some (vr 12 466), some (vi l1), some (vi l2), none, some (vi l4), some (vi (l5 + 1))]) rfl rfl ?_
      refine z_goto (tgt := 99) dX12_behind_131 rfl ?_
      exact z_sub (L' := [some (vr 12 466), some (vi l1), some (vi l2), none, some (vi l4), some (vi (l5 + 1))]) (And.intro rfl (And.intro rfl (And.intro rfl (And.intro rfl (And.intro rfl trivial))))) k
theorem eX12_behind {G : zG} {d : Nat} {K : Int → zH → Prop} {l1 : Int} {l2 : Int} {h : zH} (k : tX12_behind_0 G d K l1 l2 h) : zCi G (d + 1) mX12_behind [vr 12 466, vi l1, vi l2] h K := z_entry (by decide +kernel) (Nat.le_of_ble_eq_true rfl) rfl k
def tX12_again_0 (G : zG) (d : Nat) (K : Int → zH → Prop) (l1 : Int) (h : zH) : Prop := zTi G (d + 1) mX12_again K 0 [some (vr 12 466), some (vi l1), none, none] [] h
def tX12_again_41 (G : zG) (d : Nat) (K : Int → zH → Prop) (l1 : Int) (l3 : Int) (h : zH) : Prop := zTi G (d + 1) mX12_again K 41 [some (vr 12 466), some (vi l1), none, some (vi l3)] [] h
theorem bX12_again_0 {G : zG} {d : Nat} {K : Int → zH → Prop} {l1 : Int} {h : zH} (k : zCi G d mX12_refusesOne [vr 12 466, vi l1] (zup h 466 0 0) (fun x1 h2 => zR x1 ∧ (x1 ≤ 0 → ((0 : Int) ≤ l1 ∧ l1 < 14) ∧ zCv G d mX12_builds [vr 12 466, vi ((h2 493 l1) + 1)] h2 (fun h4 => zCv G d mX12_buildsFree [vr 12 466, vi 0, vi 1] h4 (fun h6 => tX12_again_41 G d K l1 0 h6))) ∧ (¬ x1 ≤ 0 → zCi G d mX12_refused [vr 12 466, vi x1] h2 (fun x7 h8 => K x7 h8)))) : tX12_again_0 G d K l1 h := by
  unfold tX12_again_0
  refine z_aload_n 0 dX12_again_0 rfl rfl (Nat.le_of_ble_eq_true rfl) rfl ?_
  refine z_iconst dX12_again_1 rfl ?_
  refine z_putI 12 gX12_190 dX12_again_2 rfl ?_
  refine z_aload_n 0 dX12_again_5 rfl rfl (Nat.le_of_ble_eq_true rfl) rfl ?_
  refine z_iload_n 1 dX12_again_6 rfl rfl rfl ?_
  refine z_callVi vX12_refusesOne kX12_675 dX12_again_7 rfl (zRo_d d) (as := [vi l1]) (rest := []) (Nat.le_of_ble_eq_true rfl) rfl rfl (zCi_mono (fun x1 h2 k => ?_) k)
  refine z_istore_n 2 dX12_again_10 rfl (Nat.le_of_ble_eq_true rfl) (L' := [some (vr 12 466), some (vi l1), some (vi x1), none]) rfl rfl ?_
  refine z_iload_n 2 dX12_again_11 rfl rfl rfl ?_
  obtain ⟨r1, ka, kb⟩ := k
  refine z_if_le (tgt := 21) dX12_again_12 rfl r1 rfl ⟨fun q => ?_, fun q => ?_⟩
  · have k := ka q
    refine z_aload_n 0 dX12_again_21 rfl rfl (Nat.le_of_ble_eq_true rfl) rfl ?_
    refine z_aload_n 0 dX12_again_22 rfl rfl (Nat.le_of_ble_eq_true rfl) rfl ?_
    refine z_getF 12 13 (x := 493) fX12_94 rfl dX12_again_23 rfl rfl ?_
    refine z_iload_n 1 dX12_again_26 rfl rfl rfl ?_
    obtain ⟨i9, k⟩ := k
    refine z_iald (x := (h2 493 l1)) dX12_again_27 (by rw [zl_493]; exact i9) rfl rfl ?_
    refine z_iconst dX12_again_28 rfl ?_
    refine z_iadd dX12_again_29 rfl ?_
    refine z_callVv vX12_builds kX12_500 dX12_again_30 rfl (zRo_d d) (as := [vi ((h2 493 l1) + 1)]) (rest := []) (Nat.le_of_ble_eq_true rfl) rfl rfl (zCv_mono (fun h4 k => ?_) k)
    refine z_aload_n 0 dX12_again_33 rfl rfl (Nat.le_of_ble_eq_true rfl) rfl ?_
    refine z_iconst dX12_again_34 rfl ?_
    refine z_iconst dX12_again_35 rfl ?_
    refine z_callVv vX12_buildsFree kX12_509 dX12_again_36 rfl (zRo_d d) (as := [vi 0, vi 1]) (rest := []) (Nat.le_of_ble_eq_true rfl) rfl rfl (zCv_mono (fun h6 k => ?_) k)
    refine z_iconst dX12_again_39 rfl ?_
    refine z_istore_n 3 dX12_again_40 rfl (Nat.le_of_ble_eq_true rfl) (L' := [some (vr 12 466), some (vi l1), some (vi x1), some (vi 0)]) rfl rfl ?_
    exact z_sub (L' := [some (vr 12 466), some (vi l1), none, some (vi 0)]) (And.intro rfl (And.intro rfl (And.intro rfl trivial))) k
  · have k := kb q
    refine z_aload_n 0 dX12_again_15 rfl rfl (Nat.le_of_ble_eq_true rfl) rfl ?_
    refine z_iload_n 2 dX12_again_16 rfl rfl rfl ?_
    refine z_callVi vX12_refused kX12_426 dX12_again_17 rfl (zRo_d d) (as := [vi x1]) (rest := []) (Nat.le_of_ble_eq_true rfl) rfl rfl (zCi_mono (fun x7 h8 k => ?_) k)
    exact z_ireturn rfl dX12_again_20 ⟨_, rfl, k⟩
theorem bX12_again_41 {G : zG} {d : Nat} {K : Int → zH → Prop} {l1 : Int} {l3 : Int} {h : zH} (k : ((0 : Int) ≤ l1 ∧ l1 < 14) ∧ zR l3 ∧ zR (h 493 l1) ∧ ((h 493 l1) ≤ l3 → zCv G d mX12_buildsFrees [vr 12 466, vi l1, vi 1, vi (bi false)] h (fun h2 => zCv G d mX12_buildsEdges [vr 12 466, vi l1, vi 1, vi (bi false)] h2 (fun h4 => zCi G d mX12_makes [vr 12 466] (zup h4 466 50 1) (fun x5 h6 => K x5 h6)))) ∧ (¬ (h 493 l1) ≤ l3 → ((0 : Int) ≤ l1 ∧ l1 < 14) ∧ zCb G d mX12_bit [vl (h 502 l1), vi l3] h (fun x7 h8 => (x7 = false → tX12_again_41 G d K l1 (l3 + 1) h8) ∧ (x7 = true → zCv G d mX12_buildsFree [vr 12 466, vi (l3 + 1), vi 0] h8 (fun h10 => tX12_again_41 G d K l1 (l3 + 1) h10))))) : tX12_again_41 G d K l1 l3 h := by
  unfold tX12_again_41
  refine z_iload_n 3 dX12_again_41 rfl rfl rfl ?_
  refine z_aload_n 0 dX12_again_42 rfl rfl (Nat.le_of_ble_eq_true rfl) rfl ?_
  refine z_getF 12 13 (x := 493) fX12_94 rfl dX12_again_43 rfl rfl ?_
  refine z_iload_n 1 dX12_again_46 rfl rfl rfl ?_
  obtain ⟨i9, k⟩ := k
  refine z_iald (x := (h 493 l1)) dX12_again_47 (by rw [zl_493]; exact i9) rfl rfl ?_
  obtain ⟨r1, r2, ka, kb⟩ := k
  refine z_icmp_ge (tgt := 78) dX12_again_48 rfl r1 r2 rfl ⟨fun q => ?_, fun q => ?_⟩
  · have k := ka q
    refine z_aload_n 0 dX12_again_78 rfl rfl (Nat.le_of_ble_eq_true rfl) rfl ?_
    refine z_iload_n 1 dX12_again_79 rfl rfl rfl ?_
    refine z_iconst dX12_again_80 rfl ?_
    refine z_iconst dX12_again_81 rfl ?_
    refine z_callVv vX12_buildsFrees kX12_696 dX12_again_82 rfl (zRo_d d) (as := [vi l1, vi 1, vi (bi false)]) (rest := []) (Nat.le_of_ble_eq_true rfl) rfl rfl (zCv_mono (fun h2 k => ?_) k)
    refine z_aload_n 0 dX12_again_85 rfl rfl (Nat.le_of_ble_eq_true rfl) rfl ?_
    refine z_iload_n 1 dX12_again_86 rfl rfl rfl ?_
    refine z_iconst dX12_again_87 rfl ?_
    refine z_iconst dX12_again_88 rfl ?_
    refine z_callVv vX12_buildsEdges kX12_692 dX12_again_89 rfl (zRo_d d) (as := [vi l1, vi 1, vi (bi false)]) (rest := []) (Nat.le_of_ble_eq_true rfl) rfl rfl (zCv_mono (fun h4 k => ?_) k)
    refine z_aload_n 0 dX12_again_92 rfl rfl (Nat.le_of_ble_eq_true rfl) rfl ?_
    refine z_lconst (x := 1) dX12_again_93 rfl rfl ?_
    refine z_putL 12 gX12_493 dX12_again_94 rfl ?_
    refine z_aload_n 0 dX12_again_97 rfl rfl (Nat.le_of_ble_eq_true rfl) rfl ?_
    refine z_callVi vX12_makes kX12_682 dX12_again_98 rfl (zRo_d d) (as := []) (rest := []) (Nat.le_of_ble_eq_true rfl) rfl rfl (zCi_mono (fun x5 h6 k => ?_) k)
    exact z_ireturn rfl dX12_again_101 ⟨_, rfl, k⟩
  · have k := kb q
    refine z_aload_n 0 dX12_again_51 rfl rfl (Nat.le_of_ble_eq_true rfl) rfl ?_
    refine z_getF 12 14 (x := 502) fX12_121 rfl dX12_again_52 rfl rfl ?_
    refine z_iload_n 1 dX12_again_55 rfl rfl rfl ?_
    obtain ⟨i9, k⟩ := k
    refine z_lald (x := (h 502 l1)) dX12_again_56 (by rw [zl_502]; exact i9) rfl rfl ?_
    refine z_iload_n 3 dX12_again_57 rfl rfl rfl ?_
    refine z_callSb sX12_bit kX12_366 dX12_again_58 rfl (zRo_d d) (as := [vl (h 502 l1), vi l3]) (rest := []) (Nat.le_of_ble_eq_true rfl) rfl rfl (zCb_mono (fun x7 h8 k => ?_) k)
    obtain ⟨ka, kb⟩ := k
    refine z_ifb_eq (tgt := 72) dX12_again_61 rfl rfl ⟨fun q => ?_, fun q => ?_⟩
    · have k := ka q
      refine z_iinc dX12_again_72 rfl (Nat.le_of_ble_eq_true rfl) (L' := [some (vr 12 466), some (vi l1), none, some (vi (l3 + 1))]) rfl rfl ?_
      refine z_goto (tgt := 41) dX12_again_75 rfl ?_
      exact z_sub (L' := [some (vr 12 466), some (vi l1), none, some (vi (l3 + 1))]) (And.intro rfl (And.intro rfl (And.intro rfl trivial))) k
    · have k := kb q
      refine z_aload_n 0 dX12_again_64 rfl rfl (Nat.le_of_ble_eq_true rfl) rfl ?_
      refine z_iload_n 3 dX12_again_65 rfl rfl rfl ?_
      refine z_iconst dX12_again_66 rfl ?_
      refine z_iadd dX12_again_67 rfl ?_
      refine z_iconst dX12_again_68 rfl ?_
      refine z_callVv vX12_buildsFree kX12_509 dX12_again_69 rfl (zRo_d d) (as := [vi (l3 + 1), vi 0]) (rest := []) (Nat.le_of_ble_eq_true rfl) rfl rfl (zCv_mono (fun h10 k => ?_) k)
      refine z_iinc dX12_again_72 rfl (Nat.le_of_ble_eq_true rfl) (L' := [some (vr 12 466), some (vi l1), none, some (vi (l3 + 1))]) rfl rfl ?_
      refine z_goto (tgt := 41) dX12_again_75 rfl ?_
      exact z_sub (L' := [some (vr 12 466), some (vi l1), none, some (vi (l3 + 1))]) (And.intro rfl (And.intro rfl (And.intro rfl trivial))) k
theorem eX12_again {G : zG} {d : Nat} {K : Int → zH → Prop} {l1 : Int} {h : zH} (k : tX12_again_0 G d K l1 h) : zCi G (d + 1) mX12_again [vr 12 466, vi l1] h K := z_entry (by decide +kernel) (Nat.le_of_ble_eq_true rfl) rfl k
def tX12_backwards_0 (G : zG) (d : Nat) (K : Int → zH → Prop) (l1 : Int) (h : zH) : Prop := zTi G (d + 1) mX12_backwards K 0 [some (vr 12 466), some (vi l1), none, none] [] h
def tX12_backwards_35 (G : zG) (d : Nat) (K : Int → zH → Prop) (l1 : Int) (l3 : Int) (h : zH) : Prop := zTi G (d + 1) mX12_backwards K 35 [some (vr 12 466), some (vi l1), none, some (vi l3)] [] h
theorem bX12_backwards_0 {G : zG} {d : Nat} {K : Int → zH → Prop} {l1 : Int} {h : zH} (k : zCi G d mX12_refusesOne [vr 12 466, vi l1] (zup h 466 0 0) (fun x1 h2 => zR x1 ∧ (x1 ≤ 0 → ((0 : Int) ≤ l1 ∧ l1 < 14) ∧ zCv G d mX12_builds [vr 12 466, vi ((h2 493 l1) + 1)] h2 (fun h4 => tX12_backwards_35 G d K l1 0 h4)) ∧ (¬ x1 ≤ 0 → zCi G d mX12_refused [vr 12 466, vi x1] h2 (fun x5 h6 => K x5 h6)))) : tX12_backwards_0 G d K l1 h := by
  unfold tX12_backwards_0
  refine z_aload_n 0 dX12_backwards_0 rfl rfl (Nat.le_of_ble_eq_true rfl) rfl ?_
  refine z_iconst dX12_backwards_1 rfl ?_
  refine z_putI 12 gX12_190 dX12_backwards_2 rfl ?_
  refine z_aload_n 0 dX12_backwards_5 rfl rfl (Nat.le_of_ble_eq_true rfl) rfl ?_
  refine z_iload_n 1 dX12_backwards_6 rfl rfl rfl ?_
  refine z_callVi vX12_refusesOne kX12_675 dX12_backwards_7 rfl (zRo_d d) (as := [vi l1]) (rest := []) (Nat.le_of_ble_eq_true rfl) rfl rfl (zCi_mono (fun x1 h2 k => ?_) k)
  refine z_istore_n 2 dX12_backwards_10 rfl (Nat.le_of_ble_eq_true rfl) (L' := [some (vr 12 466), some (vi l1), some (vi x1), none]) rfl rfl ?_
  refine z_iload_n 2 dX12_backwards_11 rfl rfl rfl ?_
  obtain ⟨r1, ka, kb⟩ := k
  refine z_if_le (tgt := 21) dX12_backwards_12 rfl r1 rfl ⟨fun q => ?_, fun q => ?_⟩
  · have k := ka q
    refine z_aload_n 0 dX12_backwards_21 rfl rfl (Nat.le_of_ble_eq_true rfl) rfl ?_
    refine z_aload_n 0 dX12_backwards_22 rfl rfl (Nat.le_of_ble_eq_true rfl) rfl ?_
    refine z_getF 12 13 (x := 493) fX12_94 rfl dX12_backwards_23 rfl rfl ?_
    refine z_iload_n 1 dX12_backwards_26 rfl rfl rfl ?_
    obtain ⟨i9, k⟩ := k
    refine z_iald (x := (h2 493 l1)) dX12_backwards_27 (by rw [zl_493]; exact i9) rfl rfl ?_
    refine z_iconst dX12_backwards_28 rfl ?_
    refine z_iadd dX12_backwards_29 rfl ?_
    refine z_callVv vX12_builds kX12_500 dX12_backwards_30 rfl (zRo_d d) (as := [vi ((h2 493 l1) + 1)]) (rest := []) (Nat.le_of_ble_eq_true rfl) rfl rfl (zCv_mono (fun h4 k => ?_) k)
    refine z_iconst dX12_backwards_33 rfl ?_
    refine z_istore_n 3 dX12_backwards_34 rfl (Nat.le_of_ble_eq_true rfl) (L' := [some (vr 12 466), some (vi l1), some (vi x1), some (vi 0)]) rfl rfl ?_
    exact z_sub (L' := [some (vr 12 466), some (vi l1), none, some (vi 0)]) (And.intro rfl (And.intro rfl (And.intro rfl trivial))) k
  · have k := kb q
    refine z_aload_n 0 dX12_backwards_15 rfl rfl (Nat.le_of_ble_eq_true rfl) rfl ?_
    refine z_iload_n 2 dX12_backwards_16 rfl rfl rfl ?_
    refine z_callVi vX12_refused kX12_426 dX12_backwards_17 rfl (zRo_d d) (as := [vi x1]) (rest := []) (Nat.le_of_ble_eq_true rfl) rfl rfl (zCi_mono (fun x5 h6 k => ?_) k)
    exact z_ireturn rfl dX12_backwards_20 ⟨_, rfl, k⟩
theorem bX12_backwards_35 {G : zG} {d : Nat} {K : Int → zH → Prop} {l1 : Int} {l3 : Int} {h : zH} (k : ((0 : Int) ≤ l1 ∧ l1 < 14) ∧ zR l3 ∧ zR (h 493 l1) ∧ ((h 493 l1) ≤ l3 → zCv G d mX12_buildsFrees [vr 12 466, vi l1, vi 1, vi (bi true)] h (fun h2 => zCv G d mX12_buildsEdges [vr 12 466, vi l1, vi 1, vi (bi true)] h2 (fun h4 => zCi G d mX12_makes [vr 12 466] (zup h4 466 50 2) (fun x5 h6 => K x5 h6)))) ∧ (¬ (h 493 l1) ≤ l3 → ((0 : Int) ≤ l1 ∧ l1 < 14) ∧ zCb G d mX12_bit [vl (h 502 l1), vi l3] h (fun x7 h8 => (x7 = false → tX12_backwards_35 G d K l1 (l3 + 1) h8) ∧ (x7 = true → zCv G d mX12_buildsFree [vr 12 466, vi 0, vi (l3 + 1)] h8 (fun h10 => tX12_backwards_35 G d K l1 (l3 + 1) h10))))) : tX12_backwards_35 G d K l1 l3 h := by
  unfold tX12_backwards_35
  refine z_iload_n 3 dX12_backwards_35 rfl rfl rfl ?_
  refine z_aload_n 0 dX12_backwards_36 rfl rfl (Nat.le_of_ble_eq_true rfl) rfl ?_
  refine z_getF 12 13 (x := 493) fX12_94 rfl dX12_backwards_37 rfl rfl ?_
  refine z_iload_n 1 dX12_backwards_40 rfl rfl rfl ?_
  obtain ⟨i9, k⟩ := k
  refine z_iald (x := (h 493 l1)) dX12_backwards_41 (by rw [zl_493]; exact i9) rfl rfl ?_
  obtain ⟨r1, r2, ka, kb⟩ := k
  refine z_icmp_ge (tgt := 72) dX12_backwards_42 rfl r1 r2 rfl ⟨fun q => ?_, fun q => ?_⟩
  · have k := ka q
    refine z_aload_n 0 dX12_backwards_72 rfl rfl (Nat.le_of_ble_eq_true rfl) rfl ?_
    refine z_iload_n 1 dX12_backwards_73 rfl rfl rfl ?_
    refine z_iconst dX12_backwards_74 rfl ?_
    refine z_iconst dX12_backwards_75 rfl ?_
    refine z_callVv vX12_buildsFrees kX12_696 dX12_backwards_76 rfl (zRo_d d) (as := [vi l1, vi 1, vi (bi true)]) (rest := []) (Nat.le_of_ble_eq_true rfl) rfl rfl (zCv_mono (fun h2 k => ?_) k)
    refine z_aload_n 0 dX12_backwards_79 rfl rfl (Nat.le_of_ble_eq_true rfl) rfl ?_
    refine z_iload_n 1 dX12_backwards_80 rfl rfl rfl ?_
    refine z_iconst dX12_backwards_81 rfl ?_
    refine z_iconst dX12_backwards_82 rfl ?_
    refine z_callVv vX12_buildsEdges kX12_692 dX12_backwards_83 rfl (zRo_d d) (as := [vi l1, vi 1, vi (bi true)]) (rest := []) (Nat.le_of_ble_eq_true rfl) rfl rfl (zCv_mono (fun h4 k => ?_) k)
    refine z_aload_n 0 dX12_backwards_86 rfl rfl (Nat.le_of_ble_eq_true rfl) rfl ?_
    refine z_ldc2 (x := 2) cX12_699 rfl dX12_backwards_87 rfl ?_
    refine z_putL 12 gX12_493 dX12_backwards_90 rfl ?_
    refine z_aload_n 0 dX12_backwards_93 rfl rfl (Nat.le_of_ble_eq_true rfl) rfl ?_
    refine z_callVi vX12_makes kX12_682 dX12_backwards_94 rfl (zRo_d d) (as := []) (rest := []) (Nat.le_of_ble_eq_true rfl) rfl rfl (zCi_mono (fun x5 h6 k => ?_) k)
    exact z_ireturn rfl dX12_backwards_97 ⟨_, rfl, k⟩
  · have k := kb q
    refine z_aload_n 0 dX12_backwards_45 rfl rfl (Nat.le_of_ble_eq_true rfl) rfl ?_
    refine z_getF 12 14 (x := 502) fX12_121 rfl dX12_backwards_46 rfl rfl ?_
    refine z_iload_n 1 dX12_backwards_49 rfl rfl rfl ?_
    obtain ⟨i9, k⟩ := k
    refine z_lald (x := (h 502 l1)) dX12_backwards_50 (by rw [zl_502]; exact i9) rfl rfl ?_
    refine z_iload_n 3 dX12_backwards_51 rfl rfl rfl ?_
    refine z_callSb sX12_bit kX12_366 dX12_backwards_52 rfl (zRo_d d) (as := [vl (h 502 l1), vi l3]) (rest := []) (Nat.le_of_ble_eq_true rfl) rfl rfl (zCb_mono (fun x7 h8 k => ?_) k)
    obtain ⟨ka, kb⟩ := k
    refine z_ifb_eq (tgt := 66) dX12_backwards_55 rfl rfl ⟨fun q => ?_, fun q => ?_⟩
    · have k := ka q
      refine z_iinc dX12_backwards_66 rfl (Nat.le_of_ble_eq_true rfl) (L' := [some (vr 12 466), some (vi l1), none, some (vi (l3 + 1))]) rfl rfl ?_
      refine z_goto (tgt := 35) dX12_backwards_69 rfl ?_
      exact z_sub (L' := [some (vr 12 466), some (vi l1), none, some (vi (l3 + 1))]) (And.intro rfl (And.intro rfl (And.intro rfl trivial))) k
    · have k := kb q
      refine z_aload_n 0 dX12_backwards_58 rfl rfl (Nat.le_of_ble_eq_true rfl) rfl ?_
      refine z_iconst dX12_backwards_59 rfl ?_
      refine z_iload_n 3 dX12_backwards_60 rfl rfl rfl ?_
      refine z_iconst dX12_backwards_61 rfl ?_
      refine z_iadd dX12_backwards_62 rfl ?_
      refine z_callVv vX12_buildsFree kX12_509 dX12_backwards_63 rfl (zRo_d d) (as := [vi 0, vi (l3 + 1)]) (rest := []) (Nat.le_of_ble_eq_true rfl) rfl rfl (zCv_mono (fun h10 k => ?_) k)
      refine z_iinc dX12_backwards_66 rfl (Nat.le_of_ble_eq_true rfl) (L' := [some (vr 12 466), some (vi l1), none, some (vi (l3 + 1))]) rfl rfl ?_
      refine z_goto (tgt := 35) dX12_backwards_69 rfl ?_
      exact z_sub (L' := [some (vr 12 466), some (vi l1), none, some (vi (l3 + 1))]) (And.intro rfl (And.intro rfl (And.intro rfl trivial))) k
theorem eX12_backwards {G : zG} {d : Nat} {K : Int → zH → Prop} {l1 : Int} {h : zH} (k : tX12_backwards_0 G d K l1 h) : zCi G (d + 1) mX12_backwards [vr 12 466, vi l1] h K := z_entry (by decide +kernel) (Nat.le_of_ble_eq_true rfl) rfl k
def tX12_only_0 (G : zG) (d : Nat) (K : Int → zH → Prop) (l1 : Int) (l2 : Int) (h : zH) : Prop := zTi G (d + 1) mX12_only K 0 [some (vr 12 466), some (vi l1), some (vi l2), none, none] [] h
def tX12_only_52 (G : zG) (d : Nat) (K : Int → zH → Prop) (l1 : Int) (l2 : Int) (l3 : Int) (h : zH) : Prop := zTi G (d + 1) mX12_only K 52 [some (vr 12 466), some (vi l1), some (vi l2), some (vi l3), none] [] h
def tX12_only_94 (G : zG) (d : Nat) (K : Int → zH → Prop) (l1 : Int) (l2 : Int) (l3 : Int) (l4 : Int) (h : zH) : Prop := zTi G (d + 1) mX12_only K 94 [some (vr 12 466), some (vi l1), some (vi l2), some (vi l3), some (vi l4)] [] h
theorem bX12_only_0 {G : zG} {d : Nat} {K : Int → zH → Prop} {l1 : Int} {l2 : Int} {h : zH} (k : zCb G d mX12_isMachine [vr 12 466, vi l1] (zup h 466 0 0) (fun x1 h2 => (x1 = false → zCi G d mX12_refused [vr 12 466, vi 1] h2 (fun x3 h4 => K x3 h4)) ∧ (x1 = true → zCb G d mX12_isSet [vr 12 466, vi l2] h2 (fun x5 h6 => (x5 = true → zCi G d mX12_mostMachines [vr 12 466] h6 (fun x7 h8 => zR x7 ∧ (x7 ≤ 0 → ((0 : Int) ≤ l1 ∧ l1 < 14) ∧ zCv G d mX12_builds [vr 12 466, vi (h8 493 l1)] h8 (fun h10 => tX12_only_52 G d K l1 l2 0 h10)) ∧ (¬ x7 ≤ 0 → zCi G d mX12_refused [vr 12 466, vi 3] h8 (fun x11 h12 => K x11 h12)))) ∧ (x5 = false → zCi G d mX12_refused [vr 12 466, vi 1] h6 (fun x13 h14 => K x13 h14)))))) : tX12_only_0 G d K l1 l2 h := by
  unfold tX12_only_0
  refine z_aload_n 0 dX12_only_0 rfl rfl (Nat.le_of_ble_eq_true rfl) rfl ?_
  refine z_iconst dX12_only_1 rfl ?_
  refine z_putI 12 gX12_190 dX12_only_2 rfl ?_
  refine z_aload_n 0 dX12_only_5 rfl rfl (Nat.le_of_ble_eq_true rfl) rfl ?_
  refine z_iload_n 1 dX12_only_6 rfl rfl rfl ?_
  refine z_callVb vX12_isMachine kX12_561 dX12_only_7 rfl (zRo_d d) (as := [vi l1]) (rest := []) (Nat.le_of_ble_eq_true rfl) rfl rfl (zCb_mono (fun x1 h2 k => ?_) k)
  obtain ⟨ka, kb⟩ := k
  refine z_ifb_eq (tgt := 21) dX12_only_10 rfl rfl ⟨fun q => ?_, fun q => ?_⟩
  · have k := ka q
    refine z_aload_n 0 dX12_only_21 rfl rfl (Nat.le_of_ble_eq_true rfl) rfl ?_
    refine z_iconst dX12_only_22 rfl ?_
    refine z_callVi vX12_refused kX12_426 dX12_only_23 rfl (zRo_d d) (as := [vi 1]) (rest := []) (Nat.le_of_ble_eq_true rfl) rfl rfl (zCi_mono (fun x3 h4 k => ?_) k)
    exact z_ireturn rfl dX12_only_26 ⟨_, rfl, k⟩
  · have k := kb q
    refine z_aload_n 0 dX12_only_13 rfl rfl (Nat.le_of_ble_eq_true rfl) rfl ?_
    refine z_iload_n 2 dX12_only_14 rfl rfl rfl ?_
    refine z_callVb vX12_isSet kX12_447 dX12_only_15 rfl (zRo_d d) (as := [vi l2]) (rest := []) (Nat.le_of_ble_eq_true rfl) rfl rfl (zCb_mono (fun x5 h6 k => ?_) k)
    obtain ⟨ka, kb⟩ := k
    refine z_ifb_ne (tgt := 27) dX12_only_18 rfl rfl ⟨fun q => ?_, fun q => ?_⟩
    · have k := ka q
      refine z_aload_n 0 dX12_only_27 rfl rfl (Nat.le_of_ble_eq_true rfl) rfl ?_
      refine z_callVi vX12_mostMachines kX12_672 dX12_only_28 rfl (zRo_d d) (as := []) (rest := []) (Nat.le_of_ble_eq_true rfl) rfl rfl (zCi_mono (fun x7 h8 k => ?_) k)
      obtain ⟨r1, ka, kb⟩ := k
      refine z_if_le (tgt := 40) dX12_only_31 rfl r1 rfl ⟨fun q => ?_, fun q => ?_⟩
      · have k := ka q
        refine z_aload_n 0 dX12_only_40 rfl rfl (Nat.le_of_ble_eq_true rfl) rfl ?_
        refine z_aload_n 0 dX12_only_41 rfl rfl (Nat.le_of_ble_eq_true rfl) rfl ?_
        refine z_getF 12 13 (x := 493) fX12_94 rfl dX12_only_42 rfl rfl ?_
        refine z_iload_n 1 dX12_only_45 rfl rfl rfl ?_
        obtain ⟨i9, k⟩ := k
        refine z_iald (x := (h8 493 l1)) dX12_only_46 (by rw [zl_493]; exact i9) rfl rfl ?_
        refine z_callVv vX12_builds kX12_500 dX12_only_47 rfl (zRo_d d) (as := [vi (h8 493 l1)]) (rest := []) (Nat.le_of_ble_eq_true rfl) rfl rfl (zCv_mono (fun h10 k => ?_) k)
        refine z_iconst dX12_only_50 rfl ?_
        refine z_istore_n 3 dX12_only_51 rfl (Nat.le_of_ble_eq_true rfl) (L' := [some (vr 12 466), some (vi l1), some (vi l2), some (vi 0), none]) rfl rfl ?_
        exact z_sub (L' := [some (vr 12 466), some (vi l1), some (vi l2), some (vi 0), none]) (And.intro rfl (And.intro rfl (And.intro rfl (And.intro rfl trivial)))) k
      · have k := kb q
        refine z_aload_n 0 dX12_only_34 rfl rfl (Nat.le_of_ble_eq_true rfl) rfl ?_
        refine z_iconst dX12_only_35 rfl ?_
        refine z_callVi vX12_refused kX12_426 dX12_only_36 rfl (zRo_d d) (as := [vi 3]) (rest := []) (Nat.le_of_ble_eq_true rfl) rfl rfl (zCi_mono (fun x11 h12 k => ?_) k)
        exact z_ireturn rfl dX12_only_39 ⟨_, rfl, k⟩
    · have k := kb q
      refine z_aload_n 0 dX12_only_21 rfl rfl (Nat.le_of_ble_eq_true rfl) rfl ?_
      refine z_iconst dX12_only_22 rfl ?_
      refine z_callVi vX12_refused kX12_426 dX12_only_23 rfl (zRo_d d) (as := [vi 1]) (rest := []) (Nat.le_of_ble_eq_true rfl) rfl rfl (zCi_mono (fun x13 h14 k => ?_) k)
      exact z_ireturn rfl dX12_only_26 ⟨_, rfl, k⟩
theorem bX12_only_52 {G : zG} {d : Nat} {K : Int → zH → Prop} {l1 : Int} {l2 : Int} {l3 : Int} {h : zH} (k : ((0 : Int) ≤ l1 ∧ l1 < 14) ∧ zR l3 ∧ zR (h 494 l1) ∧ ((h 494 l1) ≤ l3 → zCi G d mX12_makesLike [vr 12 466, vi l1] h (fun x1 h2 => K x1 h2)) ∧ (¬ (h 494 l1) ≤ l3 → ((0 : Int) ≤ ((l1 * 160) + l3) ∧ ((l1 * 160) + l3) < 2240) ∧ ((0 : Int) ≤ ((l1 * 160) + l3) ∧ ((l1 * 160) + l3) < 2240) ∧ zCb G d mX12_buildsEdge [vr 12 466, vi (h 498 ((l1 * 160) + l3)), vi (h 499 ((l1 * 160) + l3))] h (fun x3 h4 => tX12_only_94 G d K l1 l2 l3 0 h4))) : tX12_only_52 G d K l1 l2 l3 h := by
  unfold tX12_only_52
  refine z_iload_n 3 dX12_only_52 rfl rfl rfl ?_
  refine z_aload_n 0 dX12_only_53 rfl rfl (Nat.le_of_ble_eq_true rfl) rfl ?_
  refine z_getF 12 13 (x := 494) fX12_97 rfl dX12_only_54 rfl rfl ?_
  refine z_iload_n 1 dX12_only_57 rfl rfl rfl ?_
  obtain ⟨i9, k⟩ := k
  refine z_iald (x := (h 494 l1)) dX12_only_58 (by rw [zl_494]; exact i9) rfl rfl ?_
  obtain ⟨r1, r2, ka, kb⟩ := k
  refine z_icmp_ge (tgt := 159) dX12_only_59 rfl r1 r2 rfl ⟨fun q => ?_, fun q => ?_⟩
  · have k := ka q
    refine z_aload_n 0 dX12_only_159 rfl rfl (Nat.le_of_ble_eq_true rfl) rfl ?_
    refine z_iload_n 1 dX12_only_160 rfl rfl rfl ?_
    refine z_callVi vX12_makesLike kX12_708 dX12_only_161 rfl (zRo_d d) (as := [vi l1]) (rest := []) (Nat.le_of_ble_eq_true rfl) rfl rfl (zCi_mono (fun x1 h2 k => ?_) k)
    exact z_ireturn rfl dX12_only_164 ⟨_, rfl, k⟩
  · have k := kb q
    refine z_aload_n 0 dX12_only_62 rfl rfl (Nat.le_of_ble_eq_true rfl) rfl ?_
    refine z_aload_n 0 dX12_only_63 rfl rfl (Nat.le_of_ble_eq_true rfl) rfl ?_
    refine z_getF 12 13 (x := 498) fX12_109 rfl dX12_only_64 rfl rfl ?_
    refine z_iload_n 1 dX12_only_67 rfl rfl rfl ?_
    refine z_sipush dX12_only_68 rfl rfl ?_
    refine z_imul dX12_only_71 rfl ?_
    refine z_iload_n 3 dX12_only_72 rfl rfl rfl ?_
    refine z_iadd dX12_only_73 rfl ?_
    obtain ⟨i9, k⟩ := k
    refine z_iald (x := (h 498 ((l1 * 160) + l3))) dX12_only_74 (by rw [zl_498]; exact i9) rfl rfl ?_
    refine z_aload_n 0 dX12_only_75 rfl rfl (Nat.le_of_ble_eq_true rfl) rfl ?_
    refine z_getF 12 13 (x := 499) fX12_112 rfl dX12_only_76 rfl rfl ?_
    refine z_iload_n 1 dX12_only_79 rfl rfl rfl ?_
    refine z_sipush dX12_only_80 rfl rfl ?_
    refine z_imul dX12_only_83 rfl ?_
    refine z_iload_n 3 dX12_only_84 rfl rfl rfl ?_
    refine z_iadd dX12_only_85 rfl ?_
    obtain ⟨i9, k⟩ := k
    refine z_iald (x := (h 499 ((l1 * 160) + l3))) dX12_only_86 (by rw [zl_499]; exact i9) rfl rfl ?_
    refine z_callVb vX12_buildsEdge kX12_503 dX12_only_87 rfl (zRo_d d) (as := [vi (h 498 ((l1 * 160) + l3)), vi (h 499 ((l1 * 160) + l3))]) (rest := []) (Nat.le_of_ble_eq_true rfl) rfl rfl (zCb_mono (fun x3 h4 k => ?_) k)
    refine z_pop dX12_only_90 (fun q => by cases q) rfl ?_
    refine z_iconst dX12_only_91 rfl ?_
    refine z_istore dX12_only_92 (Nat.le_of_ble_eq_true rfl) (L' := [some (vr 12 466), some (vi l1), some (vi l2), some (vi l3), some (vi 0)]) rfl rfl ?_
    exact z_sub (L' := [some (vr 12 466), some (vi l1), some (vi l2), some (vi l3), some (vi 0)]) (And.intro rfl (And.intro rfl (And.intro rfl (And.intro rfl (And.intro rfl trivial))))) k
theorem bX12_only_94 {G : zG} {d : Nat} {K : Int → zH → Prop} {l1 : Int} {l2 : Int} {l3 : Int} {l4 : Int} {h : zH} (k : ((0 : Int) ≤ l1 ∧ l1 < 14) ∧ zR l4 ∧ zR (h 496 l1) ∧ ((h 496 l1) ≤ l4 → zCv G d mX12_keepsEdge [vr 12 466] h (fun h2 => tX12_only_52 G d K l1 l2 (l3 + 1) h2)) ∧ (¬ (h 496 l1) ≤ l4 → zCb G d mX12_edgeHas [vr 12 466, vi l1, vi l3, vi l4] h (fun x3 h4 => (x3 = false → tX12_only_94 G d K l1 l2 l3 (l4 + 1) h4) ∧ (x3 = true → ((0 : Int) ≤ ((l1 * 128) + l4) ∧ ((l1 * 128) + l4) < 1792) ∧ zCi G d mX12_blockEnd [vr 12 466, vi l1, vi l4] h4 (fun x5 h6 => zCv G d mX12_buildsOnly [vr 12 466, vi l2, vi (h4 497 ((l1 * 128) + l4)), vi (x5 - 1)] h6 (fun h8 => tX12_only_94 G d K l1 l2 l3 (l4 + 1) h8)))))) : tX12_only_94 G d K l1 l2 l3 l4 h := by
  unfold tX12_only_94
  refine z_iload dX12_only_94 rfl rfl ?_
  refine z_aload_n 0 dX12_only_96 rfl rfl (Nat.le_of_ble_eq_true rfl) rfl ?_
  refine z_getF 12 13 (x := 496) fX12_103 rfl dX12_only_97 rfl rfl ?_
  refine z_iload_n 1 dX12_only_100 rfl rfl rfl ?_
  obtain ⟨i9, k⟩ := k
  refine z_iald (x := (h 496 l1)) dX12_only_101 (by rw [zl_496]; exact i9) rfl rfl ?_
  obtain ⟨r1, r2, ka, kb⟩ := k
  refine z_icmp_ge (tgt := 149) dX12_only_102 rfl r1 r2 rfl ⟨fun q => ?_, fun q => ?_⟩
  · have k := ka q
    refine z_aload_n 0 dX12_only_149 rfl rfl (Nat.le_of_ble_eq_true rfl) rfl ?_
    refine z_callVv vX12_keepsEdge kX12_705 dX12_only_150 rfl (zRo_d d) (as := []) (rest := []) (Nat.le_of_ble_eq_true rfl) rfl rfl (zCv_mono (fun h2 k => ?_) k)
    refine z_iinc dX12_only_153 rfl (Nat.le_of_ble_eq_true rfl) (L' := [some (vr 12 466), some (vi l1), some (vi l2), some (vi (l3 + 1)), some (vi l4)]) rfl rfl ?_
    refine z_goto (tgt := 52) dX12_only_156 rfl ?_
    exact z_sub (L' := [some (vr 12 466), some (vi l1), some (vi l2), some (vi (l3 + 1)), none]) (And.intro rfl (And.intro rfl (And.intro rfl (And.intro rfl trivial)))) k
  · have k := kb q
    refine z_aload_n 0 dX12_only_105 rfl rfl (Nat.le_of_ble_eq_true rfl) rfl ?_
    refine z_iload_n 1 dX12_only_106 rfl rfl rfl ?_
    refine z_iload_n 3 dX12_only_107 rfl rfl rfl ?_
    refine z_iload dX12_only_108 rfl rfl ?_
    refine z_callVb vX12_edgeHas kX12_527 dX12_only_110 rfl (zRo_d d) (as := [vi l1, vi l3, vi l4]) (rest := []) (Nat.le_of_ble_eq_true rfl) rfl rfl (zCb_mono (fun x3 h4 k => ?_) k)
    obtain ⟨ka, kb⟩ := k
    refine z_ifb_eq (tgt := 143) dX12_only_113 rfl rfl ⟨fun q => ?_, fun q => ?_⟩
    · have k := ka q
      refine z_iinc dX12_only_143 rfl (Nat.le_of_ble_eq_true rfl) (L' := [some (vr 12 466), some (vi l1), some (vi l2), some (vi l3), some (vi (l4 + 1))]) rfl rfl ?_
      refine z_goto (tgt := 94) dX12_only_146 rfl ?_
      exact z_sub (L' := [some (vr 12 466), some (vi l1), some (vi l2), some (vi l3), some (vi (l4 + 1))]) (And.intro rfl (And.intro rfl (And.intro rfl (And.intro rfl (And.intro rfl trivial))))) k
    · have k := kb q
      refine z_aload_n 0 dX12_only_116 rfl rfl (Nat.le_of_ble_eq_true rfl) rfl ?_
      refine z_iload_n 2 dX12_only_117 rfl rfl rfl ?_
      refine z_aload_n 0 dX12_only_118 rfl rfl (Nat.le_of_ble_eq_true rfl) rfl ?_
      refine z_getF 12 13 (x := 497) fX12_106 rfl dX12_only_119 rfl rfl ?_
      refine z_iload_n 1 dX12_only_122 rfl rfl rfl ?_
      refine z_sipush dX12_only_123 rfl rfl ?_
      refine z_imul dX12_only_126 rfl ?_
      refine z_iload dX12_only_127 rfl rfl ?_
      refine z_iadd dX12_only_129 rfl ?_
      obtain ⟨i9, k⟩ := k
      refine z_iald (x := (h4 497 ((l1 * 128) + l4))) dX12_only_130 (by rw [zl_497]; exact i9) rfl rfl ?_
      refine z_aload_n 0 dX12_only_131 rfl rfl (Nat.le_of_ble_eq_true rfl) rfl ?_
      refine z_iload_n 1 dX12_only_132 rfl rfl rfl ?_
      refine z_iload dX12_only_133 rfl rfl ?_
      refine z_callVi vX12_blockEnd kX12_571 dX12_only_135 rfl (zRo_d d) (as := [vi l1, vi l4]) (rest := [vi (h4 497 ((l1 * 128) + l4)), vi l2, vr 12 466]) (Nat.le_of_ble_eq_true rfl) rfl rfl (zCi_mono (fun x5 h6 k => ?_) k)
      refine z_iconst dX12_only_138 rfl ?_
      refine z_isub dX12_only_139 rfl ?_
      refine z_callVv vX12_buildsOnly kX12_701 dX12_only_140 rfl (zRo_d d) (as := [vi l2, vi (h4 497 ((l1 * 128) + l4)), vi (x5 - 1)]) (rest := []) (Nat.le_of_ble_eq_true rfl) rfl rfl (zCv_mono (fun h8 k => ?_) k)
      refine z_iinc dX12_only_143 rfl (Nat.le_of_ble_eq_true rfl) (L' := [some (vr 12 466), some (vi l1), some (vi l2), some (vi l3), some (vi (l4 + 1))]) rfl rfl ?_
      refine z_goto (tgt := 94) dX12_only_146 rfl ?_
      exact z_sub (L' := [some (vr 12 466), some (vi l1), some (vi l2), some (vi l3), some (vi (l4 + 1))]) (And.intro rfl (And.intro rfl (And.intro rfl (And.intro rfl (And.intro rfl trivial))))) k
theorem eX12_only {G : zG} {d : Nat} {K : Int → zH → Prop} {l1 : Int} {l2 : Int} {h : zH} (k : tX12_only_0 G d K l1 l2 h) : zCi G (d + 1) mX12_only [vr 12 466, vi l1, vi l2] h K := z_entry (by decide +kernel) (Nat.le_of_ble_eq_true rfl) rfl k
def tX12_buildsOnly_0 (G : zG) (d : Nat) (K : zH → Prop) (l1 : Int) (l2 : Int) (l3 : Int) (h : zH) : Prop := zTv G (d + 1) mX12_buildsOnly K 0 [some (vr 12 466), some (vi l1), some (vi l2), some (vi l3), none, none, none] [] h
def tX12_buildsOnly_6 (G : zG) (d : Nat) (K : zH → Prop) (l1 : Int) (l2 : Int) (l3 : Int) (l4 : Int) (h : zH) : Prop := zTv G (d + 1) mX12_buildsOnly K 6 [some (vr 12 466), some (vi l1), some (vi l2), some (vi l3), some (vi l4), none, none] [] h
theorem bX12_buildsOnly_0 {G : zG} {d : Nat} {K : zH → Prop} {l1 : Int} {l2 : Int} {l3 : Int} {h : zH} (k : tX12_buildsOnly_6 G d K l1 l2 l3 (l1 * 24) h) : tX12_buildsOnly_0 G d K l1 l2 l3 h := by
  unfold tX12_buildsOnly_0
  refine z_iload_n 1 dX12_buildsOnly_0 rfl rfl rfl ?_
  refine z_bipush dX12_buildsOnly_1 rfl rfl ?_
  refine z_imul dX12_buildsOnly_3 rfl ?_
  refine z_istore dX12_buildsOnly_4 (Nat.le_of_ble_eq_true rfl) (L' := [some (vr 12 466), some (vi l1), some (vi l2), some (vi l3), some (vi (l1 * 24)), none, none]) rfl rfl ?_
  exact z_sub (L' := [some (vr 12 466), some (vi l1), some (vi l2), some (vi l3), some (vi (l1 * 24)), none, none]) (And.intro rfl (And.intro rfl (And.intro rfl (And.intro rfl (And.intro rfl trivial))))) k
theorem bX12_buildsOnly_6 {G : zG} {d : Nat} {K : zH → Prop} {l1 : Int} {l2 : Int} {l3 : Int} {l4 : Int} {h : zH} (k : ((0 : Int) ≤ l1 ∧ l1 < 24) ∧ zR l4 ∧ zR ((l1 * 24) + (h 471 l1)) ∧ (((l1 * 24) + (h 471 l1)) ≤ l4 → K h) ∧ (¬ ((l1 * 24) + (h 471 l1)) ≤ l4 → ((0 : Int) ≤ l4 ∧ l4 < 576) ∧ zR (h 472 l4) ∧ zR l2 ∧ ((h 472 l4) ≤ l2 → ((0 : Int) ≤ l4 ∧ l4 < 576) ∧ zR (h 473 l4) ∧ zR l3 ∧ (l3 ≤ (h 473 l4) → zR l2 ∧ zR l3 ∧ (l3 < l2 → tX12_buildsOnly_6 G d K l1 l2 l3 (l4 + 1) h) ∧ (¬ l3 < l2 → zCv G d mX12_buildsRange [vr 12 466, vi l2, vi l3] h (fun h2 => tX12_buildsOnly_6 G d K l1 l2 l3 (l4 + 1) h2))) ∧ (¬ l3 ≤ (h 473 l4) → ((0 : Int) ≤ l4 ∧ l4 < 576) ∧ zR l2 ∧ zR (h 473 l4) ∧ ((h 473 l4) < l2 → tX12_buildsOnly_6 G d K l1 l2 l3 (l4 + 1) h) ∧ (¬ (h 473 l4) < l2 → zCv G d mX12_buildsRange [vr 12 466, vi l2, vi (h 473 l4)] h (fun h4 => tX12_buildsOnly_6 G d K l1 l2 l3 (l4 + 1) h4)))) ∧ (¬ (h 472 l4) ≤ l2 → ((0 : Int) ≤ l4 ∧ l4 < 576) ∧ ((0 : Int) ≤ l4 ∧ l4 < 576) ∧ zR (h 473 l4) ∧ zR l3 ∧ (l3 ≤ (h 473 l4) → zR (h 472 l4) ∧ zR l3 ∧ (l3 < (h 472 l4) → tX12_buildsOnly_6 G d K l1 l2 l3 (l4 + 1) h) ∧ (¬ l3 < (h 472 l4) → zCv G d mX12_buildsRange [vr 12 466, vi (h 472 l4), vi l3] h (fun h6 => tX12_buildsOnly_6 G d K l1 l2 l3 (l4 + 1) h6))) ∧ (¬ l3 ≤ (h 473 l4) → ((0 : Int) ≤ l4 ∧ l4 < 576) ∧ zR (h 472 l4) ∧ zR (h 473 l4) ∧ ((h 473 l4) < (h 472 l4) → tX12_buildsOnly_6 G d K l1 l2 l3 (l4 + 1) h) ∧ (¬ (h 473 l4) < (h 472 l4) → zCv G d mX12_buildsRange [vr 12 466, vi (h 472 l4), vi (h 473 l4)] h (fun h8 => tX12_buildsOnly_6 G d K l1 l2 l3 (l4 + 1) h8)))))) : tX12_buildsOnly_6 G d K l1 l2 l3 l4 h := by
  unfold tX12_buildsOnly_6
  refine z_iload dX12_buildsOnly_6 rfl rfl ?_
  refine z_iload_n 1 dX12_buildsOnly_8 rfl rfl rfl ?_
  refine z_bipush dX12_buildsOnly_9 rfl rfl ?_
  refine z_imul dX12_buildsOnly_11 rfl ?_
  refine z_aload_n 0 dX12_buildsOnly_12 rfl rfl (Nat.le_of_ble_eq_true rfl) rfl ?_
  refine z_getF 12 13 (x := 471) fX12_28 rfl dX12_buildsOnly_13 rfl rfl ?_
  refine z_iload_n 1 dX12_buildsOnly_16 rfl rfl rfl ?_
  obtain ⟨i9, k⟩ := k
  refine z_iald (x := (h 471 l1)) dX12_buildsOnly_17 (by rw [zl_471]; exact i9) rfl rfl ?_
  refine z_iadd dX12_buildsOnly_18 rfl ?_
  obtain ⟨r1, r2, ka, kb⟩ := k
  refine z_icmp_ge (tgt := 91) dX12_buildsOnly_19 rfl r1 r2 rfl ⟨fun q => ?_, fun q => ?_⟩
  · have k := ka q
    exact z_return rfl dX12_buildsOnly_91 ⟨rfl, k⟩
  · have k := kb q
    refine z_aload_n 0 dX12_buildsOnly_22 rfl rfl (Nat.le_of_ble_eq_true rfl) rfl ?_
    refine z_getF 12 13 (x := 472) fX12_31 rfl dX12_buildsOnly_23 rfl rfl ?_
    refine z_iload dX12_buildsOnly_26 rfl rfl ?_
    obtain ⟨i9, k⟩ := k
    refine z_iald (x := (h 472 l4)) dX12_buildsOnly_28 (by rw [zl_472]; exact i9) rfl rfl ?_
    refine z_iload_n 2 dX12_buildsOnly_29 rfl rfl rfl ?_
    obtain ⟨r1, r2, ka, kb⟩ := k
    refine z_icmp_le (tgt := 43) dX12_buildsOnly_30 rfl r1 r2 rfl ⟨fun q => ?_, fun q => ?_⟩
    · have k := ka q
      refine z_iload_n 2 dX12_buildsOnly_43 rfl rfl rfl ?_
      refine z_istore dX12_buildsOnly_44 (Nat.le_of_ble_eq_true rfl) (L' := [some (vr 12 466), some (vi l1), some (vi l2), some (vi l3), some (vi l4), some (vi l2), none]) rfl rfl ?_
      refine z_aload_n 0 dX12_buildsOnly_46 rfl rfl (Nat.le_of_ble_eq_true rfl) rfl ?_
      refine z_getF 12 13 (x := 473) fX12_34 rfl dX12_buildsOnly_47 rfl rfl ?_
      refine z_iload dX12_buildsOnly_50 rfl rfl ?_
      obtain ⟨i9, k⟩ := k
      refine z_iald (x := (h 473 l4)) dX12_buildsOnly_52 (by rw [zl_473]; exact i9) rfl rfl ?_
      refine z_iload_n 3 dX12_buildsOnly_53 rfl rfl rfl ?_
      obtain ⟨r1, r2, ka, kb⟩ := k
      refine z_icmp_ge (tgt := 67) dX12_buildsOnly_54 rfl r1 r2 rfl ⟨fun q => ?_, fun q => ?_⟩
      · have k := ka q
        refine z_iload_n 3 dX12_buildsOnly_67 rfl rfl rfl ?_
        refine z_istore dX12_buildsOnly_68 (Nat.le_of_ble_eq_true rfl) (L' := [some (vr 12 466), some (vi l1), some (vi l2), some (vi l3), some (vi l4), some (vi l2), some (vi l3)]) rfl rfl ?_
        refine z_iload dX12_buildsOnly_70 rfl rfl ?_
        refine z_iload dX12_buildsOnly_72 rfl rfl ?_
        obtain ⟨r1, r2, ka, kb⟩ := k
        refine z_icmp_gt (tgt := 85) dX12_buildsOnly_74 rfl r1 r2 rfl ⟨fun q => ?_, fun q => ?_⟩
        · have k := ka q
          refine z_iinc dX12_buildsOnly_85 rfl (Nat.le_of_ble_eq_true rfl) (L' := [some (vr 12 466), some (vi l1), some (vi l2), some (vi l3), some (vi (l4 + 1)), some (vi l2), some (vi l3)]) rfl rfl ?_
          refine z_goto (tgt := 6) dX12_buildsOnly_88 rfl ?_
          exact z_sub (L' := [some (vr 12 466), some (vi l1), some (vi l2), some (vi l3), some (vi (l4 + 1)), none, none]) (And.intro rfl (And.intro rfl (And.intro rfl (And.intro rfl (And.intro rfl trivial))))) k
        · have k := kb q
          refine z_aload_n 0 dX12_buildsOnly_77 rfl rfl (Nat.le_of_ble_eq_true rfl) rfl ?_
          refine z_iload dX12_buildsOnly_78 rfl rfl ?_
          refine z_iload dX12_buildsOnly_80 rfl rfl ?_
          refine z_callVv vX12_buildsRange kX12_506 dX12_buildsOnly_82 rfl (zRo_d d) (as := [vi l2, vi l3]) (rest := []) (Nat.le_of_ble_eq_true rfl) rfl rfl (zCv_mono (fun h2 k => ?_) k)
          refine z_iinc dX12_buildsOnly_85 rfl (Nat.le_of_ble_eq_true rfl) (L' := [some (vr 12 466), some (vi l1), some (vi l2), some (vi l3), some (vi (l4 + 1)), some (vi l2), some (vi l3)]) rfl rfl ?_
          refine z_goto (tgt := 6) dX12_buildsOnly_88 rfl ?_
          exact z_sub (L' := [some (vr 12 466), some (vi l1), some (vi l2), some (vi l3), some (vi (l4 + 1)), none, none]) (And.intro rfl (And.intro rfl (And.intro rfl (And.intro rfl (And.intro rfl trivial))))) k
      · have k := kb q
        refine z_aload_n 0 dX12_buildsOnly_57 rfl rfl (Nat.le_of_ble_eq_true rfl) rfl ?_
        refine z_getF 12 13 (x := 473) fX12_34 rfl dX12_buildsOnly_58 rfl rfl ?_
        refine z_iload dX12_buildsOnly_61 rfl rfl ?_
        obtain ⟨i9, k⟩ := k
        refine z_iald (x := (h 473 l4)) dX12_buildsOnly_63 (by rw [zl_473]; exact i9) rfl rfl ?_
        refine z_goto (tgt := 68) dX12_buildsOnly_64 rfl ?_
        refine z_istore dX12_buildsOnly_68 (Nat.le_of_ble_eq_true rfl) (L' := [some (vr 12 466), some (vi l1), some (vi l2), some (vi l3), some (vi l4), some (vi l2), some (vi (h 473 l4))]) rfl rfl ?_
        refine z_iload dX12_buildsOnly_70 rfl rfl ?_
        refine z_iload dX12_buildsOnly_72 rfl rfl ?_
        obtain ⟨r1, r2, ka, kb⟩ := k
        refine z_icmp_gt (tgt := 85) dX12_buildsOnly_74 rfl r1 r2 rfl ⟨fun q => ?_, fun q => ?_⟩
        · have k := ka q
          refine z_iinc dX12_buildsOnly_85 rfl (Nat.le_of_ble_eq_true rfl) (L' := [some (vr 12 466), some (vi l1), some (vi l2), some (vi l3), some (vi (l4 + 1)), some (vi l2), some (vi (h 473 l4))]) rfl rfl ?_
          refine z_goto (tgt := 6) dX12_buildsOnly_88 rfl ?_
          exact z_sub (L' := [some (vr 12 466), some (vi l1), some (vi l2), some (vi l3), some (vi (l4 + 1)), none, none]) (And.intro rfl (And.intro rfl (And.intro rfl (And.intro rfl (And.intro rfl trivial))))) k
        · have k := kb q
          refine z_aload_n 0 dX12_buildsOnly_77 rfl rfl (Nat.le_of_ble_eq_true rfl) rfl ?_
          refine z_iload dX12_buildsOnly_78 rfl rfl ?_
          refine z_iload dX12_buildsOnly_80 rfl rfl ?_
          refine z_callVv vX12_buildsRange kX12_506 dX12_buildsOnly_82 rfl (zRo_d d) (as := [vi l2, vi (h 473 l4)]) (rest := []) (Nat.le_of_ble_eq_true rfl) rfl rfl (zCv_mono (fun h4 k => ?_) k)
          refine z_iinc dX12_buildsOnly_85 rfl (Nat.le_of_ble_eq_true rfl) (L' := [some (vr 12 466), some (vi l1), some (vi l2), some (vi l3), some (vi (l4 + 1)), some (vi l2), some (vi (h 473 l4))]) rfl rfl ?_
          refine z_goto (tgt := 6) dX12_buildsOnly_88 rfl ?_
          exact z_sub (L' := [some (vr 12 466), some (vi l1), some (vi l2), some (vi l3), some (vi (l4 + 1)), none, none]) (And.intro rfl (And.intro rfl (And.intro rfl (And.intro rfl (And.intro rfl trivial))))) k
    · have k := kb q
      refine z_aload_n 0 dX12_buildsOnly_33 rfl rfl (Nat.le_of_ble_eq_true rfl) rfl ?_
      refine z_getF 12 13 (x := 472) fX12_31 rfl dX12_buildsOnly_34 rfl rfl ?_
      refine z_iload dX12_buildsOnly_37 rfl rfl ?_
      obtain ⟨i9, k⟩ := k
      refine z_iald (x := (h 472 l4)) dX12_buildsOnly_39 (by rw [zl_472]; exact i9) rfl rfl ?_
      refine z_goto (tgt := 44) dX12_buildsOnly_40 rfl ?_
      refine z_istore dX12_buildsOnly_44 (Nat.le_of_ble_eq_true rfl) (L' := [some (vr 12 466), some (vi l1), some (vi l2), some (vi l3), some (vi l4), some (vi (h 472 l4)), none]) rfl rfl ?_
      refine z_aload_n 0 dX12_buildsOnly_46 rfl rfl (Nat.le_of_ble_eq_true rfl) rfl ?_
      refine z_getF 12 13 (x := 473) fX12_34 rfl dX12_buildsOnly_47 rfl rfl ?_
      refine z_iload dX12_buildsOnly_50 rfl rfl ?_
      obtain ⟨i9, k⟩ := k
      refine z_iald (x := (h 473 l4)) dX12_buildsOnly_52 (by rw [zl_473]; exact i9) rfl rfl ?_
      refine z_iload_n 3 dX12_buildsOnly_53 rfl rfl rfl ?_
      obtain ⟨r1, r2, ka, kb⟩ := k
      refine z_icmp_ge (tgt := 67) dX12_buildsOnly_54 rfl r1 r2 rfl ⟨fun q => ?_, fun q => ?_⟩
      · have k := ka q
        refine z_iload_n 3 dX12_buildsOnly_67 rfl rfl rfl ?_
        refine z_istore dX12_buildsOnly_68 (Nat.le_of_ble_eq_true rfl) (L' := [some (vr 12 466), some (vi l1), some (vi l2), some (vi l3), some (vi l4), some (vi (h 472 l4)), some (vi l3)]) rfl rfl ?_
        refine z_iload dX12_buildsOnly_70 rfl rfl ?_
        refine z_iload dX12_buildsOnly_72 rfl rfl ?_
        obtain ⟨r1, r2, ka, kb⟩ := k
        refine z_icmp_gt (tgt := 85) dX12_buildsOnly_74 rfl r1 r2 rfl ⟨fun q => ?_, fun q => ?_⟩
        · have k := ka q
          refine z_iinc dX12_buildsOnly_85 rfl (Nat.le_of_ble_eq_true rfl) (L' := [some (vr 12 466), some (vi l1), some (vi l2), some (vi l3), some (vi (l4 + 1)), some (vi (h 472 l4)), some (vi l3)]) rfl rfl ?_
          refine z_goto (tgt := 6) dX12_buildsOnly_88 rfl ?_
          exact z_sub (L' := [some (vr 12 466), some (vi l1), some (vi l2), some (vi l3), some (vi (l4 + 1)), none, none]) (And.intro rfl (And.intro rfl (And.intro rfl (And.intro rfl (And.intro rfl trivial))))) k
        · have k := kb q
          refine z_aload_n 0 dX12_buildsOnly_77 rfl rfl (Nat.le_of_ble_eq_true rfl) rfl ?_
          refine z_iload dX12_buildsOnly_78 rfl rfl ?_
          refine z_iload dX12_buildsOnly_80 rfl rfl ?_
          refine z_callVv vX12_buildsRange kX12_506 dX12_buildsOnly_82 rfl (zRo_d d) (as := [vi (h 472 l4), vi l3]) (rest := []) (Nat.le_of_ble_eq_true rfl) rfl rfl (zCv_mono (fun h6 k => ?_) k)
          refine z_iinc dX12_buildsOnly_85 rfl (Nat.le_of_ble_eq_true rfl) (L' := [some (vr 12 466), some (vi l1), some (vi l2), some (vi l3), some (vi (l4 + 1)), some (vi (h 472 l4)), some (vi l3)]) rfl rfl ?_
          refine z_goto (tgt := 6) dX12_buildsOnly_88 rfl ?_
          exact z_sub (L' := [some (vr 12 466), some (vi l1), some (vi l2), some (vi l3), some (vi (l4 + 1)), none, none]) (And.intro rfl (And.intro rfl (And.intro rfl (And.intro rfl (And.intro rfl trivial))))) k
      · have k := kb q
        refine z_aload_n 0 dX12_buildsOnly_57 rfl rfl (Nat.le_of_ble_eq_true rfl) rfl ?_
        refine z_getF 12 13 (x := 473) fX12_34 rfl dX12_buildsOnly_58 rfl rfl ?_
        refine z_iload dX12_buildsOnly_61 rfl rfl ?_
        obtain ⟨i9, k⟩ := k
        refine z_iald (x := (h 473 l4)) dX12_buildsOnly_63 (by rw [zl_473]; exact i9) rfl rfl ?_
        refine z_goto (tgt := 68) dX12_buildsOnly_64 rfl ?_
        refine z_istore dX12_buildsOnly_68 (Nat.le_of_ble_eq_true rfl) (L' := [some (vr 12 466), some (vi l1), some (vi l2), some (vi l3), some (vi l4), some (vi (h 472 l4)), some (vi (h 473 l4))]) rfl rfl ?_
        refine z_iload dX12_buildsOnly_70 rfl rfl ?_
        refine z_iload dX12_buildsOnly_72 rfl rfl ?_
        obtain ⟨r1, r2, ka, kb⟩ := k
        refine z_icmp_gt (tgt := 85) dX12_buildsOnly_74 rfl r1 r2 rfl ⟨fun q => ?_, fun q => ?_⟩
        · have k := ka q
          refine z_iinc dX12_buildsOnly_85 rfl (Nat.le_of_ble_eq_true rfl) (L' := [some (vr 12 466), some (vi l1), some (vi l2), some (vi l3), some (vi (l4 + 1)), some (vi (h 472 l4)), some (vi (h 473 l4))]) rfl rfl ?_
          refine z_goto (tgt := 6) dX12_buildsOnly_88 rfl ?_
          exact z_sub (L' := [some (vr 12 466), some (vi l1), some (vi l2), some (vi l3), some (vi (l4 + 1)), none, none]) (And.intro rfl (And.intro rfl (And.intro rfl (And.intro rfl (And.intro rfl trivial))))) k
        · have k := kb q
          refine z_aload_n 0 dX12_buildsOnly_77 rfl rfl (Nat.le_of_ble_eq_true rfl) rfl ?_
          refine z_iload dX12_buildsOnly_78 rfl rfl ?_
          refine z_iload dX12_buildsOnly_80 rfl rfl ?_
          refine z_callVv vX12_buildsRange kX12_506 dX12_buildsOnly_82 rfl (zRo_d d) (as := [vi (h 472 l4), vi (h 473 l4)]) (rest := []) (Nat.le_of_ble_eq_true rfl) rfl rfl (zCv_mono (fun h8 k => ?_) k)
          refine z_iinc dX12_buildsOnly_85 rfl (Nat.le_of_ble_eq_true rfl) (L' := [some (vr 12 466), some (vi l1), some (vi l2), some (vi l3), some (vi (l4 + 1)), some (vi (h 472 l4)), some (vi (h 473 l4))]) rfl rfl ?_
          refine z_goto (tgt := 6) dX12_buildsOnly_88 rfl ?_
          exact z_sub (L' := [some (vr 12 466), some (vi l1), some (vi l2), some (vi l3), some (vi (l4 + 1)), none, none]) (And.intro rfl (And.intro rfl (And.intro rfl (And.intro rfl (And.intro rfl trivial))))) k
theorem eX12_buildsOnly {G : zG} {d : Nat} {K : zH → Prop} {l1 : Int} {l2 : Int} {l3 : Int} {h : zH} (k : tX12_buildsOnly_0 G d K l1 l2 l3 h) : zCv G (d + 1) mX12_buildsOnly [vr 12 466, vi l1, vi l2, vi l3] h K := z_entry (by decide +kernel) (Nat.le_of_ble_eq_true rfl) rfl k
def tX12_makesLike_0 (G : zG) (d : Nat) (K : Int → zH → Prop) (l1 : Int) (h : zH) : Prop := zTi G (d + 1) mX12_makesLike K 0 [some (vr 12 466), some (vi l1)] [] h
theorem bX12_makesLike_0 {G : zG} {d : Nat} {K : Int → zH → Prop} {l1 : Int} {h : zH} (k : zCv G d mX12_buildsFrees [vr 12 466, vi l1, vi 0, vi (bi false)] h (fun h2 => ((0 : Int) ≤ l1 ∧ l1 < 14) ∧ zCi G d mX12_makes [vr 12 466] (zup h2 466 50 (h2 502 l1)) (fun x3 h4 => K x3 h4))) : tX12_makesLike_0 G d K l1 h := by
  unfold tX12_makesLike_0
  refine z_aload_n 0 dX12_makesLike_0 rfl rfl (Nat.le_of_ble_eq_true rfl) rfl ?_
  refine z_iload_n 1 dX12_makesLike_1 rfl rfl rfl ?_
  refine z_iconst dX12_makesLike_2 rfl ?_
  refine z_iconst dX12_makesLike_3 rfl ?_
  refine z_callVv vX12_buildsFrees kX12_696 dX12_makesLike_4 rfl (zRo_d d) (as := [vi l1, vi 0, vi (bi false)]) (rest := []) (Nat.le_of_ble_eq_true rfl) rfl rfl (zCv_mono (fun h2 k => ?_) k)
  refine z_aload_n 0 dX12_makesLike_7 rfl rfl (Nat.le_of_ble_eq_true rfl) rfl ?_
  refine z_aload_n 0 dX12_makesLike_8 rfl rfl (Nat.le_of_ble_eq_true rfl) rfl ?_
  refine z_getF 12 14 (x := 502) fX12_121 rfl dX12_makesLike_9 rfl rfl ?_
  refine z_iload_n 1 dX12_makesLike_12 rfl rfl rfl ?_
  obtain ⟨i9, k⟩ := k
  refine z_lald (x := (h2 502 l1)) dX12_makesLike_13 (by rw [zl_502]; exact i9) rfl rfl ?_
  refine z_putL 12 gX12_493 dX12_makesLike_14 rfl ?_
  refine z_aload_n 0 dX12_makesLike_17 rfl rfl (Nat.le_of_ble_eq_true rfl) rfl ?_
  refine z_callVi vX12_makes kX12_682 dX12_makesLike_18 rfl (zRo_d d) (as := []) (rest := []) (Nat.le_of_ble_eq_true rfl) rfl rfl (zCi_mono (fun x3 h4 k => ?_) k)
  exact z_ireturn rfl dX12_makesLike_21 ⟨_, rfl, k⟩
theorem eX12_makesLike {G : zG} {d : Nat} {K : Int → zH → Prop} {l1 : Int} {h : zH} (k : tX12_makesLike_0 G d K l1 h) : zCi G (d + 1) mX12_makesLike [vr 12 466, vi l1] h K := z_entry (by decide +kernel) (Nat.le_of_ble_eq_true rfl) rfl k
def tX12_moved_0 (G : zG) (d : Nat) (K : Int → zH → Prop) (l1 : Int) (l2 : Int) (h : zH) : Prop := zTi G (d + 1) mX12_moved K 0 [some (vr 12 466), some (vi l1), some (vi l2), none, none] [] h
def tX12_moved_62 (G : zG) (d : Nat) (K : Int → zH → Prop) (l1 : Int) (l2 : Int) (l3 : Int) (h : zH) : Prop := zTi G (d + 1) mX12_moved K 62 [some (vr 12 466), some (vi l1), some (vi l2), some (vi l3), none] [] h
def tX12_moved_104 (G : zG) (d : Nat) (K : Int → zH → Prop) (l1 : Int) (l2 : Int) (l3 : Int) (l4 : Int) (h : zH) : Prop := zTi G (d + 1) mX12_moved K 104 [some (vr 12 466), some (vi l1), some (vi l2), some (vi l3), some (vi l4)] [] h
theorem bX12_moved_0 {G : zG} {d : Nat} {K : Int → zH → Prop} {l1 : Int} {l2 : Int} {h : zH} (k : zCb G d mX12_isMachine [vr 12 466, vi l1] (zup h 466 0 0) (fun x1 h2 => (x1 = true → zCb G d mX12_in [vi l2, vi (-65535), vi 65535] h2 (fun x3 h4 => (x3 = true → zCi G d mX12_mostMachines [vr 12 466] h4 (fun x5 h6 => zR x5 ∧ (x5 ≤ 0 → ((0 : Int) ≤ l1 ∧ l1 < 14) ∧ zCv G d mX12_builds [vr 12 466, vi (h6 493 l1)] h6 (fun h8 => tX12_moved_62 G d K l1 l2 0 h8)) ∧ (¬ x5 ≤ 0 → zCi G d mX12_refused [vr 12 466, vi 3] h6 (fun x9 h10 => K x9 h10)))) ∧ (x3 = false → zCi G d mX12_refused [vr 12 466, vi 2] h4 (fun x11 h12 => K x11 h12)))) ∧ (x1 = false → zCi G d mX12_refused [vr 12 466, vi 1] h2 (fun x13 h14 => K x13 h14)))) : tX12_moved_0 G d K l1 l2 h := by
  unfold tX12_moved_0
  refine z_aload_n 0 dX12_moved_0 rfl rfl (Nat.le_of_ble_eq_true rfl) rfl ?_
  refine z_iconst dX12_moved_1 rfl ?_
  refine z_putI 12 gX12_190 dX12_moved_2 rfl ?_
  refine z_aload_n 0 dX12_moved_5 rfl rfl (Nat.le_of_ble_eq_true rfl) rfl ?_
  refine z_iload_n 1 dX12_moved_6 rfl rfl rfl ?_
  refine z_callVb vX12_isMachine kX12_561 dX12_moved_7 rfl (zRo_d d) (as := [vi l1]) (rest := []) (Nat.le_of_ble_eq_true rfl) rfl rfl (zCb_mono (fun x1 h2 k => ?_) k)
  obtain ⟨ka, kb⟩ := k
  refine z_ifb_ne (tgt := 19) dX12_moved_10 rfl rfl ⟨fun q => ?_, fun q => ?_⟩
  · have k := ka q
    refine z_iload_n 2 dX12_moved_19 rfl rfl rfl ?_
    refine z_ldcw (x := (-65535)) cX12_711 rfl dX12_moved_20 rfl ?_
    refine z_ldc (x := 65535) cX12_200 rfl dX12_moved_23 rfl ?_
    refine z_callSb sX12_in kX12_201 dX12_moved_25 rfl (zRo_d d) (as := [vi l2, vi (-65535), vi 65535]) (rest := []) (Nat.le_of_ble_eq_true rfl) rfl rfl (zCb_mono (fun x3 h4 k => ?_) k)
    obtain ⟨ka, kb⟩ := k
    refine z_ifb_ne (tgt := 37) dX12_moved_28 rfl rfl ⟨fun q => ?_, fun q => ?_⟩
    · have k := ka q
      refine z_aload_n 0 dX12_moved_37 rfl rfl (Nat.le_of_ble_eq_true rfl) rfl ?_
      refine z_callVi vX12_mostMachines kX12_672 dX12_moved_38 rfl (zRo_d d) (as := []) (rest := []) (Nat.le_of_ble_eq_true rfl) rfl rfl (zCi_mono (fun x5 h6 k => ?_) k)
      obtain ⟨r1, ka, kb⟩ := k
      refine z_if_le (tgt := 50) dX12_moved_41 rfl r1 rfl ⟨fun q => ?_, fun q => ?_⟩
      · have k := ka q
        refine z_aload_n 0 dX12_moved_50 rfl rfl (Nat.le_of_ble_eq_true rfl) rfl ?_
        refine z_aload_n 0 dX12_moved_51 rfl rfl (Nat.le_of_ble_eq_true rfl) rfl ?_
        refine z_getF 12 13 (x := 493) fX12_94 rfl dX12_moved_52 rfl rfl ?_
        refine z_iload_n 1 dX12_moved_55 rfl rfl rfl ?_
        obtain ⟨i9, k⟩ := k
        refine z_iald (x := (h6 493 l1)) dX12_moved_56 (by rw [zl_493]; exact i9) rfl rfl ?_
        refine z_callVv vX12_builds kX12_500 dX12_moved_57 rfl (zRo_d d) (as := [vi (h6 493 l1)]) (rest := []) (Nat.le_of_ble_eq_true rfl) rfl rfl (zCv_mono (fun h8 k => ?_) k)
        refine z_iconst dX12_moved_60 rfl ?_
        refine z_istore_n 3 dX12_moved_61 rfl (Nat.le_of_ble_eq_true rfl) (L' := [some (vr 12 466), some (vi l1), some (vi l2), some (vi 0), none]) rfl rfl ?_
        exact z_sub (L' := [some (vr 12 466), some (vi l1), some (vi l2), some (vi 0), none]) (And.intro rfl (And.intro rfl (And.intro rfl (And.intro rfl trivial)))) k
      · have k := kb q
        refine z_aload_n 0 dX12_moved_44 rfl rfl (Nat.le_of_ble_eq_true rfl) rfl ?_
        refine z_iconst dX12_moved_45 rfl ?_
        refine z_callVi vX12_refused kX12_426 dX12_moved_46 rfl (zRo_d d) (as := [vi 3]) (rest := []) (Nat.le_of_ble_eq_true rfl) rfl rfl (zCi_mono (fun x9 h10 k => ?_) k)
        exact z_ireturn rfl dX12_moved_49 ⟨_, rfl, k⟩
    · have k := kb q
      refine z_aload_n 0 dX12_moved_31 rfl rfl (Nat.le_of_ble_eq_true rfl) rfl ?_
      refine z_iconst dX12_moved_32 rfl ?_
      refine z_callVi vX12_refused kX12_426 dX12_moved_33 rfl (zRo_d d) (as := [vi 2]) (rest := []) (Nat.le_of_ble_eq_true rfl) rfl rfl (zCi_mono (fun x11 h12 k => ?_) k)
      exact z_ireturn rfl dX12_moved_36 ⟨_, rfl, k⟩
  · have k := kb q
    refine z_aload_n 0 dX12_moved_13 rfl rfl (Nat.le_of_ble_eq_true rfl) rfl ?_
    refine z_iconst dX12_moved_14 rfl ?_
    refine z_callVi vX12_refused kX12_426 dX12_moved_15 rfl (zRo_d d) (as := [vi 1]) (rest := []) (Nat.le_of_ble_eq_true rfl) rfl rfl (zCi_mono (fun x13 h14 k => ?_) k)
    exact z_ireturn rfl dX12_moved_18 ⟨_, rfl, k⟩
theorem bX12_moved_62 {G : zG} {d : Nat} {K : Int → zH → Prop} {l1 : Int} {l2 : Int} {l3 : Int} {h : zH} (k : ((0 : Int) ≤ l1 ∧ l1 < 14) ∧ zR l3 ∧ zR (h 494 l1) ∧ ((h 494 l1) ≤ l3 → zCi G d mX12_makesLike [vr 12 466, vi l1] h (fun x1 h2 => K x1 h2)) ∧ (¬ (h 494 l1) ≤ l3 → ((0 : Int) ≤ ((l1 * 160) + l3) ∧ ((l1 * 160) + l3) < 2240) ∧ ((0 : Int) ≤ ((l1 * 160) + l3) ∧ ((l1 * 160) + l3) < 2240) ∧ zCb G d mX12_buildsEdge [vr 12 466, vi (h 498 ((l1 * 160) + l3)), vi (h 499 ((l1 * 160) + l3))] h (fun x3 h4 => tX12_moved_104 G d K l1 l2 l3 0 h4))) : tX12_moved_62 G d K l1 l2 l3 h := by
  unfold tX12_moved_62
  refine z_iload_n 3 dX12_moved_62 rfl rfl rfl ?_
  refine z_aload_n 0 dX12_moved_63 rfl rfl (Nat.le_of_ble_eq_true rfl) rfl ?_
  refine z_getF 12 13 (x := 494) fX12_97 rfl dX12_moved_64 rfl rfl ?_
  refine z_iload_n 1 dX12_moved_67 rfl rfl rfl ?_
  obtain ⟨i9, k⟩ := k
  refine z_iald (x := (h 494 l1)) dX12_moved_68 (by rw [zl_494]; exact i9) rfl rfl ?_
  obtain ⟨r1, r2, ka, kb⟩ := k
  refine z_icmp_ge (tgt := 172) dX12_moved_69 rfl r1 r2 rfl ⟨fun q => ?_, fun q => ?_⟩
  · have k := ka q
    refine z_aload_n 0 dX12_moved_172 rfl rfl (Nat.le_of_ble_eq_true rfl) rfl ?_
    refine z_iload_n 1 dX12_moved_173 rfl rfl rfl ?_
    refine z_callVi vX12_makesLike kX12_708 dX12_moved_174 rfl (zRo_d d) (as := [vi l1]) (rest := []) (Nat.le_of_ble_eq_true rfl) rfl rfl (zCi_mono (fun x1 h2 k => ?_) k)
    exact z_ireturn rfl dX12_moved_177 ⟨_, rfl, k⟩
  · have k := kb q
    refine z_aload_n 0 dX12_moved_72 rfl rfl (Nat.le_of_ble_eq_true rfl) rfl ?_
    refine z_aload_n 0 dX12_moved_73 rfl rfl (Nat.le_of_ble_eq_true rfl) rfl ?_
    refine z_getF 12 13 (x := 498) fX12_109 rfl dX12_moved_74 rfl rfl ?_
    refine z_iload_n 1 dX12_moved_77 rfl rfl rfl ?_
    refine z_sipush dX12_moved_78 rfl rfl ?_
    refine z_imul dX12_moved_81 rfl ?_
    refine z_iload_n 3 dX12_moved_82 rfl rfl rfl ?_
    refine z_iadd dX12_moved_83 rfl ?_
    obtain ⟨i9, k⟩ := k
    refine z_iald (x := (h 498 ((l1 * 160) + l3))) dX12_moved_84 (by rw [zl_498]; exact i9) rfl rfl ?_
    refine z_aload_n 0 dX12_moved_85 rfl rfl (Nat.le_of_ble_eq_true rfl) rfl ?_
    refine z_getF 12 13 (x := 499) fX12_112 rfl dX12_moved_86 rfl rfl ?_
    refine z_iload_n 1 dX12_moved_89 rfl rfl rfl ?_
    refine z_sipush dX12_moved_90 rfl rfl ?_
    refine z_imul dX12_moved_93 rfl ?_
    refine z_iload_n 3 dX12_moved_94 rfl rfl rfl ?_
    refine z_iadd dX12_moved_95 rfl ?_
    obtain ⟨i9, k⟩ := k
    refine z_iald (x := (h 499 ((l1 * 160) + l3))) dX12_moved_96 (by rw [zl_499]; exact i9) rfl rfl ?_
    refine z_callVb vX12_buildsEdge kX12_503 dX12_moved_97 rfl (zRo_d d) (as := [vi (h 498 ((l1 * 160) + l3)), vi (h 499 ((l1 * 160) + l3))]) (rest := []) (Nat.le_of_ble_eq_true rfl) rfl rfl (zCb_mono (fun x3 h4 k => ?_) k)
    refine z_pop dX12_moved_100 (fun q => by cases q) rfl ?_
    refine z_iconst dX12_moved_101 rfl ?_
    refine z_istore dX12_moved_102 (Nat.le_of_ble_eq_true rfl) (L' := [some (vr 12 466), some (vi l1), some (vi l2), some (vi l3), some (vi 0)]) rfl rfl ?_
    exact z_sub (L' := [some (vr 12 466), some (vi l1), some (vi l2), some (vi l3), some (vi 0)]) (And.intro rfl (And.intro rfl (And.intro rfl (And.intro rfl (And.intro rfl trivial))))) k
theorem bX12_moved_104 {G : zG} {d : Nat} {K : Int → zH → Prop} {l1 : Int} {l2 : Int} {l3 : Int} {l4 : Int} {h : zH} (k : ((0 : Int) ≤ l1 ∧ l1 < 14) ∧ zR l4 ∧ zR (h 496 l1) ∧ ((h 496 l1) ≤ l4 → zCv G d mX12_keepsEdge [vr 12 466] h (fun h2 => tX12_moved_62 G d K l1 l2 (l3 + 1) h2)) ∧ (¬ (h 496 l1) ≤ l4 → zCb G d mX12_edgeHas [vr 12 466, vi l1, vi l3, vi l4] h (fun x3 h4 => (x3 = false → tX12_moved_104 G d K l1 l2 l3 (l4 + 1) h4) ∧ (x3 = true → ((0 : Int) ≤ ((l1 * 128) + l4) ∧ ((l1 * 128) + l4) < 1792) ∧ zCi G d mX12_blockEnd [vr 12 466, vi l1, vi l4] h4 (fun x5 h6 => zCv G d mX12_buildsMoved [vr 12 466, vi ((h4 497 ((l1 * 128) + l4)) + l2), vi ((x5 - 1) + l2)] h6 (fun h8 => tX12_moved_104 G d K l1 l2 l3 (l4 + 1) h8)))))) : tX12_moved_104 G d K l1 l2 l3 l4 h := by
  unfold tX12_moved_104
  refine z_iload dX12_moved_104 rfl rfl ?_
  refine z_aload_n 0 dX12_moved_106 rfl rfl (Nat.le_of_ble_eq_true rfl) rfl ?_
  refine z_getF 12 13 (x := 496) fX12_103 rfl dX12_moved_107 rfl rfl ?_
  refine z_iload_n 1 dX12_moved_110 rfl rfl rfl ?_
  obtain ⟨i9, k⟩ := k
  refine z_iald (x := (h 496 l1)) dX12_moved_111 (by rw [zl_496]; exact i9) rfl rfl ?_
  obtain ⟨r1, r2, ka, kb⟩ := k
  refine z_icmp_ge (tgt := 162) dX12_moved_112 rfl r1 r2 rfl ⟨fun q => ?_, fun q => ?_⟩
  · have k := ka q
    refine z_aload_n 0 dX12_moved_162 rfl rfl (Nat.le_of_ble_eq_true rfl) rfl ?_
    refine z_callVv vX12_keepsEdge kX12_705 dX12_moved_163 rfl (zRo_d d) (as := []) (rest := []) (Nat.le_of_ble_eq_true rfl) rfl rfl (zCv_mono (fun h2 k => ?_) k)
    refine z_iinc dX12_moved_166 rfl (Nat.le_of_ble_eq_true rfl) (L' := [some (vr 12 466), some (vi l1), some (vi l2), some (vi (l3 + 1)), some (vi l4)]) rfl rfl ?_
    refine z_goto (tgt := 62) dX12_moved_169 rfl ?_
    exact z_sub (L' := [some (vr 12 466), some (vi l1), some (vi l2), some (vi (l3 + 1)), none]) (And.intro rfl (And.intro rfl (And.intro rfl (And.intro rfl trivial)))) k
  · have k := kb q
    refine z_aload_n 0 dX12_moved_115 rfl rfl (Nat.le_of_ble_eq_true rfl) rfl ?_
    refine z_iload_n 1 dX12_moved_116 rfl rfl rfl ?_
    refine z_iload_n 3 dX12_moved_117 rfl rfl rfl ?_
    refine z_iload dX12_moved_118 rfl rfl ?_
    refine z_callVb vX12_edgeHas kX12_527 dX12_moved_120 rfl (zRo_d d) (as := [vi l1, vi l3, vi l4]) (rest := []) (Nat.le_of_ble_eq_true rfl) rfl rfl (zCb_mono (fun x3 h4 k => ?_) k)
    obtain ⟨ka, kb⟩ := k
    refine z_ifb_eq (tgt := 156) dX12_moved_123 rfl rfl ⟨fun q => ?_, fun q => ?_⟩
    · have k := ka q
      refine z_iinc dX12_moved_156 rfl (Nat.le_of_ble_eq_true rfl) (L' := [some (vr 12 466), some (vi l1), some (vi l2), some (vi l3), some (vi (l4 + 1))]) rfl rfl ?_
      refine z_goto (tgt := 104) dX12_moved_159 rfl ?_
      exact z_sub (L' := [some (vr 12 466), some (vi l1), some (vi l2), some (vi l3), some (vi (l4 + 1))]) (And.intro rfl (And.intro rfl (And.intro rfl (And.intro rfl (And.intro rfl trivial))))) k
    · have k := kb q
      refine z_aload_n 0 dX12_moved_126 rfl rfl (Nat.le_of_ble_eq_true rfl) rfl ?_
      refine z_aload_n 0 dX12_moved_127 rfl rfl (Nat.le_of_ble_eq_true rfl) rfl ?_
      refine z_getF 12 13 (x := 497) fX12_106 rfl dX12_moved_128 rfl rfl ?_
      refine z_iload_n 1 dX12_moved_131 rfl rfl rfl ?_
      refine z_sipush dX12_moved_132 rfl rfl ?_
      refine z_imul dX12_moved_135 rfl ?_
      refine z_iload dX12_moved_136 rfl rfl ?_
      refine z_iadd dX12_moved_138 rfl ?_
      obtain ⟨i9, k⟩ := k
      refine z_iald (x := (h4 497 ((l1 * 128) + l4))) dX12_moved_139 (by rw [zl_497]; exact i9) rfl rfl ?_
      refine z_iload_n 2 dX12_moved_140 rfl rfl rfl ?_
      refine z_iadd dX12_moved_141 rfl ?_
      refine z_aload_n 0 dX12_moved_142 rfl rfl (Nat.le_of_ble_eq_true rfl) rfl ?_
      refine z_iload_n 1 dX12_moved_143 rfl rfl rfl ?_
      refine z_iload dX12_moved_144 rfl rfl ?_
      refine z_callVi vX12_blockEnd kX12_571 dX12_moved_146 rfl (zRo_d d) (as := [vi l1, vi l4]) (rest := [vi ((h4 497 ((l1 * 128) + l4)) + l2), vr 12 466]) (Nat.le_of_ble_eq_true rfl) rfl rfl (zCi_mono (fun x5 h6 k => ?_) k)
      refine z_iconst dX12_moved_149 rfl ?_
      refine z_isub dX12_moved_150 rfl ?_
      refine z_iload_n 2 dX12_moved_151 rfl rfl rfl ?_
      refine z_iadd dX12_moved_152 rfl ?_
      refine z_callVv vX12_buildsMoved kX12_712 dX12_moved_153 rfl (zRo_d d) (as := [vi ((h4 497 ((l1 * 128) + l4)) + l2), vi ((x5 - 1) + l2)]) (rest := []) (Nat.le_of_ble_eq_true rfl) rfl rfl (zCv_mono (fun h8 k => ?_) k)
      refine z_iinc dX12_moved_156 rfl (Nat.le_of_ble_eq_true rfl) (L' := [some (vr 12 466), some (vi l1), some (vi l2), some (vi l3), some (vi (l4 + 1))]) rfl rfl ?_
      refine z_goto (tgt := 104) dX12_moved_159 rfl ?_
      exact z_sub (L' := [some (vr 12 466), some (vi l1), some (vi l2), some (vi l3), some (vi (l4 + 1))]) (And.intro rfl (And.intro rfl (And.intro rfl (And.intro rfl (And.intro rfl trivial))))) k
theorem eX12_moved {G : zG} {d : Nat} {K : Int → zH → Prop} {l1 : Int} {l2 : Int} {h : zH} (k : tX12_moved_0 G d K l1 l2 h) : zCi G (d + 1) mX12_moved [vr 12 466, vi l1, vi l2] h K := z_entry (by decide +kernel) (Nat.le_of_ble_eq_true rfl) rfl k
def tX12_buildsMoved_0 (G : zG) (d : Nat) (K : zH → Prop) (l1 : Int) (l2 : Int) (h : zH) : Prop := zTv G (d + 1) mX12_buildsMoved K 0 [some (vr 12 466), some (vi l1), some (vi l2), none, none] [] h
theorem bX12_buildsMoved_0 {G : zG} {d : Nat} {K : zH → Prop} {l1 : Int} {l2 : Int} {h : zH} (k : zR l1 ∧ (0 ≤ l1 → zR l2 ∧ (65536 ≤ l2 → zR l1 ∧ (65535 < l1 → K h) ∧ (¬ 65535 < l1 → zCv G d mX12_buildsRange [vr 12 466, vi l1, vi 65535] h (fun h2 => K h2))) ∧ (¬ 65536 ≤ l2 → zR l1 ∧ zR l2 ∧ (l2 < l1 → K h) ∧ (¬ l2 < l1 → zCv G d mX12_buildsRange [vr 12 466, vi l1, vi l2] h (fun h4 => K h4)))) ∧ (¬ 0 ≤ l1 → zR l2 ∧ (65536 ≤ l2 → zCv G d mX12_buildsRange [vr 12 466, vi 0, vi 65535] h (fun h6 => K h6)) ∧ (¬ 65536 ≤ l2 → zR l2 ∧ (l2 < 0 → K h) ∧ (¬ l2 < 0 → zCv G d mX12_buildsRange [vr 12 466, vi 0, vi l2] h (fun h8 => K h8))))) : tX12_buildsMoved_0 G d K l1 l2 h := by
  unfold tX12_buildsMoved_0
  refine z_iload_n 1 dX12_buildsMoved_0 rfl rfl rfl ?_
  obtain ⟨r1, ka, kb⟩ := k
  refine z_if_ge (tgt := 8) dX12_buildsMoved_1 rfl r1 rfl ⟨fun q => ?_, fun q => ?_⟩
  · have k := ka q
    refine z_iload_n 1 dX12_buildsMoved_8 rfl rfl rfl ?_
    refine z_istore_n 3 dX12_buildsMoved_9 rfl (Nat.le_of_ble_eq_true rfl) (L' := [some (vr 12 466), some (vi l1), some (vi l2), some (vi l1), none]) rfl rfl ?_
    refine z_iload_n 2 dX12_buildsMoved_10 rfl rfl rfl ?_
    refine z_ldcw (x := 65536) cX12_373 rfl dX12_buildsMoved_11 rfl ?_
    obtain ⟨r1, ka, kb⟩ := k
    refine z_icmp_ge (tgt := 21) dX12_buildsMoved_14 rfl r1 ⟨by decide, by decide⟩ rfl ⟨fun q => ?_, fun q => ?_⟩
    · have k := ka q
      refine z_ldc (x := 65535) cX12_200 rfl dX12_buildsMoved_21 rfl ?_
      refine z_istore dX12_buildsMoved_23 (Nat.le_of_ble_eq_true rfl) (L' := [some (vr 12 466), some (vi l1), some (vi l2), some (vi l1), some (vi 65535)]) rfl rfl ?_
      refine z_iload_n 3 dX12_buildsMoved_25 rfl rfl rfl ?_
      refine z_iload dX12_buildsMoved_26 rfl rfl ?_
      obtain ⟨r1, ka, kb⟩ := k
      refine z_icmp_gt (tgt := 38) dX12_buildsMoved_28 rfl r1 ⟨by decide, by decide⟩ rfl ⟨fun q => ?_, fun q => ?_⟩
      · have k := ka q
        exact z_return rfl dX12_buildsMoved_38 ⟨rfl, k⟩
      · have k := kb q
        refine z_aload_n 0 dX12_buildsMoved_31 rfl rfl (Nat.le_of_ble_eq_true rfl) rfl ?_
        refine z_iload_n 3 dX12_buildsMoved_32 rfl rfl rfl ?_
        refine z_iload dX12_buildsMoved_33 rfl rfl ?_
        refine z_callVv vX12_buildsRange kX12_506 dX12_buildsMoved_35 rfl (zRo_d d) (as := [vi l1, vi 65535]) (rest := []) (Nat.le_of_ble_eq_true rfl) rfl rfl (zCv_mono (fun h2 k => ?_) k)
        exact z_return rfl dX12_buildsMoved_38 ⟨rfl, k⟩
    · have k := kb q
      refine z_iload_n 2 dX12_buildsMoved_17 rfl rfl rfl ?_
      refine z_goto (tgt := 23) dX12_buildsMoved_18 rfl ?_
      refine z_istore dX12_buildsMoved_23 (Nat.le_of_ble_eq_true rfl) (L' := [some (vr 12 466), some (vi l1), some (vi l2), some (vi l1), some (vi l2)]) rfl rfl ?_
      refine z_iload_n 3 dX12_buildsMoved_25 rfl rfl rfl ?_
      refine z_iload dX12_buildsMoved_26 rfl rfl ?_
      obtain ⟨r1, r2, ka, kb⟩ := k
      refine z_icmp_gt (tgt := 38) dX12_buildsMoved_28 rfl r1 r2 rfl ⟨fun q => ?_, fun q => ?_⟩
      · have k := ka q
        exact z_return rfl dX12_buildsMoved_38 ⟨rfl, k⟩
      · have k := kb q
        refine z_aload_n 0 dX12_buildsMoved_31 rfl rfl (Nat.le_of_ble_eq_true rfl) rfl ?_
        refine z_iload_n 3 dX12_buildsMoved_32 rfl rfl rfl ?_
        refine z_iload dX12_buildsMoved_33 rfl rfl ?_
        refine z_callVv vX12_buildsRange kX12_506 dX12_buildsMoved_35 rfl (zRo_d d) (as := [vi l1, vi l2]) (rest := []) (Nat.le_of_ble_eq_true rfl) rfl rfl (zCv_mono (fun h4 k => ?_) k)
        exact z_return rfl dX12_buildsMoved_38 ⟨rfl, k⟩
  · have k := kb q
    refine z_iconst dX12_buildsMoved_4 rfl ?_
    refine z_goto (tgt := 9) dX12_buildsMoved_5 rfl ?_
    refine z_istore_n 3 dX12_buildsMoved_9 rfl (Nat.le_of_ble_eq_true rfl) (L' := [some (vr 12 466), some (vi l1), some (vi l2), some (vi 0), none]) rfl rfl ?_
    refine z_iload_n 2 dX12_buildsMoved_10 rfl rfl rfl ?_
    refine z_ldcw (x := 65536) cX12_373 rfl dX12_buildsMoved_11 rfl ?_
    obtain ⟨r1, ka, kb⟩ := k
    refine z_icmp_ge (tgt := 21) dX12_buildsMoved_14 rfl r1 ⟨by decide, by decide⟩ rfl ⟨fun q => ?_, fun q => ?_⟩
    · have k := ka q
      refine z_ldc (x := 65535) cX12_200 rfl dX12_buildsMoved_21 rfl ?_
      refine z_istore dX12_buildsMoved_23 (Nat.le_of_ble_eq_true rfl) (L' := [some (vr 12 466), some (vi l1), some (vi l2), some (vi 0), some (vi 65535)]) rfl rfl ?_
      refine z_iload_n 3 dX12_buildsMoved_25 rfl rfl rfl ?_
      refine z_iload dX12_buildsMoved_26 rfl rfl ?_
      refine z_icmp_gt (tgt := 38) dX12_buildsMoved_28 rfl ⟨by decide, by decide⟩ ⟨by decide, by decide⟩ rfl ⟨fun q => absurd q (by decide), fun _ => ?_⟩
      refine z_aload_n 0 dX12_buildsMoved_31 rfl rfl (Nat.le_of_ble_eq_true rfl) rfl ?_
      refine z_iload_n 3 dX12_buildsMoved_32 rfl rfl rfl ?_
      refine z_iload dX12_buildsMoved_33 rfl rfl ?_
      refine z_callVv vX12_buildsRange kX12_506 dX12_buildsMoved_35 rfl (zRo_d d) (as := [vi 0, vi 65535]) (rest := []) (Nat.le_of_ble_eq_true rfl) rfl rfl (zCv_mono (fun h6 k => ?_) k)
      exact z_return rfl dX12_buildsMoved_38 ⟨rfl, k⟩
    · have k := kb q
      refine z_iload_n 2 dX12_buildsMoved_17 rfl rfl rfl ?_
      refine z_goto (tgt := 23) dX12_buildsMoved_18 rfl ?_
      refine z_istore dX12_buildsMoved_23 (Nat.le_of_ble_eq_true rfl) (L' := [some (vr 12 466), some (vi l1), some (vi l2), some (vi 0), some (vi l2)]) rfl rfl ?_
      refine z_iload_n 3 dX12_buildsMoved_25 rfl rfl rfl ?_
      refine z_iload dX12_buildsMoved_26 rfl rfl ?_
      obtain ⟨r1, ka, kb⟩ := k
      refine z_icmp_gt (tgt := 38) dX12_buildsMoved_28 rfl ⟨by decide, by decide⟩ r1 rfl ⟨fun q => ?_, fun q => ?_⟩
      · have k := ka q
        exact z_return rfl dX12_buildsMoved_38 ⟨rfl, k⟩
      · have k := kb q
        refine z_aload_n 0 dX12_buildsMoved_31 rfl rfl (Nat.le_of_ble_eq_true rfl) rfl ?_
        refine z_iload_n 3 dX12_buildsMoved_32 rfl rfl rfl ?_
        refine z_iload dX12_buildsMoved_33 rfl rfl ?_
        refine z_callVv vX12_buildsRange kX12_506 dX12_buildsMoved_35 rfl (zRo_d d) (as := [vi 0, vi l2]) (rest := []) (Nat.le_of_ble_eq_true rfl) rfl rfl (zCv_mono (fun h8 k => ?_) k)
        exact z_return rfl dX12_buildsMoved_38 ⟨rfl, k⟩
theorem eX12_buildsMoved {G : zG} {d : Nat} {K : zH → Prop} {l1 : Int} {l2 : Int} {h : zH} (k : tX12_buildsMoved_0 G d K l1 l2 h) : zCv G (d + 1) mX12_buildsMoved [vr 12 466, vi l1, vi l2] h K := z_entry (by decide +kernel) (Nat.le_of_ble_eq_true rfl) rfl k
def tX12_past_0 (G : zG) (d : Nat) (K : Int → zH → Prop) (l1 : Int) (l2 : Int) (h : zH) : Prop := zTi G (d + 1) mX12_past K 0 [some (vr 12 466), some (vi l1), some (vi l2), none, none, none] [] h
def tX12_past_78 (G : zG) (d : Nat) (K : Int → zH → Prop) (l1 : Int) (l3 : Int) (l5 : Int) (h : zH) : Prop := zTi G (d + 1) mX12_past K 78 [some (vr 12 466), some (vi l1), none, some (vl l3), none, some (vi l5)] [] h
theorem bX12_past_0 {G : zG} {d : Nat} {K : Int → zH → Prop} {l1 : Int} {l2 : Int} {h : zH} (k : zCb G d mX12_isMachine [vr 12 466, vi l1] (zup h 466 0 0) (fun x1 h2 => (x1 = true → zCb G d mX12_isLetter [vi l2] h2 (fun x3 h4 => (x3 = true → zCi G d mX12_mostMachines [vr 12 466] h4 (fun x5 h6 => zR x5 ∧ (x5 ≤ 0 → zCl G d mX12_freed [vr 12 466, vi l1, vl 1] h6 (fun x7 h8 => zCi G d mX12_blockAt [vr 12 466, vi l1, vi l2] h8 (fun x9 h10 => zCl G d mX12_stepped [vr 12 466, vi l1, vl x7, vi x9] h10 (fun x11 h12 => ((0 : Int) ≤ l1 ∧ l1 < 14) ∧ zCv G d mX12_builds [vr 12 466, vi ((h12 493 l1) + 1)] h12 (fun h14 => tX12_past_78 G d K l1 x11 0 h14))))) ∧ (¬ x5 ≤ 0 → zCi G d mX12_refused [vr 12 466, vi 3] h6 (fun x15 h16 => K x15 h16)))) ∧ (x3 = false → zCi G d mX12_refused [vr 12 466, vi 2] h4 (fun x17 h18 => K x17 h18)))) ∧ (x1 = false → zCi G d mX12_refused [vr 12 466, vi 1] h2 (fun x19 h20 => K x19 h20)))) : tX12_past_0 G d K l1 l2 h := by
  unfold tX12_past_0
  refine z_aload_n 0 dX12_past_0 rfl rfl (Nat.le_of_ble_eq_true rfl) rfl ?_
  refine z_iconst dX12_past_1 rfl ?_
  refine z_putI 12 gX12_190 dX12_past_2 rfl ?_
  refine z_aload_n 0 dX12_past_5 rfl rfl (Nat.le_of_ble_eq_true rfl) rfl ?_
  refine z_iload_n 1 dX12_past_6 rfl rfl rfl ?_
  refine z_callVb vX12_isMachine kX12_561 dX12_past_7 rfl (zRo_d d) (as := [vi l1]) (rest := []) (Nat.le_of_ble_eq_true rfl) rfl rfl (zCb_mono (fun x1 h2 k => ?_) k)
  obtain ⟨ka, kb⟩ := k
  refine z_ifb_ne (tgt := 19) dX12_past_10 rfl rfl ⟨fun q => ?_, fun q => ?_⟩
  · have k := ka q
    refine z_iload_n 2 dX12_past_19 rfl rfl rfl ?_
    refine z_callSb sX12_isLetter kX12_450 dX12_past_20 rfl (zRo_d d) (as := [vi l2]) (rest := []) (Nat.le_of_ble_eq_true rfl) rfl rfl (zCb_mono (fun x3 h4 k => ?_) k)
    obtain ⟨ka, kb⟩ := k
    refine z_ifb_ne (tgt := 32) dX12_past_23 rfl rfl ⟨fun q => ?_, fun q => ?_⟩
    · have k := ka q
      refine z_aload_n 0 dX12_past_32 rfl rfl (Nat.le_of_ble_eq_true rfl) rfl ?_
      refine z_callVi vX12_mostMachines kX12_672 dX12_past_33 rfl (zRo_d d) (as := []) (rest := []) (Nat.le_of_ble_eq_true rfl) rfl rfl (zCi_mono (fun x5 h6 k => ?_) k)
      obtain ⟨r1, ka, kb⟩ := k
      refine z_if_le (tgt := 45) dX12_past_36 rfl r1 rfl ⟨fun q => ?_, fun q => ?_⟩
      · have k := ka q
        refine z_aload_n 0 dX12_past_45 rfl rfl (Nat.le_of_ble_eq_true rfl) rfl ?_
        refine z_iload_n 1 dX12_past_46 rfl rfl rfl ?_
        refine z_aload_n 0 dX12_past_47 rfl rfl (Nat.le_of_ble_eq_true rfl) rfl ?_
        refine z_iload_n 1 dX12_past_48 rfl rfl rfl ?_
        refine z_lconst (x := 1) dX12_past_49 rfl rfl ?_
        refine z_callVl vX12_freed kX12_530 dX12_past_50 rfl (zRo_d d) (as := [vi l1, vl 1]) (rest := [vi l1, vr 12 466]) (Nat.le_of_ble_eq_true rfl) rfl rfl (zCl_mono (fun x7 h8 k => ?_) k)
        refine z_aload_n 0 dX12_past_53 rfl rfl (Nat.le_of_ble_eq_true rfl) rfl ?_
        refine z_iload_n 1 dX12_past_54 rfl rfl rfl ?_
        refine z_iload_n 2 dX12_past_55 rfl rfl rfl ?_
        refine z_callVi vX12_blockAt kX12_524 dX12_past_56 rfl (zRo_d d) (as := [vi l1, vi l2]) (rest := [vl x7, vi l1, vr 12 466]) (Nat.le_of_ble_eq_true rfl) rfl rfl (zCi_mono (fun x9 h10 k => ?_) k)
        refine z_callVl vX12_stepped kX12_534 dX12_past_59 rfl (zRo_d d) (as := [vi l1, vl x7, vi x9]) (rest := []) (Nat.le_of_ble_eq_true rfl) rfl rfl (zCl_mono (fun x11 h12 k => ?_) k)
        refine z_lstore_n 3 dX12_past_62 rfl (Nat.le_of_ble_eq_true rfl) (L' := [some (vr 12 466), some (vi l1), some (vi l2), some (vl x11), none, none]) rfl rfl ?_
        refine z_aload_n 0 dX12_past_63 rfl rfl (Nat.le_of_ble_eq_true rfl) rfl ?_
        refine z_aload_n 0 dX12_past_64 rfl rfl (Nat.le_of_ble_eq_true rfl) rfl ?_
        refine z_getF 12 13 (x := 493) fX12_94 rfl dX12_past_65 rfl rfl ?_
        refine z_iload_n 1 dX12_past_68 rfl rfl rfl ?_
        obtain ⟨i9, k⟩ := k
        refine z_iald (x := (h12 493 l1)) dX12_past_69 (by rw [zl_493]; exact i9) rfl rfl ?_
        refine z_iconst dX12_past_70 rfl ?_
        refine z_iadd dX12_past_71 rfl ?_
        refine z_callVv vX12_builds kX12_500 dX12_past_72 rfl (zRo_d d) (as := [vi ((h12 493 l1) + 1)]) (rest := []) (Nat.le_of_ble_eq_true rfl) rfl rfl (zCv_mono (fun h14 k => ?_) k)
        refine z_iconst dX12_past_75 rfl ?_
        refine z_istore dX12_past_76 (Nat.le_of_ble_eq_true rfl) (L' := [some (vr 12 466), some (vi l1), some (vi l2), some (vl x11), none, some (vi 0)]) rfl rfl ?_
        exact z_sub (L' := [some (vr 12 466), some (vi l1), none, some (vl x11), none, some (vi 0)]) (And.intro rfl (And.intro rfl (And.intro rfl (And.intro rfl trivial)))) k
      · have k := kb q
        refine z_aload_n 0 dX12_past_39 rfl rfl (Nat.le_of_ble_eq_true rfl) rfl ?_
        refine z_iconst dX12_past_40 rfl ?_
        refine z_callVi vX12_refused kX12_426 dX12_past_41 rfl (zRo_d d) (as := [vi 3]) (rest := []) (Nat.le_of_ble_eq_true rfl) rfl rfl (zCi_mono (fun x15 h16 k => ?_) k)
        exact z_ireturn rfl dX12_past_44 ⟨_, rfl, k⟩
    · have k := kb q
      refine z_aload_n 0 dX12_past_26 rfl rfl (Nat.le_of_ble_eq_true rfl) rfl ?_
      refine z_iconst dX12_past_27 rfl ?_
      refine z_callVi vX12_refused kX12_426 dX12_past_28 rfl (zRo_d d) (as := [vi 2]) (rest := []) (Nat.le_of_ble_eq_true rfl) rfl rfl (zCi_mono (fun x17 h18 k => ?_) k)
      exact z_ireturn rfl dX12_past_31 ⟨_, rfl, k⟩
  · have k := kb q
    refine z_aload_n 0 dX12_past_13 rfl rfl (Nat.le_of_ble_eq_true rfl) rfl ?_
    refine z_iconst dX12_past_14 rfl ?_
    refine z_callVi vX12_refused kX12_426 dX12_past_15 rfl (zRo_d d) (as := [vi 1]) (rest := []) (Nat.le_of_ble_eq_true rfl) rfl rfl (zCi_mono (fun x19 h20 k => ?_) k)
    exact z_ireturn rfl dX12_past_18 ⟨_, rfl, k⟩
theorem bX12_past_78 {G : zG} {d : Nat} {K : Int → zH → Prop} {l1 : Int} {l3 : Int} {l5 : Int} {h : zH} (k : ((0 : Int) ≤ l1 ∧ l1 < 14) ∧ zR l5 ∧ zR (h 493 l1) ∧ ((h 493 l1) ≤ l5 → zCv G d mX12_buildsFrees [vr 12 466, vi l1, vi 1, vi (bi false)] h (fun h2 => zCv G d mX12_buildsEdges [vr 12 466, vi l1, vi 1, vi (bi false)] h2 (fun h4 => ((0 : Int) ≤ l1 ∧ l1 < 14) ∧ zCi G d mX12_makes [vr 12 466] (zup h4 466 50 (zlshl (h4 502 l1) 1)) (fun x5 h6 => K x5 h6)))) ∧ (¬ (h 493 l1) ≤ l5 → zCb G d mX12_bit [vl l3, vi l5] h (fun x7 h8 => (x7 = false → tX12_past_78 G d K l1 l3 (l5 + 1) h8) ∧ (x7 = true → zCv G d mX12_buildsFree [vr 12 466, vi 0, vi (l5 + 1)] h8 (fun h10 => tX12_past_78 G d K l1 l3 (l5 + 1) h10))))) : tX12_past_78 G d K l1 l3 l5 h := by
  unfold tX12_past_78
  refine z_iload dX12_past_78 rfl rfl ?_
  refine z_aload_n 0 dX12_past_80 rfl rfl (Nat.le_of_ble_eq_true rfl) rfl ?_
  refine z_getF 12 13 (x := 493) fX12_94 rfl dX12_past_81 rfl rfl ?_
  refine z_iload_n 1 dX12_past_84 rfl rfl rfl ?_
  obtain ⟨i9, k⟩ := k
  refine z_iald (x := (h 493 l1)) dX12_past_85 (by rw [zl_493]; exact i9) rfl rfl ?_
  obtain ⟨r1, r2, ka, kb⟩ := k
  refine z_icmp_ge (tgt := 113) dX12_past_86 rfl r1 r2 rfl ⟨fun q => ?_, fun q => ?_⟩
  · have k := ka q
    refine z_aload_n 0 dX12_past_113 rfl rfl (Nat.le_of_ble_eq_true rfl) rfl ?_
    refine z_iload_n 1 dX12_past_114 rfl rfl rfl ?_
    refine z_iconst dX12_past_115 rfl ?_
    refine z_iconst dX12_past_116 rfl ?_
    refine z_callVv vX12_buildsFrees kX12_696 dX12_past_117 rfl (zRo_d d) (as := [vi l1, vi 1, vi (bi false)]) (rest := []) (Nat.le_of_ble_eq_true rfl) rfl rfl (zCv_mono (fun h2 k => ?_) k)
    refine z_aload_n 0 dX12_past_120 rfl rfl (Nat.le_of_ble_eq_true rfl) rfl ?_
    refine z_iload_n 1 dX12_past_121 rfl rfl rfl ?_
    refine z_iconst dX12_past_122 rfl ?_
    refine z_iconst dX12_past_123 rfl ?_
    refine z_callVv vX12_buildsEdges kX12_692 dX12_past_124 rfl (zRo_d d) (as := [vi l1, vi 1, vi (bi false)]) (rest := []) (Nat.le_of_ble_eq_true rfl) rfl rfl (zCv_mono (fun h4 k => ?_) k)
    refine z_aload_n 0 dX12_past_127 rfl rfl (Nat.le_of_ble_eq_true rfl) rfl ?_
    refine z_aload_n 0 dX12_past_128 rfl rfl (Nat.le_of_ble_eq_true rfl) rfl ?_
    refine z_getF 12 14 (x := 502) fX12_121 rfl dX12_past_129 rfl rfl ?_
    refine z_iload_n 1 dX12_past_132 rfl rfl rfl ?_
    obtain ⟨i9, k⟩ := k
    refine z_lald (x := (h4 502 l1)) dX12_past_133 (by rw [zl_502]; exact i9) rfl rfl ?_
    refine z_iconst dX12_past_134 rfl ?_
    refine z_lshl dX12_past_135 rfl ?_
    refine z_putL 12 gX12_493 dX12_past_136 rfl ?_
    refine z_aload_n 0 dX12_past_139 rfl rfl (Nat.le_of_ble_eq_true rfl) rfl ?_
    refine z_callVi vX12_makes kX12_682 dX12_past_140 rfl (zRo_d d) (as := []) (rest := []) (Nat.le_of_ble_eq_true rfl) rfl rfl (zCi_mono (fun x5 h6 k => ?_) k)
    exact z_ireturn rfl dX12_past_143 ⟨_, rfl, k⟩
  · have k := kb q
    refine z_lload_n 3 dX12_past_89 rfl rfl rfl ?_
    refine z_iload dX12_past_90 rfl rfl ?_
    refine z_callSb sX12_bit kX12_366 dX12_past_92 rfl (zRo_d d) (as := [vl l3, vi l5]) (rest := []) (Nat.le_of_ble_eq_true rfl) rfl rfl (zCb_mono (fun x7 h8 k => ?_) k)
    obtain ⟨ka, kb⟩ := k
    refine z_ifb_eq (tgt := 107) dX12_past_95 rfl rfl ⟨fun q => ?_, fun q => ?_⟩
    · have k := ka q
      refine z_iinc dX12_past_107 rfl (Nat.le_of_ble_eq_true rfl) (L' := [some (vr 12 466), some (vi l1), none, some (vl l3), none, some (vi (l5 + 1))]) rfl rfl ?_
      refine z_goto (tgt := 78) dX12_past_110 rfl ?_
      exact z_sub (L' := [some (vr 12 466), some (vi l1), none, some (vl l3), none, some (vi (l5 + 1))]) (And.intro rfl (And.intro rfl (And.intro rfl (And.intro rfl trivial)))) k
    · have k := kb q
      refine z_aload_n 0 dX12_past_98 rfl rfl (Nat.le_of_ble_eq_true rfl) rfl ?_
      refine z_iconst dX12_past_99 rfl ?_
      refine z_iload dX12_past_100 rfl rfl ?_
      refine z_iconst dX12_past_102 rfl ?_
      refine z_iadd dX12_past_103 rfl ?_
      refine z_callVv vX12_buildsFree kX12_509 dX12_past_104 rfl (zRo_d d) (as := [vi 0, vi (l5 + 1)]) (rest := []) (Nat.le_of_ble_eq_true rfl) rfl rfl (zCv_mono (fun h10 k => ?_) k)
      refine z_iinc dX12_past_107 rfl (Nat.le_of_ble_eq_true rfl) (L' := [some (vr 12 466), some (vi l1), none, some (vl l3), none, some (vi (l5 + 1))]) rfl rfl ?_
      refine z_goto (tgt := 78) dX12_past_110 rfl ?_
      exact z_sub (L' := [some (vr 12 466), some (vi l1), none, some (vl l3), none, some (vi (l5 + 1))]) (And.intro rfl (And.intro rfl (And.intro rfl (And.intro rfl trivial)))) k
theorem eX12_past {G : zG} {d : Nat} {K : Int → zH → Prop} {l1 : Int} {l2 : Int} {h : zH} (k : tX12_past_0 G d K l1 l2 h) : zCi G (d + 1) mX12_past [vr 12 466, vi l1, vi l2] h K := z_entry (by decide +kernel) (Nat.le_of_ble_eq_true rfl) rfl k
def tX12_drop_0 (G : zG) (d : Nat) (K : Int → zH → Prop) (h : zH) : Prop := zTi G (d + 1) mX12_drop K 0 [some (vr 12 466)] [] h
theorem bX12_drop_0 {G : zG} {d : Nat} {K : Int → zH → Prop} {h : zH} (k : zR (h 466 64) ∧ zR (h 466 65) ∧ (¬ (h 466 64) = (h 466 65) → zCi G d mX12_good [vr 12 466, vi ((h 466 64) - 1)] (zup (zup h 466 0 0) 466 64 ((h 466 64) - 1)) (fun x1 h2 => K x1 h2)) ∧ ((h 466 64) = (h 466 65) → zCi G d mX12_refused [vr 12 466, vi 1] (zup h 466 0 0) (fun x3 h4 => K x3 h4))) : tX12_drop_0 G d K h := by
  unfold tX12_drop_0
  refine z_aload_n 0 dX12_drop_0 rfl rfl (Nat.le_of_ble_eq_true rfl) rfl ?_
  refine z_iconst dX12_drop_1 rfl ?_
  refine z_putI 12 gX12_190 dX12_drop_2 rfl ?_
  refine z_aload_n 0 dX12_drop_5 rfl rfl (Nat.le_of_ble_eq_true rfl) rfl ?_
  refine z_getI 12 (x := (h 466 64)) fX12_441 rfl dX12_drop_6 (by simp [zup]) rfl ?_
  refine z_aload_n 0 dX12_drop_9 rfl rfl (Nat.le_of_ble_eq_true rfl) rfl ?_
  refine z_getI 12 (x := (h 466 65)) fX12_438 rfl dX12_drop_10 (by simp [zup]) rfl ?_
  obtain ⟨r1, r2, ka, kb⟩ := k
  refine z_icmp_ne (tgt := 22) dX12_drop_13 rfl r1 r2 rfl ⟨fun q => ?_, fun q => ?_⟩
  · have k := ka q
    refine z_aload_n 0 dX12_drop_22 rfl rfl (Nat.le_of_ble_eq_true rfl) rfl ?_
    refine z_dup dX12_drop_23 (fun q => by cases q) rfl ?_
    refine z_getI 12 (x := (h 466 64)) fX12_441 rfl dX12_drop_24 (by simp [zup]) rfl ?_
    refine z_iconst dX12_drop_27 rfl ?_
    refine z_isub dX12_drop_28 rfl ?_
    refine z_putI 12 gX12_441 dX12_drop_29 rfl ?_
    refine z_aload_n 0 dX12_drop_32 rfl rfl (Nat.le_of_ble_eq_true rfl) rfl ?_
    refine z_aload_n 0 dX12_drop_33 rfl rfl (Nat.le_of_ble_eq_true rfl) rfl ?_
    refine z_getI 12 (x := ((h 466 64) - 1)) fX12_441 rfl dX12_drop_34 (by simp [zup]) rfl ?_
    refine z_callVi vX12_good kX12_196 dX12_drop_37 rfl (zRo_d d) (as := [vi ((h 466 64) - 1)]) (rest := []) (Nat.le_of_ble_eq_true rfl) rfl rfl (zCi_mono (fun x1 h2 k => ?_) k)
    exact z_ireturn rfl dX12_drop_40 ⟨_, rfl, k⟩
  · have k := kb q
    refine z_aload_n 0 dX12_drop_16 rfl rfl (Nat.le_of_ble_eq_true rfl) rfl ?_
    refine z_iconst dX12_drop_17 rfl ?_
    refine z_callVi vX12_refused kX12_426 dX12_drop_18 rfl (zRo_d d) (as := [vi 1]) (rest := []) (Nat.le_of_ble_eq_true rfl) rfl rfl (zCi_mono (fun x3 h4 k => ?_) k)
    exact z_ireturn rfl dX12_drop_21 ⟨_, rfl, k⟩
theorem eX12_drop {G : zG} {d : Nat} {K : Int → zH → Prop} {h : zH} (k : tX12_drop_0 G d K h) : zCi G (d + 1) mX12_drop [vr 12 466] h K := z_entry (by decide +kernel) (Nat.le_of_ble_eq_true rfl) rfl k
def tX12_twin_0 (G : zG) (d : Nat) (K : Int → zH → Prop) (l1 : Int) (h : zH) : Prop := zTi G (d + 1) mX12_twin K 0 [some (vr 12 466), some (vi l1), none] [] h
def tX12_twin_7 (G : zG) (d : Nat) (K : Int → zH → Prop) (l1 : Int) (l2 : Int) (h : zH) : Prop := zTi G (d + 1) mX12_twin K 7 [some (vr 12 466), some (vi l1), some (vi l2)] [] h
theorem bX12_twin_0 {G : zG} {d : Nat} {K : Int → zH → Prop} {l1 : Int} {h : zH} (k : tX12_twin_7 G d K l1 0 (zup h 466 0 0)) : tX12_twin_0 G d K l1 h := by
  unfold tX12_twin_0
  refine z_aload_n 0 dX12_twin_0 rfl rfl (Nat.le_of_ble_eq_true rfl) rfl ?_
  refine z_iconst dX12_twin_1 rfl ?_
  refine z_putI 12 gX12_190 dX12_twin_2 rfl ?_
  refine z_iconst dX12_twin_5 rfl ?_
  refine z_istore_n 2 dX12_twin_6 rfl (Nat.le_of_ble_eq_true rfl) (L' := [some (vr 12 466), some (vi l1), some (vi 0)]) rfl rfl ?_
  exact z_sub (L' := [some (vr 12 466), some (vi l1), some (vi 0)]) (And.intro rfl (And.intro rfl (And.intro rfl trivial))) k
theorem bX12_twin_7 {G : zG} {d : Nat} {K : Int → zH → Prop} {l1 : Int} {l2 : Int} {h : zH} (k : zCb G d mX12_isMachine [vr 12 466, vi l1] h (fun x1 h2 => (x1 = false → K 0 (zup h2 466 0 1)) ∧ (x1 = true → zR l2 ∧ zR l1 ∧ (l1 ≤ l2 → K 0 (zup h2 466 0 1)) ∧ (¬ l1 ≤ l2 → zCi G d mX12_finds [vr 12 466, vi l2, vi l1, vi 6] h2 (fun x3 h4 => zR x3 ∧ (¬ x3 = (-1) → tX12_twin_7 G d K l1 (l2 + 1) h4) ∧ (x3 = (-1) → K l2 h4)))))) : tX12_twin_7 G d K l1 l2 h := by
  unfold tX12_twin_7
  refine z_aload_n 0 dX12_twin_7 rfl rfl (Nat.le_of_ble_eq_true rfl) rfl ?_
  refine z_iload_n 1 dX12_twin_8 rfl rfl rfl ?_
  refine z_callVb vX12_isMachine kX12_561 dX12_twin_9 rfl (zRo_d d) (as := [vi l1]) (rest := []) (Nat.le_of_ble_eq_true rfl) rfl rfl (zCb_mono (fun x1 h2 k => ?_) k)
  obtain ⟨ka, kb⟩ := k
  refine z_ifb_eq (tgt := 40) dX12_twin_12 rfl rfl ⟨fun q => ?_, fun q => ?_⟩
  · have k := ka q
    refine z_aload_n 0 dX12_twin_40 rfl rfl (Nat.le_of_ble_eq_true rfl) rfl ?_
    refine z_iconst dX12_twin_41 rfl ?_
    refine z_putI 12 gX12_190 dX12_twin_42 rfl ?_
    refine z_iconst dX12_twin_45 rfl ?_
    exact z_ireturn rfl dX12_twin_46 ⟨_, rfl, k⟩
  · have k := kb q
    refine z_iload_n 2 dX12_twin_15 rfl rfl rfl ?_
    refine z_iload_n 1 dX12_twin_16 rfl rfl rfl ?_
    obtain ⟨r1, r2, ka, kb⟩ := k
    refine z_icmp_ge (tgt := 40) dX12_twin_17 rfl r1 r2 rfl ⟨fun q => ?_, fun q => ?_⟩
    · have k := ka q
      refine z_aload_n 0 dX12_twin_40 rfl rfl (Nat.le_of_ble_eq_true rfl) rfl ?_
      refine z_iconst dX12_twin_41 rfl ?_
      refine z_putI 12 gX12_190 dX12_twin_42 rfl ?_
      refine z_iconst dX12_twin_45 rfl ?_
      exact z_ireturn rfl dX12_twin_46 ⟨_, rfl, k⟩
    · have k := kb q
      refine z_aload_n 0 dX12_twin_20 rfl rfl (Nat.le_of_ble_eq_true rfl) rfl ?_
      refine z_iload_n 2 dX12_twin_21 rfl rfl rfl ?_
      refine z_iload_n 1 dX12_twin_22 rfl rfl rfl ?_
      refine z_bipush dX12_twin_23 rfl rfl ?_
      refine z_callVi vX12_finds kX12_666 dX12_twin_25 rfl (zRo_d d) (as := [vi l2, vi l1, vi 6]) (rest := []) (Nat.le_of_ble_eq_true rfl) rfl rfl (zCi_mono (fun x3 h4 k => ?_) k)
      refine z_iconst dX12_twin_28 rfl ?_
      obtain ⟨r1, ka, kb⟩ := k
      refine z_icmp_ne (tgt := 34) dX12_twin_29 rfl r1 ⟨by decide, by decide⟩ rfl ⟨fun q => ?_, fun q => ?_⟩
      · have k := ka q
        refine z_iinc dX12_twin_34 rfl (Nat.le_of_ble_eq_true rfl) (L' := [some (vr 12 466), some (vi l1), some (vi (l2 + 1))]) rfl rfl ?_
        refine z_goto (tgt := 7) dX12_twin_37 rfl ?_
        exact z_sub (L' := [some (vr 12 466), some (vi l1), some (vi (l2 + 1))]) (And.intro rfl (And.intro rfl (And.intro rfl trivial))) k
      · have k := kb q
        refine z_iload_n 2 dX12_twin_32 rfl rfl rfl ?_
        exact z_ireturn rfl dX12_twin_33 ⟨_, rfl, k⟩
theorem eX12_twin {G : zG} {d : Nat} {K : Int → zH → Prop} {l1 : Int} {h : zH} (k : tX12_twin_0 G d K l1 h) : zCi G (d + 1) mX12_twin [vr 12 466, vi l1] h K := z_entry (by decide +kernel) (Nat.le_of_ble_eq_true rfl) rfl k
def tX12_total_0 (G : zG) (d : Nat) (K : Int → zH → Prop) (l1 : Int) (h : zH) : Prop := zTi G d mX12_total K 0 [some (vr 12 466), some (vi l1)] [] h
theorem bX12_total_0 {G : zG} {d : Nat} {K : Int → zH → Prop} {l1 : Int} {h : zH} (k : zR l1 ∧ (l1 < 0 ∨ 4 < l1 → K (-1) (zup h 466 0 0)) ∧ (l1 = 0 → K (h 466 22) (zup h 466 0 0)) ∧ (l1 = 1 → K (h 466 65) (zup h 466 0 0)) ∧ (l1 = 2 → K (h 466 64) (zup h 466 0 0)) ∧ (l1 = 3 → K (h 466 77) (zup h 466 0 0)) ∧ (l1 = 4 → K (h 466 4) (zup h 466 0 0))) : tX12_total_0 G d K l1 h := by
  unfold tX12_total_0
  refine z_aload_n 0 dX12_total_0 rfl rfl (Nat.le_of_ble_eq_true rfl) rfl ?_
  refine z_iconst dX12_total_1 rfl ?_
  refine z_putI 12 gX12_190 dX12_total_2 rfl ?_
  refine z_iload_n 1 dX12_total_5 rfl rfl rfl ?_
  obtain ⟨r1, kd, k_0, k_1, k_2, k_3, k_4⟩ := k
  refine z_table (dt := 65) (ts := [40, 45, 50, 55, 60]) dX12_total_6 r1 rfl rfl rfl ⟨fun q => ?_, fun i t hi q => ?_⟩
  · have k := kd q
    refine z_iconst dX12_total_65 rfl ?_
    exact z_ireturn rfl dX12_total_66 ⟨_, rfl, k⟩
  · match i, hi, q with
    | 0, hi, q =>
      cases hi
      have k := k_0 (by omega)
      refine z_aload_n 0 dX12_total_40 rfl rfl (Nat.le_of_ble_eq_true rfl) rfl ?_
      refine z_getI 12 (x := (h 466 22)) fX12_432 rfl dX12_total_41 (by simp [zup]) rfl ?_
      exact z_ireturn rfl dX12_total_44 ⟨_, rfl, k⟩
    | 1, hi, q =>
      cases hi
      have k := k_1 (by omega)
      refine z_aload_n 0 dX12_total_45 rfl rfl (Nat.le_of_ble_eq_true rfl) rfl ?_
      refine z_getI 12 (x := (h 466 65)) fX12_438 rfl dX12_total_46 (by simp [zup]) rfl ?_
      exact z_ireturn rfl dX12_total_49 ⟨_, rfl, k⟩
    | 2, hi, q =>
      cases hi
      have k := k_2 (by omega)
      refine z_aload_n 0 dX12_total_50 rfl rfl (Nat.le_of_ble_eq_true rfl) rfl ?_
      refine z_getI 12 (x := (h 466 64)) fX12_441 rfl dX12_total_51 (by simp [zup]) rfl ?_
      exact z_ireturn rfl dX12_total_54 ⟨_, rfl, k⟩
    | 3, hi, q =>
      cases hi
      have k := k_3 (by omega)
      refine z_aload_n 0 dX12_total_55 rfl rfl (Nat.le_of_ble_eq_true rfl) rfl ?_
      refine z_getI 12 (x := (h 466 77)) fX12_626 rfl dX12_total_56 (by simp [zup]) rfl ?_
      exact z_ireturn rfl dX12_total_59 ⟨_, rfl, k⟩
    | 4, hi, q =>
      cases hi
      have k := k_4 (by omega)
      refine z_aload_n 0 dX12_total_60 rfl rfl (Nat.le_of_ble_eq_true rfl) rfl ?_
      refine z_getI 12 (x := (h 466 4)) fX12_423 rfl dX12_total_61 (by simp [zup]) rfl ?_
      exact z_ireturn rfl dX12_total_64 ⟨_, rfl, k⟩
    | i + 5, hi, q =>
      exact absurd hi (by simp)
theorem eX12_total {G : zG} {d : Nat} {K : Int → zH → Prop} {l1 : Int} {h : zH} (k : tX12_total_0 G d K l1 h) : zCi G d mX12_total [vr 12 466, vi l1] h K := z_entry (by decide +kernel) (Nat.le_of_ble_eq_true rfl) rfl k
def tX12_letter_0 (G : zG) (d : Nat) (K : Int → zH → Prop) (l1 : Int) (h : zH) : Prop := zTi G (d + 1) mX12_letter K 0 [some (vr 12 466), some (vi l1)] [] h
theorem bX12_letter_0 {G : zG} {d : Nat} {K : Int → zH → Prop} {l1 : Int} {h : zH} (k : zR l1 ∧ (l1 < 0 → zCi G d mX12_refused [vr 12 466, vi 1] (zup h 466 0 0) (fun x1 h2 => K x1 h2)) ∧ (¬ l1 < 0 → zR l1 ∧ zR (h 466 77) ∧ (l1 < (h 466 77) → ((0 : Int) ≤ l1 ∧ l1 < 16) ∧ zCi G d mX12_good [vr 12 466, vi (h 514 l1)] (zup h 466 0 0) (fun x3 h4 => K x3 h4)) ∧ (¬ l1 < (h 466 77) → zCi G d mX12_refused [vr 12 466, vi 1] (zup h 466 0 0) (fun x5 h6 => K x5 h6)))) : tX12_letter_0 G d K l1 h := by
  unfold tX12_letter_0
  refine z_aload_n 0 dX12_letter_0 rfl rfl (Nat.le_of_ble_eq_true rfl) rfl ?_
  refine z_iconst dX12_letter_1 rfl ?_
  refine z_putI 12 gX12_190 dX12_letter_2 rfl ?_
  refine z_iload_n 1 dX12_letter_5 rfl rfl rfl ?_
  obtain ⟨r1, ka, kb⟩ := k
  refine z_if_lt (tgt := 17) dX12_letter_6 rfl r1 rfl ⟨fun q => ?_, fun q => ?_⟩
  · have k := ka q
    refine z_aload_n 0 dX12_letter_17 rfl rfl (Nat.le_of_ble_eq_true rfl) rfl ?_
    refine z_iconst dX12_letter_18 rfl ?_
    refine z_callVi vX12_refused kX12_426 dX12_letter_19 rfl (zRo_d d) (as := [vi 1]) (rest := []) (Nat.le_of_ble_eq_true rfl) rfl rfl (zCi_mono (fun x1 h2 k => ?_) k)
    exact z_ireturn rfl dX12_letter_22 ⟨_, rfl, k⟩
  · have k := kb q
    refine z_iload_n 1 dX12_letter_9 rfl rfl rfl ?_
    refine z_aload_n 0 dX12_letter_10 rfl rfl (Nat.le_of_ble_eq_true rfl) rfl ?_
    refine z_getI 12 (x := (h 466 77)) fX12_626 rfl dX12_letter_11 (by simp [zup]) rfl ?_
    obtain ⟨r1, r2, ka, kb⟩ := k
    refine z_icmp_lt (tgt := 23) dX12_letter_14 rfl r1 r2 rfl ⟨fun q => ?_, fun q => ?_⟩
    · have k := ka q
      refine z_aload_n 0 dX12_letter_23 rfl rfl (Nat.le_of_ble_eq_true rfl) rfl ?_
      refine z_aload_n 0 dX12_letter_24 rfl rfl (Nat.le_of_ble_eq_true rfl) rfl ?_
      refine z_getF 12 13 (x := 514) fX12_157 rfl dX12_letter_25 rfl rfl ?_
      refine z_iload_n 1 dX12_letter_28 rfl rfl rfl ?_
      obtain ⟨i9, k⟩ := k
      refine z_iald (x := (h 514 l1)) dX12_letter_29 (by rw [zl_514]; exact i9) (by simp [zup]) rfl ?_
      refine z_callVi vX12_good kX12_196 dX12_letter_30 rfl (zRo_d d) (as := [vi (h 514 l1)]) (rest := []) (Nat.le_of_ble_eq_true rfl) rfl rfl (zCi_mono (fun x3 h4 k => ?_) k)
      exact z_ireturn rfl dX12_letter_33 ⟨_, rfl, k⟩
    · have k := kb q
      refine z_aload_n 0 dX12_letter_17 rfl rfl (Nat.le_of_ble_eq_true rfl) rfl ?_
      refine z_iconst dX12_letter_18 rfl ?_
      refine z_callVi vX12_refused kX12_426 dX12_letter_19 rfl (zRo_d d) (as := [vi 1]) (rest := []) (Nat.le_of_ble_eq_true rfl) rfl rfl (zCi_mono (fun x5 h6 k => ?_) k)
      exact z_ireturn rfl dX12_letter_22 ⟨_, rfl, k⟩
theorem eX12_letter {G : zG} {d : Nat} {K : Int → zH → Prop} {l1 : Int} {h : zH} (k : tX12_letter_0 G d K l1 h) : zCi G (d + 1) mX12_letter [vr 12 466, vi l1] h K := z_entry (by decide +kernel) (Nat.le_of_ble_eq_true rfl) rfl k
def tX12_trouble_0 (G : zG) (d : Nat) (K : Int → zH → Prop) (h : zH) : Prop := zTi G d mX12_trouble K 0 [some (vr 12 466)] [] h
theorem bX12_trouble_0 {G : zG} {d : Nat} {K : Int → zH → Prop} {h : zH} (k : K (h 466 1) (zup h 466 0 0)) : tX12_trouble_0 G d K h := by
  unfold tX12_trouble_0
  refine z_aload_n 0 dX12_trouble_0 rfl rfl (Nat.le_of_ble_eq_true rfl) rfl ?_
  refine z_iconst dX12_trouble_1 rfl ?_
  refine z_putI 12 gX12_190 dX12_trouble_2 rfl ?_
  refine z_aload_n 0 dX12_trouble_5 rfl rfl (Nat.le_of_ble_eq_true rfl) rfl ?_
  refine z_getI 12 (x := (h 466 1)) fX12_193 rfl dX12_trouble_6 (by simp [zup]) rfl ?_
  exact z_ireturn rfl dX12_trouble_9 ⟨_, rfl, k⟩
theorem eX12_trouble {G : zG} {d : Nat} {K : Int → zH → Prop} {h : zH} (k : tX12_trouble_0 G d K h) : zCi G d mX12_trouble [vr 12 466] h K := z_entry (by decide +kernel) (Nat.le_of_ble_eq_true rfl) rfl k
