def tX12_fault_0 (G : zG) (d : Nat) (K : Int → zH → Prop) (h : zH) : Prop := zTi G d mX12_fault K 0 [some (vr 12 466)] [] h
theorem bX12_fault_0 {G : zG} {d : Nat} {K : Int → zH → Prop} {h : zH} (k : K (h 466 10) (zup h 466 0 0)) : tX12_fault_0 G d K h := by
  unfold tX12_fault_0
  refine z_aload_n 0 dX12_fault_0 rfl rfl (Nat.le_of_ble_eq_true rfl) rfl ?_
  refine z_iconst dX12_fault_1 rfl ?_
  refine z_putI 12 gX12_190 dX12_fault_2 rfl ?_
  refine z_aload_n 0 dX12_fault_5 rfl rfl (Nat.le_of_ble_eq_true rfl) rfl ?_
  refine z_getI 12 (x := (h 466 10)) fX12_208 rfl dX12_fault_6 (by simp [zup]) rfl ?_
  exact z_ireturn rfl dX12_fault_9 ⟨_, rfl, k⟩
theorem eX12_fault {G : zG} {d : Nat} {K : Int → zH → Prop} {h : zH} (k : tX12_fault_0 G d K h) : zCi G d mX12_fault [vr 12 466] h K := z_entry (by decide +kernel) (Nat.le_of_ble_eq_true rfl) rfl k
def tX12_where_0 (G : zG) (d : Nat) (K : Int → zH → Prop) (h : zH) : Prop := zTi G d mX12_where K 0 [some (vr 12 466)] [] h
theorem bX12_where_0 {G : zG} {d : Nat} {K : Int → zH → Prop} {h : zH} (k : K (h 466 2) (zup h 466 0 0)) : tX12_where_0 G d K h := by
  unfold tX12_where_0
  refine z_aload_n 0 dX12_where_0 rfl rfl (Nat.le_of_ble_eq_true rfl) rfl ?_
  refine z_iconst dX12_where_1 rfl ?_
  refine z_putI 12 gX12_190 dX12_where_2 rfl ?_
  refine z_aload_n 0 dX12_where_5 rfl rfl (Nat.le_of_ble_eq_true rfl) rfl ?_
  refine z_getI 12 (x := (h 466 2)) fX12_9 rfl dX12_where_6 (by simp [zup]) rfl ?_
  exact z_ireturn rfl dX12_where_9 ⟨_, rfl, k⟩
theorem eX12_where {G : zG} {d : Nat} {K : Int → zH → Prop} {h : zH} (k : tX12_where_0 G d K h) : zCi G d mX12_where [vr 12 466] h K := z_entry (by decide +kernel) (Nat.le_of_ble_eq_true rfl) rfl k
def tX12_isSet_0 (G : zG) (d : Nat) (K : Bool → zH → Prop) (l1 : Int) (h : zH) : Prop := zTb G d mX12_isSet K 0 [some (vr 12 466), some (vi l1)] [] h
theorem bX12_isSet_0 {G : zG} {d : Nat} {K : Bool → zH → Prop} {l1 : Int} {h : zH} (k : zR l1 ∧ (l1 < 0 → K false h) ∧ (¬ l1 < 0 → zR l1 ∧ zR (h 466 22) ∧ ((h 466 22) ≤ l1 → K false h) ∧ (¬ (h 466 22) ≤ l1 → K true h))) : tX12_isSet_0 G d K l1 h := by
  unfold tX12_isSet_0
  refine z_iload_n 1 dX12_isSet_0 rfl rfl rfl ?_
  obtain ⟨r1, ka, kb⟩ := k
  refine z_if_lt (tgt := 16) dX12_isSet_1 rfl r1 rfl ⟨fun q => ?_, fun q => ?_⟩
  · have k := ka q
    refine z_iconst dX12_isSet_16 rfl ?_
    exact z_zreturn rfl (Or.inl rfl) dX12_isSet_17 ⟨false, rfl, k⟩
  · have k := kb q
    refine z_iload_n 1 dX12_isSet_4 rfl rfl rfl ?_
    refine z_aload_n 0 dX12_isSet_5 rfl rfl (Nat.le_of_ble_eq_true rfl) rfl ?_
    refine z_getI 12 (x := (h 466 22)) fX12_432 rfl dX12_isSet_6 rfl rfl ?_
    obtain ⟨r1, r2, ka, kb⟩ := k
    refine z_icmp_ge (tgt := 16) dX12_isSet_9 rfl r1 r2 rfl ⟨fun q => ?_, fun q => ?_⟩
    · have k := ka q
      refine z_iconst dX12_isSet_16 rfl ?_
      exact z_zreturn rfl (Or.inl rfl) dX12_isSet_17 ⟨false, rfl, k⟩
    · have k := kb q
      refine z_iconst dX12_isSet_12 rfl ?_
      refine z_goto (tgt := 17) dX12_isSet_13 rfl ?_
      exact z_zreturn rfl (Or.inr rfl) dX12_isSet_17 ⟨true, rfl, k⟩
theorem eX12_isSet {G : zG} {d : Nat} {K : Bool → zH → Prop} {l1 : Int} {h : zH} (k : tX12_isSet_0 G d K l1 h) : zCb G d mX12_isSet [vr 12 466, vi l1] h K := z_entry (by decide +kernel) (Nat.le_of_ble_eq_true rfl) rfl k
def tX12_setHas_0 (G : zG) (d : Nat) (K : Bool → zH → Prop) (l1 : Int) (l2 : Int) (h : zH) : Prop := zTb G (d + 1) mX12_setHas K 0 [some (vr 12 466), some (vi l1), some (vi l2), none] [] h
def tX12_setHas_2 (G : zG) (d : Nat) (K : Bool → zH → Prop) (l1 : Int) (l2 : Int) (l3 : Int) (h : zH) : Prop := zTb G (d + 1) mX12_setHas K 2 [some (vr 12 466), some (vi l1), some (vi l2), some (vi l3)] [] h
theorem bX12_setHas_0 {G : zG} {d : Nat} {K : Bool → zH → Prop} {l1 : Int} {l2 : Int} {h : zH} (k : tX12_setHas_2 G d K l1 l2 0 h) : tX12_setHas_0 G d K l1 l2 h := by
  unfold tX12_setHas_0
  refine z_iconst dX12_setHas_0 rfl ?_
  refine z_istore_n 3 dX12_setHas_1 rfl (Nat.le_of_ble_eq_true rfl) (L' := [some (vr 12 466), some (vi l1), some (vi l2), some (vi 0)]) rfl rfl ?_
  exact z_sub (L' := [some (vr 12 466), some (vi l1), some (vi l2), some (vi 0)]) (And.intro rfl (And.intro rfl (And.intro rfl (And.intro rfl trivial)))) k
theorem bX12_setHas_2 {G : zG} {d : Nat} {K : Bool → zH → Prop} {l1 : Int} {l2 : Int} {l3 : Int} {h : zH} (k : ((0 : Int) ≤ l1 ∧ l1 < 24) ∧ zR l3 ∧ zR (h 471 l1) ∧ ((h 471 l1) ≤ l3 → K false h) ∧ (¬ (h 471 l1) ≤ l3 → ((0 : Int) ≤ ((l1 * 24) + l3) ∧ ((l1 * 24) + l3) < 576) ∧ ((0 : Int) ≤ ((l1 * 24) + l3) ∧ ((l1 * 24) + l3) < 576) ∧ zCb G d mX12_in [vi l2, vi (h 472 ((l1 * 24) + l3)), vi (h 473 ((l1 * 24) + l3))] h (fun x1 h2 => (x1 = false → tX12_setHas_2 G d K l1 l2 (l3 + 1) h2) ∧ (x1 = true → K true h2)))) : tX12_setHas_2 G d K l1 l2 l3 h := by
  unfold tX12_setHas_2
  refine z_iload_n 3 dX12_setHas_2 rfl rfl rfl ?_
  refine z_aload_n 0 dX12_setHas_3 rfl rfl (Nat.le_of_ble_eq_true rfl) rfl ?_
  refine z_getF 12 13 (x := 471) fX12_28 rfl dX12_setHas_4 rfl rfl ?_
  refine z_iload_n 1 dX12_setHas_7 rfl rfl rfl ?_
  obtain ⟨i9, k⟩ := k
  refine z_iald (x := (h 471 l1)) dX12_setHas_8 (by rw [zl_471]; exact i9) rfl rfl ?_
  obtain ⟨r1, r2, ka, kb⟩ := k
  refine z_icmp_ge (tgt := 49) dX12_setHas_9 rfl r1 r2 rfl ⟨fun q => ?_, fun q => ?_⟩
  · have k := ka q
    refine z_iconst dX12_setHas_49 rfl ?_
    exact z_zreturn rfl (Or.inl rfl) dX12_setHas_50 ⟨false, rfl, k⟩
  · have k := kb q
    refine z_iload_n 2 dX12_setHas_12 rfl rfl rfl ?_
    refine z_aload_n 0 dX12_setHas_13 rfl rfl (Nat.le_of_ble_eq_true rfl) rfl ?_
    refine z_getF 12 13 (x := 472) fX12_31 rfl dX12_setHas_14 rfl rfl ?_
    refine z_iload_n 1 dX12_setHas_17 rfl rfl rfl ?_
    refine z_bipush dX12_setHas_18 rfl rfl ?_
    refine z_imul dX12_setHas_20 rfl ?_
    refine z_iload_n 3 dX12_setHas_21 rfl rfl rfl ?_
    refine z_iadd dX12_setHas_22 rfl ?_
    obtain ⟨i9, k⟩ := k
    refine z_iald (x := (h 472 ((l1 * 24) + l3))) dX12_setHas_23 (by rw [zl_472]; exact i9) rfl rfl ?_
    refine z_aload_n 0 dX12_setHas_24 rfl rfl (Nat.le_of_ble_eq_true rfl) rfl ?_
    refine z_getF 12 13 (x := 473) fX12_34 rfl dX12_setHas_25 rfl rfl ?_
    refine z_iload_n 1 dX12_setHas_28 rfl rfl rfl ?_
    refine z_bipush dX12_setHas_29 rfl rfl ?_
    refine z_imul dX12_setHas_31 rfl ?_
    refine z_iload_n 3 dX12_setHas_32 rfl rfl rfl ?_
    refine z_iadd dX12_setHas_33 rfl ?_
    obtain ⟨i9, k⟩ := k
    refine z_iald (x := (h 473 ((l1 * 24) + l3))) dX12_setHas_34 (by rw [zl_473]; exact i9) rfl rfl ?_
    refine z_callSb sX12_in kX12_201 dX12_setHas_35 rfl (zRo_d d) (as := [vi l2, vi (h 472 ((l1 * 24) + l3)), vi (h 473 ((l1 * 24) + l3))]) (rest := []) (Nat.le_of_ble_eq_true rfl) rfl rfl (zCb_mono (fun x1 h2 k => ?_) k)
    obtain ⟨ka, kb⟩ := k
    refine z_ifb_eq (tgt := 43) dX12_setHas_38 rfl rfl ⟨fun q => ?_, fun q => ?_⟩
    · have k := ka q
      refine z_iinc dX12_setHas_43 rfl (Nat.le_of_ble_eq_true rfl) (L' := [some (vr 12 466), some (vi l1), some (vi l2), some (vi (l3 + 1))]) rfl rfl ?_
      refine z_goto (tgt := 2) dX12_setHas_46 rfl ?_
      exact z_sub (L' := [some (vr 12 466), some (vi l1), some (vi l2), some (vi (l3 + 1))]) (And.intro rfl (And.intro rfl (And.intro rfl (And.intro rfl trivial)))) k
    · have k := kb q
      refine z_iconst dX12_setHas_41 rfl ?_
      exact z_zreturn rfl (Or.inr rfl) dX12_setHas_42 ⟨true, rfl, k⟩
theorem eX12_setHas {G : zG} {d : Nat} {K : Bool → zH → Prop} {l1 : Int} {l2 : Int} {h : zH} (k : tX12_setHas_0 G d K l1 l2 h) : zCb G (d + 1) mX12_setHas [vr 12 466, vi l1, vi l2] h K := z_entry (by decide +kernel) (Nat.le_of_ble_eq_true rfl) rfl k
def tX12_setTurns_0 (G : zG) (d : Nat) (K : Int → zH → Prop) (l1 : Int) (l2 : Int) (h : zH) : Prop := zTi G d mX12_setTurns K 0 [some (vr 12 466), some (vi l1), some (vi l2), none] [] h
def tX12_setTurns_2 (G : zG) (d : Nat) (K : Int → zH → Prop) (l1 : Int) (l2 : Int) (l3 : Int) (h : zH) : Prop := zTi G d mX12_setTurns K 2 [some (vr 12 466), some (vi l1), some (vi l2), some (vi l3)] [] h
theorem bX12_setTurns_0 {G : zG} {d : Nat} {K : Int → zH → Prop} {l1 : Int} {l2 : Int} {h : zH} (k : tX12_setTurns_2 G d K l1 l2 0 h) : tX12_setTurns_0 G d K l1 l2 h := by
  unfold tX12_setTurns_0
  refine z_iconst dX12_setTurns_0 rfl ?_
  refine z_istore_n 3 dX12_setTurns_1 rfl (Nat.le_of_ble_eq_true rfl) (L' := [some (vr 12 466), some (vi l1), some (vi l2), some (vi 0)]) rfl rfl ?_
  exact z_sub (L' := [some (vr 12 466), some (vi l1), some (vi l2), some (vi 0)]) (And.intro rfl (And.intro rfl (And.intro rfl (And.intro rfl trivial)))) k
theorem bX12_setTurns_2 {G : zG} {d : Nat} {K : Int → zH → Prop} {l1 : Int} {l2 : Int} {l3 : Int} {h : zH} (k : ((0 : Int) ≤ l1 ∧ l1 < 24) ∧ zR l3 ∧ zR (h 471 l1) ∧ ((h 471 l1) ≤ l3 → K 65536 h) ∧ (¬ (h 471 l1) ≤ l3 → ((0 : Int) ≤ ((l1 * 24) + l3) ∧ ((l1 * 24) + l3) < 576) ∧ zR (h 472 ((l1 * 24) + l3)) ∧ zR l2 ∧ ((h 472 ((l1 * 24) + l3)) ≤ l2 → ((0 : Int) ≤ ((l1 * 24) + l3) ∧ ((l1 * 24) + l3) < 576) ∧ zR (h 473 ((l1 * 24) + l3)) ∧ zR l2 ∧ ((h 473 ((l1 * 24) + l3)) < l2 → tX12_setTurns_2 G d K l1 l2 (l3 + 1) h) ∧ (¬ (h 473 ((l1 * 24) + l3)) < l2 → ((0 : Int) ≤ ((l1 * 24) + l3) ∧ ((l1 * 24) + l3) < 576) ∧ K ((h 473 ((l1 * 24) + l3)) + 1) h)) ∧ (¬ (h 472 ((l1 * 24) + l3)) ≤ l2 → ((0 : Int) ≤ ((l1 * 24) + l3) ∧ ((l1 * 24) + l3) < 576) ∧ K (h 472 ((l1 * 24) + l3)) h))) : tX12_setTurns_2 G d K l1 l2 l3 h := by
  unfold tX12_setTurns_2
  refine z_iload_n 3 dX12_setTurns_2 rfl rfl rfl ?_
  refine z_aload_n 0 dX12_setTurns_3 rfl rfl (Nat.le_of_ble_eq_true rfl) rfl ?_
  refine z_getF 12 13 (x := 471) fX12_28 rfl dX12_setTurns_4 rfl rfl ?_
  refine z_iload_n 1 dX12_setTurns_7 rfl rfl rfl ?_
  obtain ⟨i9, k⟩ := k
  refine z_iald (x := (h 471 l1)) dX12_setTurns_8 (by rw [zl_471]; exact i9) rfl rfl ?_
  obtain ⟨r1, r2, ka, kb⟩ := k
  refine z_icmp_ge (tgt := 74) dX12_setTurns_9 rfl r1 r2 rfl ⟨fun q => ?_, fun q => ?_⟩
  · have k := ka q
    refine z_ldcw (x := 65536) cX12_373 rfl dX12_setTurns_74 rfl ?_
    exact z_ireturn rfl dX12_setTurns_77 ⟨_, rfl, k⟩
  · have k := kb q
    refine z_aload_n 0 dX12_setTurns_12 rfl rfl (Nat.le_of_ble_eq_true rfl) rfl ?_
    refine z_getF 12 13 (x := 472) fX12_31 rfl dX12_setTurns_13 rfl rfl ?_
    refine z_iload_n 1 dX12_setTurns_16 rfl rfl rfl ?_
    refine z_bipush dX12_setTurns_17 rfl rfl ?_
    refine z_imul dX12_setTurns_19 rfl ?_
    refine z_iload_n 3 dX12_setTurns_20 rfl rfl rfl ?_
    refine z_iadd dX12_setTurns_21 rfl ?_
    obtain ⟨i9, k⟩ := k
    refine z_iald (x := (h 472 ((l1 * 24) + l3))) dX12_setTurns_22 (by rw [zl_472]; exact i9) rfl rfl ?_
    refine z_iload_n 2 dX12_setTurns_23 rfl rfl rfl ?_
    obtain ⟨r1, r2, ka, kb⟩ := k
    refine z_icmp_le (tgt := 39) dX12_setTurns_24 rfl r1 r2 rfl ⟨fun q => ?_, fun q => ?_⟩
    · have k := ka q
      refine z_aload_n 0 dX12_setTurns_39 rfl rfl (Nat.le_of_ble_eq_true rfl) rfl ?_
      refine z_getF 12 13 (x := 473) fX12_34 rfl dX12_setTurns_40 rfl rfl ?_
      refine z_iload_n 1 dX12_setTurns_43 rfl rfl rfl ?_
      refine z_bipush dX12_setTurns_44 rfl rfl ?_
      refine z_imul dX12_setTurns_46 rfl ?_
      refine z_iload_n 3 dX12_setTurns_47 rfl rfl rfl ?_
      refine z_iadd dX12_setTurns_48 rfl ?_
      obtain ⟨i9, k⟩ := k
      refine z_iald (x := (h 473 ((l1 * 24) + l3))) dX12_setTurns_49 (by rw [zl_473]; exact i9) rfl rfl ?_
      refine z_iload_n 2 dX12_setTurns_50 rfl rfl rfl ?_
      obtain ⟨r1, r2, ka, kb⟩ := k
      refine z_icmp_lt (tgt := 68) dX12_setTurns_51 rfl r1 r2 rfl ⟨fun q => ?_, fun q => ?_⟩
      · have k := ka q
        refine z_iinc dX12_setTurns_68 rfl (Nat.le_of_ble_eq_true rfl) (L' := [some (vr 12 466), some (vi l1), some (vi l2), some (vi (l3 + 1))]) rfl rfl ?_
        refine z_goto (tgt := 2) dX12_setTurns_71 rfl ?_
        exact z_sub (L' := [some (vr 12 466), some (vi l1), some (vi l2), some (vi (l3 + 1))]) (And.intro rfl (And.intro rfl (And.intro rfl (And.intro rfl trivial)))) k
      · have k := kb q
        refine z_aload_n 0 dX12_setTurns_54 rfl rfl (Nat.le_of_ble_eq_true rfl) rfl ?_
        refine z_getF 12 13 (x := 473) fX12_34 rfl dX12_setTurns_55 rfl rfl ?_
        refine z_iload_n 1 dX12_setTurns_58 rfl rfl rfl ?_
        refine z_bipush dX12_setTurns_59 rfl rfl ?_
        refine z_imul dX12_setTurns_61 rfl ?_
        refine z_iload_n 3 dX12_setTurns_62 rfl rfl rfl ?_
        refine z_iadd dX12_setTurns_63 rfl ?_
        obtain ⟨i9, k⟩ := k
        refine z_iald (x := (h 473 ((l1 * 24) + l3))) dX12_setTurns_64 (by rw [zl_473]; exact i9) rfl rfl ?_
        refine z_iconst dX12_setTurns_65 rfl ?_
        refine z_iadd dX12_setTurns_66 rfl ?_
        exact z_ireturn rfl dX12_setTurns_67 ⟨_, rfl, k⟩
    · have k := kb q
      refine z_aload_n 0 dX12_setTurns_27 rfl rfl (Nat.le_of_ble_eq_true rfl) rfl ?_
      refine z_getF 12 13 (x := 472) fX12_31 rfl dX12_setTurns_28 rfl rfl ?_
      refine z_iload_n 1 dX12_setTurns_31 rfl rfl rfl ?_
      refine z_bipush dX12_setTurns_32 rfl rfl ?_
      refine z_imul dX12_setTurns_34 rfl ?_
      refine z_iload_n 3 dX12_setTurns_35 rfl rfl rfl ?_
      refine z_iadd dX12_setTurns_36 rfl ?_
      obtain ⟨i9, k⟩ := k
      refine z_iald (x := (h 472 ((l1 * 24) + l3))) dX12_setTurns_37 (by rw [zl_472]; exact i9) rfl rfl ?_
      exact z_ireturn rfl dX12_setTurns_38 ⟨_, rfl, k⟩
theorem eX12_setTurns {G : zG} {d : Nat} {K : Int → zH → Prop} {l1 : Int} {l2 : Int} {h : zH} (k : tX12_setTurns_0 G d K l1 l2 h) : zCi G d mX12_setTurns [vr 12 466, vi l1, vi l2] h K := z_entry (by decide +kernel) (Nat.le_of_ble_eq_true rfl) rfl k
def tX12_ranges_0 (G : zG) (d : Nat) (K : Int → zH → Prop) (l1 : Int) (h : zH) : Prop := zTi G (d + 1) mX12_ranges K 0 [some (vr 12 466), some (vi l1)] [] h
theorem bX12_ranges_0 {G : zG} {d : Nat} {K : Int → zH → Prop} {l1 : Int} {h : zH} (k : zCb G d mX12_isSet [vr 12 466, vi l1] (zup h 466 0 0) (fun x1 h2 => (x1 = true → ((0 : Int) ≤ l1 ∧ l1 < 24) ∧ zCi G d mX12_good [vr 12 466, vi (h2 471 l1)] h2 (fun x3 h4 => K x3 h4)) ∧ (x1 = false → zCi G d mX12_refused [vr 12 466, vi 1] h2 (fun x5 h6 => K x5 h6)))) : tX12_ranges_0 G d K l1 h := by
  unfold tX12_ranges_0
  refine z_aload_n 0 dX12_ranges_0 rfl rfl (Nat.le_of_ble_eq_true rfl) rfl ?_
  refine z_iconst dX12_ranges_1 rfl ?_
  refine z_putI 12 gX12_190 dX12_ranges_2 rfl ?_
  refine z_aload_n 0 dX12_ranges_5 rfl rfl (Nat.le_of_ble_eq_true rfl) rfl ?_
  refine z_iload_n 1 dX12_ranges_6 rfl rfl rfl ?_
  refine z_callVb vX12_isSet kX12_447 dX12_ranges_7 rfl (zRo_d d) (as := [vi l1]) (rest := []) (Nat.le_of_ble_eq_true rfl) rfl rfl (zCb_mono (fun x1 h2 k => ?_) k)
  obtain ⟨ka, kb⟩ := k
  refine z_ifb_ne (tgt := 19) dX12_ranges_10 rfl rfl ⟨fun q => ?_, fun q => ?_⟩
  · have k := ka q
    refine z_aload_n 0 dX12_ranges_19 rfl rfl (Nat.le_of_ble_eq_true rfl) rfl ?_
    refine z_aload_n 0 dX12_ranges_20 rfl rfl (Nat.le_of_ble_eq_true rfl) rfl ?_
    refine z_getF 12 13 (x := 471) fX12_28 rfl dX12_ranges_21 rfl rfl ?_
    refine z_iload_n 1 dX12_ranges_24 rfl rfl rfl ?_
    obtain ⟨i9, k⟩ := k
    refine z_iald (x := (h2 471 l1)) dX12_ranges_25 (by rw [zl_471]; exact i9) rfl rfl ?_
    refine z_callVi vX12_good kX12_196 dX12_ranges_26 rfl (zRo_d d) (as := [vi (h2 471 l1)]) (rest := []) (Nat.le_of_ble_eq_true rfl) rfl rfl (zCi_mono (fun x3 h4 k => ?_) k)
    exact z_ireturn rfl dX12_ranges_29 ⟨_, rfl, k⟩
  · have k := kb q
    refine z_aload_n 0 dX12_ranges_13 rfl rfl (Nat.le_of_ble_eq_true rfl) rfl ?_
    refine z_iconst dX12_ranges_14 rfl ?_
    refine z_callVi vX12_refused kX12_426 dX12_ranges_15 rfl (zRo_d d) (as := [vi 1]) (rest := []) (Nat.le_of_ble_eq_true rfl) rfl rfl (zCi_mono (fun x5 h6 k => ?_) k)
    exact z_ireturn rfl dX12_ranges_18 ⟨_, rfl, k⟩
theorem eX12_ranges {G : zG} {d : Nat} {K : Int → zH → Prop} {l1 : Int} {h : zH} (k : tX12_ranges_0 G d K l1 h) : zCi G (d + 1) mX12_ranges [vr 12 466, vi l1] h K := z_entry (by decide +kernel) (Nat.le_of_ble_eq_true rfl) rfl k
def tX12_range_0 (G : zG) (d : Nat) (K : Int → zH → Prop) (l1 : Int) (l2 : Int) (l3 : Bool) (h : zH) : Prop := zTi G (d + 1) mX12_range K 0 [some (vr 12 466), some (vi l1), some (vi l2), some (vi (bi l3))] [] h
theorem bX12_range_0 {G : zG} {d : Nat} {K : Int → zH → Prop} {l1 : Int} {l2 : Int} {l3 : Bool} {h : zH} (k : zCb G d mX12_isSet [vr 12 466, vi l1] (zup h 466 0 0) (fun x1 h2 => (x1 = false → zCi G d mX12_refused [vr 12 466, vi 1] h2 (fun x3 h4 => K x3 h4)) ∧ (x1 = true → zR l2 ∧ (l2 < 0 → zCi G d mX12_refused [vr 12 466, vi 1] h2 (fun x5 h6 => K x5 h6)) ∧ (¬ l2 < 0 → ((0 : Int) ≤ l1 ∧ l1 < 24) ∧ zR l2 ∧ zR (h2 471 l1) ∧ (l2 < (h2 471 l1) → (l3 = false → ((0 : Int) ≤ ((l1 * 24) + l2) ∧ ((l1 * 24) + l2) < 576) ∧ zCi G d mX12_good [vr 12 466, vi (h2 472 ((l1 * 24) + l2))] h2 (fun x7 h8 => K x7 h8)) ∧ (l3 = true → ((0 : Int) ≤ ((l1 * 24) + l2) ∧ ((l1 * 24) + l2) < 576) ∧ zCi G d mX12_good [vr 12 466, vi (h2 473 ((l1 * 24) + l2))] h2 (fun x9 h10 => K x9 h10))) ∧ (¬ l2 < (h2 471 l1) → zCi G d mX12_refused [vr 12 466, vi 1] h2 (fun x11 h12 => K x11 h12)))))) : tX12_range_0 G d K l1 l2 l3 h := by
  unfold tX12_range_0
  refine z_aload_n 0 dX12_range_0 rfl rfl (Nat.le_of_ble_eq_true rfl) rfl ?_
  refine z_iconst dX12_range_1 rfl ?_
  refine z_putI 12 gX12_190 dX12_range_2 rfl ?_
  refine z_aload_n 0 dX12_range_5 rfl rfl (Nat.le_of_ble_eq_true rfl) rfl ?_
  refine z_iload_n 1 dX12_range_6 rfl rfl rfl ?_
  refine z_callVb vX12_isSet kX12_447 dX12_range_7 rfl (zRo_d d) (as := [vi l1]) (rest := []) (Nat.le_of_ble_eq_true rfl) rfl rfl (zCb_mono (fun x1 h2 k => ?_) k)
  obtain ⟨ka, kb⟩ := k
  refine z_ifb_eq (tgt := 27) dX12_range_10 rfl rfl ⟨fun q => ?_, fun q => ?_⟩
  · have k := ka q
    refine z_aload_n 0 dX12_range_27 rfl rfl (Nat.le_of_ble_eq_true rfl) rfl ?_
    refine z_iconst dX12_range_28 rfl ?_
    refine z_callVi vX12_refused kX12_426 dX12_range_29 rfl (zRo_d d) (as := [vi 1]) (rest := []) (Nat.le_of_ble_eq_true rfl) rfl rfl (zCi_mono (fun x3 h4 k => ?_) k)
    exact z_ireturn rfl dX12_range_32 ⟨_, rfl, k⟩
  · have k := kb q
    refine z_iload_n 2 dX12_range_13 rfl rfl rfl ?_
    obtain ⟨r1, ka, kb⟩ := k
    refine z_if_lt (tgt := 27) dX12_range_14 rfl r1 rfl ⟨fun q => ?_, fun q => ?_⟩
    · have k := ka q
      refine z_aload_n 0 dX12_range_27 rfl rfl (Nat.le_of_ble_eq_true rfl) rfl ?_
      refine z_iconst dX12_range_28 rfl ?_
      refine z_callVi vX12_refused kX12_426 dX12_range_29 rfl (zRo_d d) (as := [vi 1]) (rest := []) (Nat.le_of_ble_eq_true rfl) rfl rfl (zCi_mono (fun x5 h6 k => ?_) k)
      exact z_ireturn rfl dX12_range_32 ⟨_, rfl, k⟩
    · have k := kb q
      refine z_iload_n 2 dX12_range_17 rfl rfl rfl ?_
      refine z_aload_n 0 dX12_range_18 rfl rfl (Nat.le_of_ble_eq_true rfl) rfl ?_
      refine z_getF 12 13 (x := 471) fX12_28 rfl dX12_range_19 rfl rfl ?_
      refine z_iload_n 1 dX12_range_22 rfl rfl rfl ?_
      obtain ⟨i9, k⟩ := k
      refine z_iald (x := (h2 471 l1)) dX12_range_23 (by rw [zl_471]; exact i9) rfl rfl ?_
      obtain ⟨r1, r2, ka, kb⟩ := k
      refine z_icmp_lt (tgt := 33) dX12_range_24 rfl r1 r2 rfl ⟨fun q => ?_, fun q => ?_⟩
      · have k := ka q
        refine z_aload_n 0 dX12_range_33 rfl rfl (Nat.le_of_ble_eq_true rfl) rfl ?_
        refine z_iload_n 3 dX12_range_34 rfl rfl rfl ?_
        obtain ⟨ka, kb⟩ := k
        refine z_ifb_eq (tgt := 52) dX12_range_35 rfl rfl ⟨fun q => ?_, fun q => ?_⟩
        · have k := ka q
          refine z_aload_n 0 dX12_range_52 rfl rfl (Nat.le_of_ble_eq_true rfl) rfl ?_
          refine z_getF 12 13 (x := 472) fX12_31 rfl dX12_range_53 rfl rfl ?_
          refine z_iload_n 1 dX12_range_56 rfl rfl rfl ?_
          refine z_bipush dX12_range_57 rfl rfl ?_
          refine z_imul dX12_range_59 rfl ?_
          refine z_iload_n 2 dX12_range_60 rfl rfl rfl ?_
          refine z_iadd dX12_range_61 rfl ?_
          obtain ⟨i9, k⟩ := k
          refine z_iald (x := (h2 472 ((l1 * 24) + l2))) dX12_range_62 (by rw [zl_472]; exact i9) rfl rfl ?_
          refine z_callVi vX12_good kX12_196 dX12_range_63 rfl (zRo_d d) (as := [vi (h2 472 ((l1 * 24) + l2))]) (rest := []) (Nat.le_of_ble_eq_true rfl) rfl rfl (zCi_mono (fun x7 h8 k => ?_) k)
          exact z_ireturn rfl dX12_range_66 ⟨_, rfl, k⟩
        · have k := kb q
          refine z_aload_n 0 dX12_range_38 rfl rfl (Nat.le_of_ble_eq_true rfl) rfl ?_
          refine z_getF 12 13 (x := 473) fX12_34 rfl dX12_range_39 rfl rfl ?_
          refine z_iload_n 1 dX12_range_42 rfl rfl rfl ?_
          refine z_bipush dX12_range_43 rfl rfl ?_
          refine z_imul dX12_range_45 rfl ?_
          refine z_iload_n 2 dX12_range_46 rfl rfl rfl ?_
          refine z_iadd dX12_range_47 rfl ?_
          obtain ⟨i9, k⟩ := k
          refine z_iald (x := (h2 473 ((l1 * 24) + l2))) dX12_range_48 (by rw [zl_473]; exact i9) rfl rfl ?_
          refine z_goto (tgt := 63) dX12_range_49 rfl ?_
          refine z_callVi vX12_good kX12_196 dX12_range_63 rfl (zRo_d d) (as := [vi (h2 473 ((l1 * 24) + l2))]) (rest := []) (Nat.le_of_ble_eq_true rfl) rfl rfl (zCi_mono (fun x9 h10 k => ?_) k)
          exact z_ireturn rfl dX12_range_66 ⟨_, rfl, k⟩
      · have k := kb q
        refine z_aload_n 0 dX12_range_27 rfl rfl (Nat.le_of_ble_eq_true rfl) rfl ?_
        refine z_iconst dX12_range_28 rfl ?_
        refine z_callVi vX12_refused kX12_426 dX12_range_29 rfl (zRo_d d) (as := [vi 1]) (rest := []) (Nat.le_of_ble_eq_true rfl) rfl rfl (zCi_mono (fun x11 h12 k => ?_) k)
        exact z_ireturn rfl dX12_range_32 ⟨_, rfl, k⟩
theorem eX12_range {G : zG} {d : Nat} {K : Int → zH → Prop} {l1 : Int} {l2 : Int} {l3 : Bool} {h : zH} (k : tX12_range_0 G d K l1 l2 l3 h) : zCi G (d + 1) mX12_range [vr 12 466, vi l1, vi l2, vi (bi l3)] h K := z_entry (by decide +kernel) (Nat.le_of_ble_eq_true rfl) rfl k
def tX12_letters_0 (G : zG) (d : Nat) (K : Int → zH → Prop) (l1 : Int) (h : zH) : Prop := zTi G (d + 1) mX12_letters K 0 [some (vr 12 466), some (vi l1), none, none] [] h
def tX12_letters_23 (G : zG) (d : Nat) (K : Int → zH → Prop) (l1 : Int) (l2 : Int) (l3 : Int) (h : zH) : Prop := zTi G (d + 1) mX12_letters K 23 [some (vr 12 466), some (vi l1), some (vi l2), some (vi l3)] [] h
theorem bX12_letters_0 {G : zG} {d : Nat} {K : Int → zH → Prop} {l1 : Int} {h : zH} (k : zCb G d mX12_isSet [vr 12 466, vi l1] (zup h 466 0 0) (fun x1 h2 => (x1 = true → tX12_letters_23 G d K l1 0 0 h2) ∧ (x1 = false → zCi G d mX12_refused [vr 12 466, vi 1] h2 (fun x3 h4 => K x3 h4)))) : tX12_letters_0 G d K l1 h := by
  unfold tX12_letters_0
  refine z_aload_n 0 dX12_letters_0 rfl rfl (Nat.le_of_ble_eq_true rfl) rfl ?_
  refine z_iconst dX12_letters_1 rfl ?_
  refine z_putI 12 gX12_190 dX12_letters_2 rfl ?_
  refine z_aload_n 0 dX12_letters_5 rfl rfl (Nat.le_of_ble_eq_true rfl) rfl ?_
  refine z_iload_n 1 dX12_letters_6 rfl rfl rfl ?_
  refine z_callVb vX12_isSet kX12_447 dX12_letters_7 rfl (zRo_d d) (as := [vi l1]) (rest := []) (Nat.le_of_ble_eq_true rfl) rfl rfl (zCb_mono (fun x1 h2 k => ?_) k)
  obtain ⟨ka, kb⟩ := k
  refine z_ifb_ne (tgt := 19) dX12_letters_10 rfl rfl ⟨fun q => ?_, fun q => ?_⟩
  · have k := ka q
    refine z_iconst dX12_letters_19 rfl ?_
    refine z_istore_n 2 dX12_letters_20 rfl (Nat.le_of_ble_eq_true rfl) (L' := [some (vr 12 466), some (vi l1), some (vi 0), none]) rfl rfl ?_
    refine z_iconst dX12_letters_21 rfl ?_
    refine z_istore_n 3 dX12_letters_22 rfl (Nat.le_of_ble_eq_true rfl) (L' := [some (vr 12 466), some (vi l1), some (vi 0), some (vi 0)]) rfl rfl ?_
    exact z_sub (L' := [some (vr 12 466), some (vi l1), some (vi 0), some (vi 0)]) (And.intro rfl (And.intro rfl (And.intro rfl (And.intro rfl trivial)))) k
  · have k := kb q
    refine z_aload_n 0 dX12_letters_13 rfl rfl (Nat.le_of_ble_eq_true rfl) rfl ?_
    refine z_iconst dX12_letters_14 rfl ?_
    refine z_callVi vX12_refused kX12_426 dX12_letters_15 rfl (zRo_d d) (as := [vi 1]) (rest := []) (Nat.le_of_ble_eq_true rfl) rfl rfl (zCi_mono (fun x3 h4 k => ?_) k)
    exact z_ireturn rfl dX12_letters_18 ⟨_, rfl, k⟩
theorem bX12_letters_23 {G : zG} {d : Nat} {K : Int → zH → Prop} {l1 : Int} {l2 : Int} {l3 : Int} {h : zH} (k : ((0 : Int) ≤ l1 ∧ l1 < 24) ∧ zR l3 ∧ zR (h 471 l1) ∧ ((h 471 l1) ≤ l3 → zCi G d mX12_good [vr 12 466, vi l2] h (fun x1 h2 => K x1 h2)) ∧ (¬ (h 471 l1) ≤ l3 → ((0 : Int) ≤ ((l1 * 24) + l3) ∧ ((l1 * 24) + l3) < 576) ∧ ((0 : Int) ≤ ((l1 * 24) + l3) ∧ ((l1 * 24) + l3) < 576) ∧ tX12_letters_23 G d K l1 (l2 + (((h 473 ((l1 * 24) + l3)) - (h 472 ((l1 * 24) + l3))) + 1)) (l3 + 1) h)) : tX12_letters_23 G d K l1 l2 l3 h := by
  unfold tX12_letters_23
  refine z_iload_n 3 dX12_letters_23 rfl rfl rfl ?_
  refine z_aload_n 0 dX12_letters_24 rfl rfl (Nat.le_of_ble_eq_true rfl) rfl ?_
  refine z_getF 12 13 (x := 471) fX12_28 rfl dX12_letters_25 rfl rfl ?_
  refine z_iload_n 1 dX12_letters_28 rfl rfl rfl ?_
  obtain ⟨i9, k⟩ := k
  refine z_iald (x := (h 471 l1)) dX12_letters_29 (by rw [zl_471]; exact i9) rfl rfl ?_
  obtain ⟨r1, r2, ka, kb⟩ := k
  refine z_icmp_ge (tgt := 67) dX12_letters_30 rfl r1 r2 rfl ⟨fun q => ?_, fun q => ?_⟩
  · have k := ka q
    refine z_aload_n 0 dX12_letters_67 rfl rfl (Nat.le_of_ble_eq_true rfl) rfl ?_
    refine z_iload_n 2 dX12_letters_68 rfl rfl rfl ?_
    refine z_callVi vX12_good kX12_196 dX12_letters_69 rfl (zRo_d d) (as := [vi l2]) (rest := []) (Nat.le_of_ble_eq_true rfl) rfl rfl (zCi_mono (fun x1 h2 k => ?_) k)
    exact z_ireturn rfl dX12_letters_72 ⟨_, rfl, k⟩
  · have k := kb q
    refine z_iload_n 2 dX12_letters_33 rfl rfl rfl ?_
    refine z_aload_n 0 dX12_letters_34 rfl rfl (Nat.le_of_ble_eq_true rfl) rfl ?_
    refine z_getF 12 13 (x := 473) fX12_34 rfl dX12_letters_35 rfl rfl ?_
    refine z_iload_n 1 dX12_letters_38 rfl rfl rfl ?_
    refine z_bipush dX12_letters_39 rfl rfl ?_
    refine z_imul dX12_letters_41 rfl ?_
    refine z_iload_n 3 dX12_letters_42 rfl rfl rfl ?_
    refine z_iadd dX12_letters_43 rfl ?_
    obtain ⟨i9, k⟩ := k
    refine z_iald (x := (h 473 ((l1 * 24) + l3))) dX12_letters_44 (by rw [zl_473]; exact i9) rfl rfl ?_
    refine z_aload_n 0 dX12_letters_45 rfl rfl (Nat.le_of_ble_eq_true rfl) rfl ?_
    refine z_getF 12 13 (x := 472) fX12_31 rfl dX12_letters_46 rfl rfl ?_
    refine z_iload_n 1 dX12_letters_49 rfl rfl rfl ?_
    refine z_bipush dX12_letters_50 rfl rfl ?_
    refine z_imul dX12_letters_52 rfl ?_
    refine z_iload_n 3 dX12_letters_53 rfl rfl rfl ?_
    refine z_iadd dX12_letters_54 rfl ?_
    obtain ⟨i9, k⟩ := k
    refine z_iald (x := (h 472 ((l1 * 24) + l3))) dX12_letters_55 (by rw [zl_472]; exact i9) rfl rfl ?_
    refine z_isub dX12_letters_56 rfl ?_
    refine z_iconst dX12_letters_57 rfl ?_
    refine z_iadd dX12_letters_58 rfl ?_
    refine z_iadd dX12_letters_59 rfl ?_
    refine z_istore_n 2 dX12_letters_60 rfl (Nat.le_of_ble_eq_true rfl) (L' := [some (vr 12 466), some (vi l1), some (vi (l2 + (((h 473 ((l1 * 24) + l3)) - (h 472 ((l1 * 24) + l3))) + 1))), some (vi l3)]) rfl rfl ?_
    refine z_iinc dX12_letters_61 rfl (Nat.le_of_ble_eq_true rfl) (L' := [some (vr 12 466), some (vi l1), some (vi (l2 + (((h 473 ((l1 * 24) + l3)) - (h 472 ((l1 * 24) + l3))) + 1))), some (vi (l3 + 1))]) rfl rfl ?_
    refine z_goto (tgt := 23) dX12_letters_64 rfl ?_
    exact z_sub (L' := [some (vr 12 466), some (vi l1), some (vi (l2 + (((h 473 ((l1 * 24) + l3)) - (h 472 ((l1 * 24) + l3))) + 1))), some (vi (l3 + 1))]) (And.intro rfl (And.intro rfl (And.intro rfl (And.intro rfl trivial)))) k
theorem eX12_letters {G : zG} {d : Nat} {K : Int → zH → Prop} {l1 : Int} {h : zH} (k : tX12_letters_0 G d K l1 h) : zCi G (d + 1) mX12_letters [vr 12 466, vi l1] h K := z_entry (by decide +kernel) (Nat.le_of_ble_eq_true rfl) rfl k
def tX12_has_0 (G : zG) (d : Nat) (K : Int → zH → Prop) (l1 : Int) (l2 : Int) (h : zH) : Prop := zTi G (d + 1) mX12_has K 0 [some (vr 12 466), some (vi l1), some (vi l2)] [] h
theorem bX12_has_0 {G : zG} {d : Nat} {K : Int → zH → Prop} {l1 : Int} {l2 : Int} {h : zH} (k : zCb G d mX12_isSet [vr 12 466, vi l1] (zup h 466 0 0) (fun x1 h2 => (x1 = true → zCb G d mX12_isLetter [vi l2] h2 (fun x3 h4 => (x3 = true → zCb G d mX12_setHas [vr 12 466, vi l1, vi l2] h4 (fun x5 h6 => (x5 = false → zCi G d mX12_good [vr 12 466, vi 0] h6 (fun x7 h8 => K x7 h8)) ∧ (x5 = true → zCi G d mX12_good [vr 12 466, vi 1] h6 (fun x9 h10 => K x9 h10)))) ∧ (x3 = false → zCi G d mX12_refused [vr 12 466, vi 2] h4 (fun x11 h12 => K x11 h12)))) ∧ (x1 = false → zCi G d mX12_refused [vr 12 466, vi 1] h2 (fun x13 h14 => K x13 h14)))) : tX12_has_0 G d K l1 l2 h := by
  unfold tX12_has_0
  refine z_aload_n 0 dX12_has_0 rfl rfl (Nat.le_of_ble_eq_true rfl) rfl ?_
  refine z_iconst dX12_has_1 rfl ?_
  refine z_putI 12 gX12_190 dX12_has_2 rfl ?_
  refine z_aload_n 0 dX12_has_5 rfl rfl (Nat.le_of_ble_eq_true rfl) rfl ?_
  refine z_iload_n 1 dX12_has_6 rfl rfl rfl ?_
  refine z_callVb vX12_isSet kX12_447 dX12_has_7 rfl (zRo_d d) (as := [vi l1]) (rest := []) (Nat.le_of_ble_eq_true rfl) rfl rfl (zCb_mono (fun x1 h2 k => ?_) k)
  obtain ⟨ka, kb⟩ := k
  refine z_ifb_ne (tgt := 19) dX12_has_10 rfl rfl ⟨fun q => ?_, fun q => ?_⟩
  · have k := ka q
    refine z_iload_n 2 dX12_has_19 rfl rfl rfl ?_
    refine z_callSb sX12_isLetter kX12_450 dX12_has_20 rfl (zRo_d d) (as := [vi l2]) (rest := []) (Nat.le_of_ble_eq_true rfl) rfl rfl (zCb_mono (fun x3 h4 k => ?_) k)
    obtain ⟨ka, kb⟩ := k
    refine z_ifb_ne (tgt := 32) dX12_has_23 rfl rfl ⟨fun q => ?_, fun q => ?_⟩
    · have k := ka q
      refine z_aload_n 0 dX12_has_32 rfl rfl (Nat.le_of_ble_eq_true rfl) rfl ?_
      refine z_aload_n 0 dX12_has_33 rfl rfl (Nat.le_of_ble_eq_true rfl) rfl ?_
      refine z_iload_n 1 dX12_has_34 rfl rfl rfl ?_
      refine z_iload_n 2 dX12_has_35 rfl rfl rfl ?_
      refine z_callVb vX12_setHas kX12_453 dX12_has_36 rfl (zRo_d d) (as := [vi l1, vi l2]) (rest := [vr 12 466]) (Nat.le_of_ble_eq_true rfl) rfl rfl (zCb_mono (fun x5 h6 k => ?_) k)
      obtain ⟨ka, kb⟩ := k
      refine z_ifb_eq (tgt := 46) dX12_has_39 rfl rfl ⟨fun q => ?_, fun q => ?_⟩
      · have k := ka q
        refine z_iconst dX12_has_46 rfl ?_
        refine z_callVi vX12_good kX12_196 dX12_has_47 rfl (zRo_d d) (as := [vi 0]) (rest := []) (Nat.le_of_ble_eq_true rfl) rfl rfl (zCi_mono (fun x7 h8 k => ?_) k)
        exact z_ireturn rfl dX12_has_50 ⟨_, rfl, k⟩
      · have k := kb q
        refine z_iconst dX12_has_42 rfl ?_
        refine z_goto (tgt := 47) dX12_has_43 rfl ?_
        refine z_callVi vX12_good kX12_196 dX12_has_47 rfl (zRo_d d) (as := [vi 1]) (rest := []) (Nat.le_of_ble_eq_true rfl) rfl rfl (zCi_mono (fun x9 h10 k => ?_) k)
        exact z_ireturn rfl dX12_has_50 ⟨_, rfl, k⟩
    · have k := kb q
      refine z_aload_n 0 dX12_has_26 rfl rfl (Nat.le_of_ble_eq_true rfl) rfl ?_
      refine z_iconst dX12_has_27 rfl ?_
      refine z_callVi vX12_refused kX12_426 dX12_has_28 rfl (zRo_d d) (as := [vi 2]) (rest := []) (Nat.le_of_ble_eq_true rfl) rfl rfl (zCi_mono (fun x11 h12 k => ?_) k)
      exact z_ireturn rfl dX12_has_31 ⟨_, rfl, k⟩
  · have k := kb q
    refine z_aload_n 0 dX12_has_13 rfl rfl (Nat.le_of_ble_eq_true rfl) rfl ?_
    refine z_iconst dX12_has_14 rfl ?_
    refine z_callVi vX12_refused kX12_426 dX12_has_15 rfl (zRo_d d) (as := [vi 1]) (rest := []) (Nat.le_of_ble_eq_true rfl) rfl rfl (zCi_mono (fun x13 h14 k => ?_) k)
    exact z_ireturn rfl dX12_has_18 ⟨_, rfl, k⟩
theorem eX12_has {G : zG} {d : Nat} {K : Int → zH → Prop} {l1 : Int} {l2 : Int} {h : zH} (k : tX12_has_0 G d K l1 l2 h) : zCi G (d + 1) mX12_has [vr 12 466, vi l1, vi l2] h K := z_entry (by decide +kernel) (Nat.le_of_ble_eq_true rfl) rfl k
def tX12_mixes_0 (G : zG) (d : Nat) (K : zH → Prop) (l1 : Int) (l2 : Int) (l3 : Int) (l4 : Int) (h : zH) : Prop := zTv G (d + 1) mX12_mixes K 0 [some (vr 12 466), some (vi l1), some (vi l2), some (vi l3), some (vi l4), none, none, none, none, none, none] [] h
def tX12_mixes_16 (G : zG) (d : Nat) (K : zH → Prop) (l1 : Int) (l2 : Int) (l3 : Int) (l4 : Int) (l5 : Int) (l6 : Int) (h : zH) : Prop := zTv G (d + 1) mX12_mixes K 16 [some (vr 12 466), some (vi l1), some (vi l2), some (vi l3), some (vi l4), some (vi l5), some (vi l6), none, none, none, none] [] h
def tX12_mixes_103 (G : zG) (d : Nat) (K : zH → Prop) (l1 : Int) (l2 : Int) (l3 : Int) (l4 : Int) (l5 : Int) (l9 : Int) (l10 : Int) (h : zH) : Prop := zTv G (d + 1) mX12_mixes K 103 [some (vr 12 466), some (vi l1), some (vi l2), some (vi l3), some (vi l4), some (vi l5), none, none, none, some (vi l9), some (vi l10)] [] h
def tX12_mixes_113 (G : zG) (d : Nat) (K : zH → Prop) (l1 : Int) (l2 : Int) (l3 : Int) (l4 : Int) (l5 : Int) (l9 : Int) (l10 : Int) (h : zH) : Prop := zTv G (d + 1) mX12_mixes K 113 [some (vr 12 466), some (vi l1), some (vi l2), some (vi l3), some (vi l4), some (vi l5), none, none, none, some (vi l9), some (vi l10)] [] h
def tX12_mixes_132 (G : zG) (d : Nat) (K : zH → Prop) (l1 : Int) (l2 : Int) (l3 : Int) (l4 : Int) (l9 : Int) (l10 : Int) (h : zH) : Prop := zTv G (d + 1) mX12_mixes K 132 [some (vr 12 466), some (vi l1), some (vi l2), some (vi l3), some (vi l4), none, none, none, none, some (vi l9), some (vi l10)] [] h
def tX12_mixes_156 (G : zG) (d : Nat) (K : zH → Prop) (l1 : Int) (l2 : Int) (l3 : Int) (l4 : Int) (l9 : Int) (l10 : Int) (h : zH) : Prop := zTv G (d + 1) mX12_mixes K 156 [some (vr 12 466), some (vi l1), some (vi l2), some (vi l3), some (vi l4), none, none, none, none, some (vi l9), some (vi l10)] [] h
theorem bX12_mixes_0 {G : zG} {d : Nat} {K : zH → Prop} {l1 : Int} {l2 : Int} {l3 : Int} {l4 : Int} {h : zH} (k : tX12_mixes_16 G d K l1 l2 l3 l4 0 0 (zup (zup h 466 36 0) 466 37 0)) : tX12_mixes_0 G d K l1 l2 l3 l4 h := by
  unfold tX12_mixes_0
  refine z_aload_n 0 dX12_mixes_0 rfl rfl (Nat.le_of_ble_eq_true rfl) rfl ?_
  refine z_iconst dX12_mixes_1 rfl ?_
  refine z_putI 12 gX12_457 dX12_mixes_2 rfl ?_
  refine z_aload_n 0 dX12_mixes_5 rfl rfl (Nat.le_of_ble_eq_true rfl) rfl ?_
  refine z_iconst dX12_mixes_6 rfl ?_
  refine z_putI 12 gX12_460 dX12_mixes_7 rfl ?_
  refine z_iconst dX12_mixes_10 rfl ?_
  refine z_istore dX12_mixes_11 (Nat.le_of_ble_eq_true rfl) (L' := [some (vr 12 466), some (vi l1), some (vi l2), some (vi l3), some (vi l4), some (vi 0), none, none, none, none, none]) rfl rfl ?_
  refine z_iconst dX12_mixes_13 rfl ?_
  refine z_istore dX12_mixes_14 (Nat.le_of_ble_eq_true rfl) (L' := [some (vr 12 466), some (vi l1), some (vi l2), some (vi l3), some (vi l4), some (vi 0), some (vi 0), none, none, none, none]) rfl rfl ?_
  exact z_sub (L' := [some (vr 12 466), some (vi l1), some (vi l2), some (vi l3), some (vi l4), some (vi 0), some (vi 0), none, none, none, none]) (And.intro rfl (And.intro rfl (And.intro rfl (And.intro rfl (And.intro rfl (And.intro rfl (And.intro rfl trivial))))))) k
theorem bX12_mixes_16 {G : zG} {d : Nat} {K : zH → Prop} {l1 : Int} {l2 : Int} {l3 : Int} {l4 : Int} {l5 : Int} {l6 : Int} {h : zH} (k : zR l5 ∧ (65536 ≤ l5 → K h) ∧ (¬ 65536 ≤ l5 → zCi G d mX12_setTurns [vr 12 466, vi l1, vi l5] h (fun x1 h2 => zCi G d mX12_setTurns [vr 12 466, vi l2, vi l5] h2 (fun x3 h4 => zR x1 ∧ zR x3 ∧ (x3 ≤ x1 → zCb G d mX12_setHas [vr 12 466, vi l1, vi l5] h4 (fun x5 h6 => zCb G d mX12_setHas [vr 12 466, vi l2, vi l5] h6 (fun x7 h8 => zCb G d mX12_holds [vi l3, vi (bi x5), vi (bi x7)] h8 (fun x9 h10 => (x9 = false → tX12_mixes_113 G d K l1 l2 l3 l4 l5 x3 (bi x9) h10) ∧ (x9 = true → zR l6 ∧ (¬ l6 = 0 → tX12_mixes_113 G d K l1 l2 l3 l4 l5 x3 (bi x9) h10) ∧ (l6 = 0 → zR (h10 466 36) ∧ zR l4 ∧ (¬ (h10 466 36) = l4 → tX12_mixes_103 G d K l1 l2 l3 l4 l5 x3 (bi x9) h10) ∧ ((h10 466 36) = l4 → tX12_mixes_103 G d K l1 l2 l3 l4 l5 x3 (bi x9) (zup h10 466 38 l5)))))))) ∧ (¬ x3 ≤ x1 → zCb G d mX12_setHas [vr 12 466, vi l1, vi l5] h4 (fun x11 h12 => zCb G d mX12_setHas [vr 12 466, vi l2, vi l5] h12 (fun x13 h14 => zCb G d mX12_holds [vi l3, vi (bi x11), vi (bi x13)] h14 (fun x15 h16 => (x15 = false → tX12_mixes_113 G d K l1 l2 l3 l4 l5 x1 (bi x15) h16) ∧ (x15 = true → zR l6 ∧ (¬ l6 = 0 → tX12_mixes_113 G d K l1 l2 l3 l4 l5 x1 (bi x15) h16) ∧ (l6 = 0 → zR (h16 466 36) ∧ zR l4 ∧ (¬ (h16 466 36) = l4 → tX12_mixes_103 G d K l1 l2 l3 l4 l5 x1 (bi x15) h16) ∧ ((h16 466 36) = l4 → tX12_mixes_103 G d K l1 l2 l3 l4 l5 x1 (bi x15) (zup h16 466 38 l5)))))))))))) : tX12_mixes_16 G d K l1 l2 l3 l4 l5 l6 h := by
  unfold tX12_mixes_16
  refine z_iload dX12_mixes_16 rfl rfl ?_
  refine z_ldcw (x := 65536) cX12_373 rfl dX12_mixes_18 rfl ?_
  obtain ⟨r1, ka, kb⟩ := k
  refine z_icmp_ge (tgt := 167) dX12_mixes_21 rfl r1 ⟨by decide, by decide⟩ rfl ⟨fun q => ?_, fun q => ?_⟩
  · have k := ka q
    exact z_return rfl dX12_mixes_167 ⟨rfl, k⟩
  · have k := kb q
    refine z_aload_n 0 dX12_mixes_24 rfl rfl (Nat.le_of_ble_eq_true rfl) rfl ?_
    refine z_iload_n 1 dX12_mixes_25 rfl rfl rfl ?_
    refine z_iload dX12_mixes_26 rfl rfl ?_
    refine z_callVi vX12_setTurns kX12_463 dX12_mixes_28 rfl (zRo_d d) (as := [vi l1, vi l5]) (rest := []) (Nat.le_of_ble_eq_true rfl) rfl rfl (zCi_mono (fun x1 h2 k => ?_) k)
    refine z_istore dX12_mixes_31 (Nat.le_of_ble_eq_true rfl) (L' := [some (vr 12 466), some (vi l1), some (vi l2), some (vi l3), some (vi l4), some (vi l5), some (vi l6), some (vi x1), none, none, none]) rfl rfl ?_
    refine z_aload_n 0 dX12_mixes_33 rfl rfl (Nat.le_of_ble_eq_true rfl) rfl ?_
    refine z_iload_n 2 dX12_mixes_34 rfl rfl rfl ?_
    refine z_iload dX12_mixes_35 rfl rfl ?_
    refine z_callVi vX12_setTurns kX12_463 dX12_mixes_37 rfl (zRo_d d) (as := [vi l2, vi l5]) (rest := []) (Nat.le_of_ble_eq_true rfl) rfl rfl (zCi_mono (fun x3 h4 k => ?_) k)
    refine z_istore dX12_mixes_40 (Nat.le_of_ble_eq_true rfl) (L' := [some (vr 12 466), some (vi l1), some (vi l2), some (vi l3), some (vi l4), some (vi l5), some (vi l6), some (vi x1), some (vi x3), none, none]) rfl rfl ?_
    refine z_iload dX12_mixes_42 rfl rfl ?_
    refine z_iload dX12_mixes_44 rfl rfl ?_
    obtain ⟨r1, r2, ka, kb⟩ := k
    refine z_icmp_ge (tgt := 54) dX12_mixes_46 rfl r1 r2 rfl ⟨fun q => ?_, fun q => ?_⟩
    · have k := ka q
      refine z_iload dX12_mixes_54 rfl rfl ?_
      refine z_istore dX12_mixes_56 (Nat.le_of_ble_eq_true rfl) (L' := [some (vr 12 466), some (vi l1), some (vi l2), some (vi l3), some (vi l4), some (vi l5), some (vi l6), some (vi x1), some (vi x3), some (vi x3), none]) rfl rfl ?_
      refine z_iload_n 3 dX12_mixes_58 rfl rfl rfl ?_
      refine z_aload_n 0 dX12_mixes_59 rfl rfl (Nat.le_of_ble_eq_true rfl) rfl ?_
      refine z_iload_n 1 dX12_mixes_60 rfl rfl rfl ?_
      refine z_iload dX12_mixes_61 rfl rfl ?_
      refine z_callVb vX12_setHas kX12_453 dX12_mixes_63 rfl (zRo_d d) (as := [vi l1, vi l5]) (rest := [vi l3]) (Nat.le_of_ble_eq_true rfl) rfl rfl (zCb_mono (fun x5 h6 k => ?_) k)
      refine z_aload_n 0 dX12_mixes_66 rfl rfl (Nat.le_of_ble_eq_true rfl) rfl ?_
      refine z_iload_n 2 dX12_mixes_67 rfl rfl rfl ?_
      refine z_iload dX12_mixes_68 rfl rfl ?_
      refine z_callVb vX12_setHas kX12_453 dX12_mixes_70 rfl (zRo_d d) (as := [vi l2, vi l5]) (rest := [vi (bi x5), vi l3]) (Nat.le_of_ble_eq_true rfl) rfl rfl (zCb_mono (fun x7 h8 k => ?_) k)
      refine z_callSb sX12_holds kX12_466 dX12_mixes_73 rfl (zRo_d d) (as := [vi l3, vi (bi x5), vi (bi x7)]) (rest := []) (Nat.le_of_ble_eq_true rfl) rfl rfl (zCb_mono (fun x9 h10 k => ?_) k)
      refine z_istore dX12_mixes_76 (Nat.le_of_ble_eq_true rfl) (L' := [some (vr 12 466), some (vi l1), some (vi l2), some (vi l3), some (vi l4), some (vi l5), some (vi l6), some (vi x1), some (vi x3), some (vi x3), some (vi (bi x9))]) rfl rfl ?_
      refine z_iload dX12_mixes_78 rfl rfl ?_
      obtain ⟨ka, kb⟩ := k
      refine z_ifb_eq (tgt := 113) dX12_mixes_80 rfl rfl ⟨fun q => ?_, fun q => ?_⟩
      · have k := ka q
        exact z_sub (L' := [some (vr 12 466), some (vi l1), some (vi l2), some (vi l3), some (vi l4), some (vi l5), none, none, none, some (vi x3), some (vi (bi x9))]) (And.intro rfl (And.intro rfl (And.intro rfl (And.intro rfl (And.intro rfl (And.intro rfl (And.intro rfl (And.intro rfl trivial)))))))) k
      · have k := kb q
        refine z_iload dX12_mixes_83 rfl rfl ?_
        obtain ⟨r1, ka, kb⟩ := k
        refine z_if_ne (tgt := 113) dX12_mixes_85 rfl r1 rfl ⟨fun q => ?_, fun q => ?_⟩
        · have k := ka q
          exact z_sub (L' := [some (vr 12 466), some (vi l1), some (vi l2), some (vi l3), some (vi l4), some (vi l5), none, none, none, some (vi x3), some (vi (bi x9))]) (And.intro rfl (And.intro rfl (And.intro rfl (And.intro rfl (And.intro rfl (And.intro rfl (And.intro rfl (And.intro rfl trivial)))))))) k
        · have k := kb q
          refine z_aload_n 0 dX12_mixes_88 rfl rfl (Nat.le_of_ble_eq_true rfl) rfl ?_
          refine z_getI 12 (x := (h10 466 36)) fX12_457 rfl dX12_mixes_89 rfl rfl ?_
          refine z_iload dX12_mixes_92 rfl rfl ?_
          obtain ⟨r1, r2, ka, kb⟩ := k
          refine z_icmp_ne (tgt := 103) dX12_mixes_94 rfl r1 r2 rfl ⟨fun q => ?_, fun q => ?_⟩
          · have k := ka q
            exact z_sub (L' := [some (vr 12 466), some (vi l1), some (vi l2), some (vi l3), some (vi l4), some (vi l5), none, none, none, some (vi x3), some (vi (bi x9))]) (And.intro rfl (And.intro rfl (And.intro rfl (And.intro rfl (And.intro rfl (And.intro rfl (And.intro rfl (And.intro rfl trivial)))))))) k
          · have k := kb q
            refine z_aload_n 0 dX12_mixes_97 rfl rfl (Nat.le_of_ble_eq_true rfl) rfl ?_
            refine z_iload dX12_mixes_98 rfl rfl ?_
            refine z_putI 12 gX12_470 dX12_mixes_100 rfl ?_
            exact z_sub (L' := [some (vr 12 466), some (vi l1), some (vi l2), some (vi l3), some (vi l4), some (vi l5), none, none, none, some (vi x3), some (vi (bi x9))]) (And.intro rfl (And.intro rfl (And.intro rfl (And.intro rfl (And.intro rfl (And.intro rfl (And.intro rfl (And.intro rfl trivial)))))))) k
    · have k := kb q
      refine z_iload dX12_mixes_49 rfl rfl ?_
      refine z_goto (tgt := 56) dX12_mixes_51 rfl ?_
      refine z_istore dX12_mixes_56 (Nat.le_of_ble_eq_true rfl) (L' := [some (vr 12 466), some (vi l1), some (vi l2), some (vi l3), some (vi l4), some (vi l5), some (vi l6), some (vi x1), some (vi x3), some (vi x1), none]) rfl rfl ?_
      refine z_iload_n 3 dX12_mixes_58 rfl rfl rfl ?_
      refine z_aload_n 0 dX12_mixes_59 rfl rfl (Nat.le_of_ble_eq_true rfl) rfl ?_
      refine z_iload_n 1 dX12_mixes_60 rfl rfl rfl ?_
      refine z_iload dX12_mixes_61 rfl rfl ?_
      refine z_callVb vX12_setHas kX12_453 dX12_mixes_63 rfl (zRo_d d) (as := [vi l1, vi l5]) (rest := [vi l3]) (Nat.le_of_ble_eq_true rfl) rfl rfl (zCb_mono (fun x11 h12 k => ?_) k)
      refine z_aload_n 0 dX12_mixes_66 rfl rfl (Nat.le_of_ble_eq_true rfl) rfl ?_
      refine z_iload_n 2 dX12_mixes_67 rfl rfl rfl ?_
      refine z_iload dX12_mixes_68 rfl rfl ?_
      refine z_callVb vX12_setHas kX12_453 dX12_mixes_70 rfl (zRo_d d) (as := [vi l2, vi l5]) (rest := [vi (bi x11), vi l3]) (Nat.le_of_ble_eq_true rfl) rfl rfl (zCb_mono (fun x13 h14 k => ?_) k)
      refine z_callSb sX12_holds kX12_466 dX12_mixes_73 rfl (zRo_d d) (as := [vi l3, vi (bi x11), vi (bi x13)]) (rest := []) (Nat.le_of_ble_eq_true rfl) rfl rfl (zCb_mono (fun x15 h16 k => ?_) k)
      refine z_istore dX12_mixes_76 (Nat.le_of_ble_eq_true rfl) (L' := [some (vr 12 466), some (vi l1), some (vi l2), some (vi l3), some (vi l4), some (vi l5), some (vi l6), some (vi x1), some (vi x3), some (vi x1), some (vi (bi x15))]) rfl rfl ?_
      refine z_iload dX12_mixes_78 rfl rfl ?_
      obtain ⟨ka, kb⟩ := k
      refine z_ifb_eq (tgt := 113) dX12_mixes_80 rfl rfl ⟨fun q => ?_, fun q => ?_⟩
      · have k := ka q
        exact z_sub (L' := [some (vr 12 466), some (vi l1), some (vi l2), some (vi l3), some (vi l4), some (vi l5), none, none, none, some (vi x1), some (vi (bi x15))]) (And.intro rfl (And.intro rfl (And.intro rfl (And.intro rfl (And.intro rfl (And.intro rfl (And.intro rfl (And.intro rfl trivial)))))))) k
      · have k := kb q
        refine z_iload dX12_mixes_83 rfl rfl ?_
        obtain ⟨r1, ka, kb⟩ := k
        refine z_if_ne (tgt := 113) dX12_mixes_85 rfl r1 rfl ⟨fun q => ?_, fun q => ?_⟩
        · have k := ka q
          exact z_sub (L' := [some (vr 12 466), some (vi l1), some (vi l2), some (vi l3), some (vi l4), some (vi l5), none, none, none, some (vi x1), some (vi (bi x15))]) (And.intro rfl (And.intro rfl (And.intro rfl (And.intro rfl (And.intro rfl (And.intro rfl (And.intro rfl (And.intro rfl trivial)))))))) k
        · have k := kb q
          refine z_aload_n 0 dX12_mixes_88 rfl rfl (Nat.le_of_ble_eq_true rfl) rfl ?_
          refine z_getI 12 (x := (h16 466 36)) fX12_457 rfl dX12_mixes_89 rfl rfl ?_
          refine z_iload dX12_mixes_92 rfl rfl ?_
          obtain ⟨r1, r2, ka, kb⟩ := k
          refine z_icmp_ne (tgt := 103) dX12_mixes_94 rfl r1 r2 rfl ⟨fun q => ?_, fun q => ?_⟩
          · have k := ka q
            exact z_sub (L' := [some (vr 12 466), some (vi l1), some (vi l2), some (vi l3), some (vi l4), some (vi l5), none, none, none, some (vi x1), some (vi (bi x15))]) (And.intro rfl (And.intro rfl (And.intro rfl (And.intro rfl (And.intro rfl (And.intro rfl (And.intro rfl (And.intro rfl trivial)))))))) k
          · have k := kb q
            refine z_aload_n 0 dX12_mixes_97 rfl rfl (Nat.le_of_ble_eq_true rfl) rfl ?_
            refine z_iload dX12_mixes_98 rfl rfl ?_
            refine z_putI 12 gX12_470 dX12_mixes_100 rfl ?_
            exact z_sub (L' := [some (vr 12 466), some (vi l1), some (vi l2), some (vi l3), some (vi l4), some (vi l5), none, none, none, some (vi x1), some (vi (bi x15))]) (And.intro rfl (And.intro rfl (And.intro rfl (And.intro rfl (And.intro rfl (And.intro rfl (And.intro rfl (And.intro rfl trivial)))))))) k
theorem bX12_mixes_103 {G : zG} {d : Nat} {K : zH → Prop} {l1 : Int} {l2 : Int} {l3 : Int} {l4 : Int} {l5 : Int} {l9 : Int} {l10 : Int} {h : zH} (k : tX12_mixes_113 G d K l1 l2 l3 l4 l5 l9 l10 (zup h 466 36 ((h 466 36) + 1))) : tX12_mixes_103 G d K l1 l2 l3 l4 l5 l9 l10 h := by
  unfold tX12_mixes_103
  refine z_aload_n 0 dX12_mixes_103 rfl rfl (Nat.le_of_ble_eq_true rfl) rfl ?_
  refine z_dup dX12_mixes_104 (fun q => by cases q) rfl ?_
  refine z_getI 12 (x := (h 466 36)) fX12_457 rfl dX12_mixes_105 rfl rfl ?_
  refine z_iconst dX12_mixes_108 rfl ?_
  refine z_iadd dX12_mixes_109 rfl ?_
  refine z_putI 12 gX12_457 dX12_mixes_110 rfl ?_
  exact z_sub (L' := [some (vr 12 466), some (vi l1), some (vi l2), some (vi l3), some (vi l4), some (vi l5), none, none, none, some (vi l9), some (vi l10)]) (And.intro rfl (And.intro rfl (And.intro rfl (And.intro rfl (And.intro rfl (And.intro rfl (And.intro rfl (And.intro rfl trivial)))))))) k
theorem bX12_mixes_113 {G : zG} {d : Nat} {K : zH → Prop} {l1 : Int} {l2 : Int} {l3 : Int} {l4 : Int} {l5 : Int} {l9 : Int} {l10 : Int} {h : zH} (k : zR l10 ∧ (l10 = 0 → tX12_mixes_132 G d K l1 l2 l3 l4 l9 l10 h) ∧ (¬ l10 = 0 → tX12_mixes_132 G d K l1 l2 l3 l4 l9 l10 (zup h 466 37 ((h 466 37) + (l9 - l5))))) : tX12_mixes_113 G d K l1 l2 l3 l4 l5 l9 l10 h := by
  unfold tX12_mixes_113
  refine z_iload dX12_mixes_113 rfl rfl ?_
  obtain ⟨r1, ka, kb⟩ := k
  refine z_if_eq (tgt := 132) dX12_mixes_115 rfl r1 rfl ⟨fun q => ?_, fun q => ?_⟩
  · have k := ka q
    exact z_sub (L' := [some (vr 12 466), some (vi l1), some (vi l2), some (vi l3), some (vi l4), none, none, none, none, some (vi l9), some (vi l10)]) (And.intro rfl (And.intro rfl (And.intro rfl (And.intro rfl (And.intro rfl (And.intro rfl (And.intro rfl trivial))))))) k
  · have k := kb q
    refine z_aload_n 0 dX12_mixes_118 rfl rfl (Nat.le_of_ble_eq_true rfl) rfl ?_
    refine z_dup dX12_mixes_119 (fun q => by cases q) rfl ?_
    refine z_getI 12 (x := (h 466 37)) fX12_460 rfl dX12_mixes_120 rfl rfl ?_
    refine z_iload dX12_mixes_123 rfl rfl ?_
    refine z_iload dX12_mixes_125 rfl rfl ?_
    refine z_isub dX12_mixes_127 rfl ?_
    refine z_iadd dX12_mixes_128 rfl ?_
    refine z_putI 12 gX12_460 dX12_mixes_129 rfl ?_
    exact z_sub (L' := [some (vr 12 466), some (vi l1), some (vi l2), some (vi l3), some (vi l4), none, none, none, none, some (vi l9), some (vi l10)]) (And.intro rfl (And.intro rfl (And.intro rfl (And.intro rfl (And.intro rfl (And.intro rfl (And.intro rfl trivial))))))) k
theorem bX12_mixes_132 {G : zG} {d : Nat} {K : zH → Prop} {l1 : Int} {l2 : Int} {l3 : Int} {l4 : Int} {l9 : Int} {l10 : Int} {h : zH} (k : zR l10 ∧ (l10 = 0 → tX12_mixes_156 G d K l1 l2 l3 l4 l9 l10 h) ∧ (¬ l10 = 0 → zR (h 466 36) ∧ zR (l4 + 1) ∧ (¬ (h 466 36) = (l4 + 1) → tX12_mixes_156 G d K l1 l2 l3 l4 l9 l10 h) ∧ ((h 466 36) = (l4 + 1) → tX12_mixes_156 G d K l1 l2 l3 l4 l9 l10 (zup h 466 39 (l9 - 1))))) : tX12_mixes_132 G d K l1 l2 l3 l4 l9 l10 h := by
  unfold tX12_mixes_132
  refine z_iload dX12_mixes_132 rfl rfl ?_
  obtain ⟨r1, ka, kb⟩ := k
  refine z_if_eq (tgt := 156) dX12_mixes_134 rfl r1 rfl ⟨fun q => ?_, fun q => ?_⟩
  · have k := ka q
    exact z_sub (L' := [some (vr 12 466), some (vi l1), some (vi l2), some (vi l3), some (vi l4), none, none, none, none, some (vi l9), some (vi l10)]) (And.intro rfl (And.intro rfl (And.intro rfl (And.intro rfl (And.intro rfl (And.intro rfl (And.intro rfl trivial))))))) k
  · have k := kb q
    refine z_aload_n 0 dX12_mixes_137 rfl rfl (Nat.le_of_ble_eq_true rfl) rfl ?_
    refine z_getI 12 (x := (h 466 36)) fX12_457 rfl dX12_mixes_138 rfl rfl ?_
    refine z_iload dX12_mixes_141 rfl rfl ?_
    refine z_iconst dX12_mixes_143 rfl ?_
    refine z_iadd dX12_mixes_144 rfl ?_
    obtain ⟨r1, r2, ka, kb⟩ := k
    refine z_icmp_ne (tgt := 156) dX12_mixes_145 rfl r1 r2 rfl ⟨fun q => ?_, fun q => ?_⟩
    · have k := ka q
      exact z_sub (L' := [some (vr 12 466), some (vi l1), some (vi l2), some (vi l3), some (vi l4), none, none, none, none, some (vi l9), some (vi l10)]) (And.intro rfl (And.intro rfl (And.intro rfl (And.intro rfl (And.intro rfl (And.intro rfl (And.intro rfl trivial))))))) k
    · have k := kb q
      refine z_aload_n 0 dX12_mixes_148 rfl rfl (Nat.le_of_ble_eq_true rfl) rfl ?_
      refine z_iload dX12_mixes_149 rfl rfl ?_
      refine z_iconst dX12_mixes_151 rfl ?_
      refine z_isub dX12_mixes_152 rfl ?_
      refine z_putI 12 gX12_473 dX12_mixes_153 rfl ?_
      exact z_sub (L' := [some (vr 12 466), some (vi l1), some (vi l2), some (vi l3), some (vi l4), none, none, none, none, some (vi l9), some (vi l10)]) (And.intro rfl (And.intro rfl (And.intro rfl (And.intro rfl (And.intro rfl (And.intro rfl (And.intro rfl trivial))))))) k
theorem bX12_mixes_156 {G : zG} {d : Nat} {K : zH → Prop} {l1 : Int} {l2 : Int} {l3 : Int} {l4 : Int} {l9 : Int} {l10 : Int} {h : zH} (k : tX12_mixes_16 G d K l1 l2 l3 l4 l9 l10 h) : tX12_mixes_156 G d K l1 l2 l3 l4 l9 l10 h := by
  unfold tX12_mixes_156
  refine z_iload dX12_mixes_156 rfl rfl ?_
  refine z_istore dX12_mixes_158 (Nat.le_of_ble_eq_true rfl) (L' := [some (vr 12 466), some (vi l1), some (vi l2), some (vi l3), some (vi l4), none, some (vi l10), none, none, some (vi l9), some (vi l10)]) rfl rfl ?_
  refine z_iload dX12_mixes_160 rfl rfl ?_
  refine z_istore dX12_mixes_162 (Nat.le_of_ble_eq_true rfl) (L' := [some (vr 12 466), some (vi l1), some (vi l2), some (vi l3), some (vi l4), some (vi l9), some (vi l10), none, none, some (vi l9), some (vi l10)]) rfl rfl ?_
  refine z_goto (tgt := 16) dX12_mixes_164 rfl ?_
  exact z_sub (L' := [some (vr 12 466), some (vi l1), some (vi l2), some (vi l3), some (vi l4), some (vi l9), some (vi l10), none, none, none, none]) (And.intro rfl (And.intro rfl (And.intro rfl (And.intro rfl (And.intro rfl (And.intro rfl (And.intro rfl trivial))))))) k
theorem eX12_mixes {G : zG} {d : Nat} {K : zH → Prop} {l1 : Int} {l2 : Int} {l3 : Int} {l4 : Int} {h : zH} (k : tX12_mixes_0 G d K l1 l2 l3 l4 h) : zCv G (d + 1) mX12_mixes [vr 12 466, vi l1, vi l2, vi l3, vi l4] h K := z_entry (by decide +kernel) (Nat.le_of_ble_eq_true rfl) rfl k
def tX12_refusesMix_0 (G : zG) (d : Nat) (K : Int → zH → Prop) (l1 : Int) (l2 : Int) (l3 : Int) (h : zH) : Prop := zTi G (d + 1) mX12_refusesMix K 0 [some (vr 12 466), some (vi l1), some (vi l2), some (vi l3)] [] h
theorem bX12_refusesMix_0 {G : zG} {d : Nat} {K : Int → zH → Prop} {l1 : Int} {l2 : Int} {l3 : Int} {h : zH} (k : zCb G d mX12_isSet [vr 12 466, vi l1] h (fun x1 h2 => (x1 = false → K 1 h2) ∧ (x1 = true → zCb G d mX12_isSet [vr 12 466, vi l2] h2 (fun x3 h4 => (x3 = true → zCb G d mX12_in [vi l3, vi 0, vi 15] h4 (fun x5 h6 => (x5 = false → K 2 h6) ∧ (x5 = true → K 0 h6))) ∧ (x3 = false → K 1 h4))))) : tX12_refusesMix_0 G d K l1 l2 l3 h := by
  unfold tX12_refusesMix_0
  refine z_aload_n 0 dX12_refusesMix_0 rfl rfl (Nat.le_of_ble_eq_true rfl) rfl ?_
  refine z_iload_n 1 dX12_refusesMix_1 rfl rfl rfl ?_
  refine z_callVb vX12_isSet kX12_447 dX12_refusesMix_2 rfl (zRo_d d) (as := [vi l1]) (rest := []) (Nat.le_of_ble_eq_true rfl) rfl rfl (zCb_mono (fun x1 h2 k => ?_) k)
  obtain ⟨ka, kb⟩ := k
  refine z_ifb_eq (tgt := 16) dX12_refusesMix_5 rfl rfl ⟨fun q => ?_, fun q => ?_⟩
  · have k := ka q
    refine z_iconst dX12_refusesMix_16 rfl ?_
    exact z_ireturn rfl dX12_refusesMix_17 ⟨_, rfl, k⟩
  · have k := kb q
    refine z_aload_n 0 dX12_refusesMix_8 rfl rfl (Nat.le_of_ble_eq_true rfl) rfl ?_
    refine z_iload_n 2 dX12_refusesMix_9 rfl rfl rfl ?_
    refine z_callVb vX12_isSet kX12_447 dX12_refusesMix_10 rfl (zRo_d d) (as := [vi l2]) (rest := []) (Nat.le_of_ble_eq_true rfl) rfl rfl (zCb_mono (fun x3 h4 k => ?_) k)
    obtain ⟨ka, kb⟩ := k
    refine z_ifb_ne (tgt := 18) dX12_refusesMix_13 rfl rfl ⟨fun q => ?_, fun q => ?_⟩
    · have k := ka q
      refine z_iload_n 3 dX12_refusesMix_18 rfl rfl rfl ?_
      refine z_iconst dX12_refusesMix_19 rfl ?_
      refine z_bipush dX12_refusesMix_20 rfl rfl ?_
      refine z_callSb sX12_in kX12_201 dX12_refusesMix_22 rfl (zRo_d d) (as := [vi l3, vi 0, vi 15]) (rest := []) (Nat.le_of_ble_eq_true rfl) rfl rfl (zCb_mono (fun x5 h6 k => ?_) k)
      obtain ⟨ka, kb⟩ := k
      refine z_ifb_eq (tgt := 32) dX12_refusesMix_25 rfl rfl ⟨fun q => ?_, fun q => ?_⟩
      · have k := ka q
        refine z_iconst dX12_refusesMix_32 rfl ?_
        exact z_ireturn rfl dX12_refusesMix_33 ⟨_, rfl, k⟩
      · have k := kb q
        refine z_iconst dX12_refusesMix_28 rfl ?_
        refine z_goto (tgt := 33) dX12_refusesMix_29 rfl ?_
        exact z_ireturn rfl dX12_refusesMix_33 ⟨_, rfl, k⟩
    · have k := kb q
      refine z_iconst dX12_refusesMix_16 rfl ?_
      exact z_ireturn rfl dX12_refusesMix_17 ⟨_, rfl, k⟩
theorem eX12_refusesMix {G : zG} {d : Nat} {K : Int → zH → Prop} {l1 : Int} {l2 : Int} {l3 : Int} {h : zH} (k : tX12_refusesMix_0 G d K l1 l2 l3 h) : zCi G (d + 1) mX12_refusesMix [vr 12 466, vi l1, vi l2, vi l3] h K := z_entry (by decide +kernel) (Nat.le_of_ble_eq_true rfl) rfl k
def tX12_mixed_0 (G : zG) (d : Nat) (K : Int → zH → Prop) (l1 : Int) (l2 : Int) (l3 : Int) (h : zH) : Prop := zTi G (d + 1) mX12_mixed K 0 [some (vr 12 466), some (vi l1), some (vi l2), some (vi l3), none] [] h
theorem bX12_mixed_0 {G : zG} {d : Nat} {K : Int → zH → Prop} {l1 : Int} {l2 : Int} {l3 : Int} {h : zH} (k : zCi G d mX12_refusesMix [vr 12 466, vi l1, vi l2, vi l3] (zup h 466 0 0) (fun x1 h2 => zR x1 ∧ (x1 ≤ 0 → zCv G d mX12_mixes [vr 12 466, vi l1, vi l2, vi l3, vi 0] h2 (fun h4 => zCi G d mX12_good [vr 12 466, vi (h4 466 37)] h4 (fun x5 h6 => K x5 h6))) ∧ (¬ x1 ≤ 0 → zCi G d mX12_refused [vr 12 466, vi x1] h2 (fun x7 h8 => K x7 h8)))) : tX12_mixed_0 G d K l1 l2 l3 h := by
  unfold tX12_mixed_0
  refine z_aload_n 0 dX12_mixed_0 rfl rfl (Nat.le_of_ble_eq_true rfl) rfl ?_
  refine z_iconst dX12_mixed_1 rfl ?_
  refine z_putI 12 gX12_190 dX12_mixed_2 rfl ?_
  refine z_aload_n 0 dX12_mixed_5 rfl rfl (Nat.le_of_ble_eq_true rfl) rfl ?_
  refine z_iload_n 1 dX12_mixed_6 rfl rfl rfl ?_
  refine z_iload_n 2 dX12_mixed_7 rfl rfl rfl ?_
  refine z_iload_n 3 dX12_mixed_8 rfl rfl rfl ?_
  refine z_callVi vX12_refusesMix kX12_476 dX12_mixed_9 rfl (zRo_d d) (as := [vi l1, vi l2, vi l3]) (rest := []) (Nat.le_of_ble_eq_true rfl) rfl rfl (zCi_mono (fun x1 h2 k => ?_) k)
  refine z_istore dX12_mixed_12 (Nat.le_of_ble_eq_true rfl) (L' := [some (vr 12 466), some (vi l1), some (vi l2), some (vi l3), some (vi x1)]) rfl rfl ?_
  refine z_iload dX12_mixed_14 rfl rfl ?_
  obtain ⟨r1, ka, kb⟩ := k
  refine z_if_le (tgt := 26) dX12_mixed_16 rfl r1 rfl ⟨fun q => ?_, fun q => ?_⟩
  · have k := ka q
    refine z_aload_n 0 dX12_mixed_26 rfl rfl (Nat.le_of_ble_eq_true rfl) rfl ?_
    refine z_iload_n 1 dX12_mixed_27 rfl rfl rfl ?_
    refine z_iload_n 2 dX12_mixed_28 rfl rfl rfl ?_
    refine z_iload_n 3 dX12_mixed_29 rfl rfl rfl ?_
    refine z_iconst dX12_mixed_30 rfl ?_
    refine z_callVv vX12_mixes kX12_480 dX12_mixed_31 rfl (zRo_d d) (as := [vi l1, vi l2, vi l3, vi 0]) (rest := []) (Nat.le_of_ble_eq_true rfl) rfl rfl (zCv_mono (fun h4 k => ?_) k)
    refine z_aload_n 0 dX12_mixed_34 rfl rfl (Nat.le_of_ble_eq_true rfl) rfl ?_
    refine z_aload_n 0 dX12_mixed_35 rfl rfl (Nat.le_of_ble_eq_true rfl) rfl ?_
    refine z_getI 12 (x := (h4 466 37)) fX12_460 rfl dX12_mixed_36 rfl rfl ?_
    refine z_callVi vX12_good kX12_196 dX12_mixed_39 rfl (zRo_d d) (as := [vi (h4 466 37)]) (rest := []) (Nat.le_of_ble_eq_true rfl) rfl rfl (zCi_mono (fun x5 h6 k => ?_) k)
    exact z_ireturn rfl dX12_mixed_42 ⟨_, rfl, k⟩
  · have k := kb q
    refine z_aload_n 0 dX12_mixed_19 rfl rfl (Nat.le_of_ble_eq_true rfl) rfl ?_
    refine z_iload dX12_mixed_20 rfl rfl ?_
    refine z_callVi vX12_refused kX12_426 dX12_mixed_22 rfl (zRo_d d) (as := [vi x1]) (rest := []) (Nat.le_of_ble_eq_true rfl) rfl rfl (zCi_mono (fun x7 h8 k => ?_) k)
    exact z_ireturn rfl dX12_mixed_25 ⟨_, rfl, k⟩
theorem eX12_mixed {G : zG} {d : Nat} {K : Int → zH → Prop} {l1 : Int} {l2 : Int} {l3 : Int} {h : zH} (k : tX12_mixed_0 G d K l1 l2 l3 h) : zCi G (d + 1) mX12_mixed [vr 12 466, vi l1, vi l2, vi l3] h K := z_entry (by decide +kernel) (Nat.le_of_ble_eq_true rfl) rfl k
def tX12_mixedRanges_0 (G : zG) (d : Nat) (K : Int → zH → Prop) (l1 : Int) (l2 : Int) (l3 : Int) (h : zH) : Prop := zTi G (d + 1) mX12_mixedRanges K 0 [some (vr 12 466), some (vi l1), some (vi l2), some (vi l3), none] [] h
theorem bX12_mixedRanges_0 {G : zG} {d : Nat} {K : Int → zH → Prop} {l1 : Int} {l2 : Int} {l3 : Int} {h : zH} (k : zCi G d mX12_refusesMix [vr 12 466, vi l1, vi l2, vi l3] (zup h 466 0 0) (fun x1 h2 => zR x1 ∧ (x1 ≤ 0 → zCv G d mX12_mixes [vr 12 466, vi l1, vi l2, vi l3, vi 0] h2 (fun h4 => zCi G d mX12_good [vr 12 466, vi (h4 466 36)] h4 (fun x5 h6 => K x5 h6))) ∧ (¬ x1 ≤ 0 → zCi G d mX12_refused [vr 12 466, vi x1] h2 (fun x7 h8 => K x7 h8)))) : tX12_mixedRanges_0 G d K l1 l2 l3 h := by
  unfold tX12_mixedRanges_0
  refine z_aload_n 0 dX12_mixedRanges_0 rfl rfl (Nat.le_of_ble_eq_true rfl) rfl ?_
  refine z_iconst dX12_mixedRanges_1 rfl ?_
  refine z_putI 12 gX12_190 dX12_mixedRanges_2 rfl ?_
  refine z_aload_n 0 dX12_mixedRanges_5 rfl rfl (Nat.le_of_ble_eq_true rfl) rfl ?_
  refine z_iload_n 1 dX12_mixedRanges_6 rfl rfl rfl ?_
  refine z_iload_n 2 dX12_mixedRanges_7 rfl rfl rfl ?_
  refine z_iload_n 3 dX12_mixedRanges_8 rfl rfl rfl ?_
  refine z_callVi vX12_refusesMix kX12_476 dX12_mixedRanges_9 rfl (zRo_d d) (as := [vi l1, vi l2, vi l3]) (rest := []) (Nat.le_of_ble_eq_true rfl) rfl rfl (zCi_mono (fun x1 h2 k => ?_) k)
  refine z_istore dX12_mixedRanges_12 (Nat.le_of_ble_eq_true rfl) (L' := [some (vr 12 466), some (vi l1), some (vi l2), some (vi l3), some (vi x1)]) rfl rfl ?_
  refine z_iload dX12_mixedRanges_14 rfl rfl ?_
  obtain ⟨r1, ka, kb⟩ := k
  refine z_if_le (tgt := 26) dX12_mixedRanges_16 rfl r1 rfl ⟨fun q => ?_, fun q => ?_⟩
  · have k := ka q
    refine z_aload_n 0 dX12_mixedRanges_26 rfl rfl (Nat.le_of_ble_eq_true rfl) rfl ?_
    refine z_iload_n 1 dX12_mixedRanges_27 rfl rfl rfl ?_
    refine z_iload_n 2 dX12_mixedRanges_28 rfl rfl rfl ?_
    refine z_iload_n 3 dX12_mixedRanges_29 rfl rfl rfl ?_
    refine z_iconst dX12_mixedRanges_30 rfl ?_
    refine z_callVv vX12_mixes kX12_480 dX12_mixedRanges_31 rfl (zRo_d d) (as := [vi l1, vi l2, vi l3, vi 0]) (rest := []) (Nat.le_of_ble_eq_true rfl) rfl rfl (zCv_mono (fun h4 k => ?_) k)
    refine z_aload_n 0 dX12_mixedRanges_34 rfl rfl (Nat.le_of_ble_eq_true rfl) rfl ?_
    refine z_aload_n 0 dX12_mixedRanges_35 rfl rfl (Nat.le_of_ble_eq_true rfl) rfl ?_
    refine z_getI 12 (x := (h4 466 36)) fX12_457 rfl dX12_mixedRanges_36 rfl rfl ?_
    refine z_callVi vX12_good kX12_196 dX12_mixedRanges_39 rfl (zRo_d d) (as := [vi (h4 466 36)]) (rest := []) (Nat.le_of_ble_eq_true rfl) rfl rfl (zCi_mono (fun x5 h6 k => ?_) k)
    exact z_ireturn rfl dX12_mixedRanges_42 ⟨_, rfl, k⟩
  · have k := kb q
    refine z_aload_n 0 dX12_mixedRanges_19 rfl rfl (Nat.le_of_ble_eq_true rfl) rfl ?_
    refine z_iload dX12_mixedRanges_20 rfl rfl ?_
    refine z_callVi vX12_refused kX12_426 dX12_mixedRanges_22 rfl (zRo_d d) (as := [vi x1]) (rest := []) (Nat.le_of_ble_eq_true rfl) rfl rfl (zCi_mono (fun x7 h8 k => ?_) k)
    exact z_ireturn rfl dX12_mixedRanges_25 ⟨_, rfl, k⟩
theorem eX12_mixedRanges {G : zG} {d : Nat} {K : Int → zH → Prop} {l1 : Int} {l2 : Int} {l3 : Int} {h : zH} (k : tX12_mixedRanges_0 G d K l1 l2 l3 h) : zCi G (d + 1) mX12_mixedRanges [vr 12 466, vi l1, vi l2, vi l3] h K := z_entry (by decide +kernel) (Nat.le_of_ble_eq_true rfl) rfl k
def tX12_mixedRange_0 (G : zG) (d : Nat) (K : Int → zH → Prop) (l1 : Int) (l2 : Int) (l3 : Int) (l4 : Int) (l5 : Bool) (h : zH) : Prop := zTi G (d + 1) mX12_mixedRange K 0 [some (vr 12 466), some (vi l1), some (vi l2), some (vi l3), some (vi l4), some (vi (bi l5)), none] [] h
theorem bX12_mixedRange_0 {G : zG} {d : Nat} {K : Int → zH → Prop} {l1 : Int} {l2 : Int} {l3 : Int} {l4 : Int} {l5 : Bool} {h : zH} (k : zCi G d mX12_refusesMix [vr 12 466, vi l1, vi l2, vi l3] (zup h 466 0 0) (fun x1 h2 => zR x1 ∧ (x1 ≤ 0 → zR l4 ∧ (l4 < 0 → zCi G d mX12_refused [vr 12 466, vi 1] h2 (fun x3 h4 => K x3 h4)) ∧ (¬ l4 < 0 → zR l4 ∧ (l4 < 65536 → zCv G d mX12_mixes [vr 12 466, vi l1, vi l2, vi l3, vi l4] h2 (fun h6 => zR l4 ∧ zR (h6 466 36) ∧ (l4 < (h6 466 36) → (l5 = false → zCi G d mX12_good [vr 12 466, vi (h6 466 38)] h6 (fun x7 h8 => K x7 h8)) ∧ (l5 = true → zCi G d mX12_good [vr 12 466, vi (h6 466 39)] h6 (fun x9 h10 => K x9 h10))) ∧ (¬ l4 < (h6 466 36) → zCi G d mX12_refused [vr 12 466, vi 1] h6 (fun x11 h12 => K x11 h12)))) ∧ (¬ l4 < 65536 → zCi G d mX12_refused [vr 12 466, vi 1] h2 (fun x13 h14 => K x13 h14)))) ∧ (¬ x1 ≤ 0 → zCi G d mX12_refused [vr 12 466, vi x1] h2 (fun x15 h16 => K x15 h16)))) : tX12_mixedRange_0 G d K l1 l2 l3 l4 l5 h := by
  unfold tX12_mixedRange_0
  refine z_aload_n 0 dX12_mixedRange_0 rfl rfl (Nat.le_of_ble_eq_true rfl) rfl ?_
  refine z_iconst dX12_mixedRange_1 rfl ?_
  refine z_putI 12 gX12_190 dX12_mixedRange_2 rfl ?_
  refine z_aload_n 0 dX12_mixedRange_5 rfl rfl (Nat.le_of_ble_eq_true rfl) rfl ?_
  refine z_iload_n 1 dX12_mixedRange_6 rfl rfl rfl ?_
  refine z_iload_n 2 dX12_mixedRange_7 rfl rfl rfl ?_
  refine z_iload_n 3 dX12_mixedRange_8 rfl rfl rfl ?_
  refine z_callVi vX12_refusesMix kX12_476 dX12_mixedRange_9 rfl (zRo_d d) (as := [vi l1, vi l2, vi l3]) (rest := []) (Nat.le_of_ble_eq_true rfl) rfl rfl (zCi_mono (fun x1 h2 k => ?_) k)
  refine z_istore dX12_mixedRange_12 (Nat.le_of_ble_eq_true rfl) (L' := [some (vr 12 466), some (vi l1), some (vi l2), some (vi l3), some (vi l4), some (vi (bi l5)), some (vi x1)]) rfl rfl ?_
  refine z_iload dX12_mixedRange_14 rfl rfl ?_
  obtain ⟨r1, ka, kb⟩ := k
  refine z_if_le (tgt := 26) dX12_mixedRange_16 rfl r1 rfl ⟨fun q => ?_, fun q => ?_⟩
  · have k := ka q
    refine z_iload dX12_mixedRange_26 rfl rfl ?_
    obtain ⟨r1, ka, kb⟩ := k
    refine z_if_lt (tgt := 39) dX12_mixedRange_28 rfl r1 rfl ⟨fun q => ?_, fun q => ?_⟩
    · have k := ka q
      refine z_aload_n 0 dX12_mixedRange_39 rfl rfl (Nat.le_of_ble_eq_true rfl) rfl ?_
      refine z_iconst dX12_mixedRange_40 rfl ?_
      refine z_callVi vX12_refused kX12_426 dX12_mixedRange_41 rfl (zRo_d d) (as := [vi 1]) (rest := []) (Nat.le_of_ble_eq_true rfl) rfl rfl (zCi_mono (fun x3 h4 k => ?_) k)
      exact z_ireturn rfl dX12_mixedRange_44 ⟨_, rfl, k⟩
    · have k := kb q
      refine z_iload dX12_mixedRange_31 rfl rfl ?_
      refine z_ldcw (x := 65536) cX12_373 rfl dX12_mixedRange_33 rfl ?_
      obtain ⟨r1, ka, kb⟩ := k
      refine z_icmp_lt (tgt := 45) dX12_mixedRange_36 rfl r1 ⟨by decide, by decide⟩ rfl ⟨fun q => ?_, fun q => ?_⟩
      · have k := ka q
        refine z_aload_n 0 dX12_mixedRange_45 rfl rfl (Nat.le_of_ble_eq_true rfl) rfl ?_
        refine z_iload_n 1 dX12_mixedRange_46 rfl rfl rfl ?_
        refine z_iload_n 2 dX12_mixedRange_47 rfl rfl rfl ?_
        refine z_iload_n 3 dX12_mixedRange_48 rfl rfl rfl ?_
        refine z_iload dX12_mixedRange_49 rfl rfl ?_
        refine z_callVv vX12_mixes kX12_480 dX12_mixedRange_51 rfl (zRo_d d) (as := [vi l1, vi l2, vi l3, vi l4]) (rest := []) (Nat.le_of_ble_eq_true rfl) rfl rfl (zCv_mono (fun h6 k => ?_) k)
        refine z_iload dX12_mixedRange_54 rfl rfl ?_
        refine z_aload_n 0 dX12_mixedRange_56 rfl rfl (Nat.le_of_ble_eq_true rfl) rfl ?_
        refine z_getI 12 (x := (h6 466 36)) fX12_457 rfl dX12_mixedRange_57 rfl rfl ?_
        obtain ⟨r1, r2, ka, kb⟩ := k
        refine z_icmp_lt (tgt := 69) dX12_mixedRange_60 rfl r1 r2 rfl ⟨fun q => ?_, fun q => ?_⟩
        · have k := ka q
          refine z_aload_n 0 dX12_mixedRange_69 rfl rfl (Nat.le_of_ble_eq_true rfl) rfl ?_
          refine z_iload dX12_mixedRange_70 rfl rfl ?_
          obtain ⟨ka, kb⟩ := k
          refine z_ifb_eq (tgt := 82) dX12_mixedRange_72 rfl rfl ⟨fun q => ?_, fun q => ?_⟩
          · have k := ka q
            refine z_aload_n 0 dX12_mixedRange_82 rfl rfl (Nat.le_of_ble_eq_true rfl) rfl ?_
            refine z_getI 12 (x := (h6 466 38)) fX12_470 rfl dX12_mixedRange_83 rfl rfl ?_
            refine z_callVi vX12_good kX12_196 dX12_mixedRange_86 rfl (zRo_d d) (as := [vi (h6 466 38)]) (rest := []) (Nat.le_of_ble_eq_true rfl) rfl rfl (zCi_mono (fun x7 h8 k => ?_) k)
            exact z_ireturn rfl dX12_mixedRange_89 ⟨_, rfl, k⟩
          · have k := kb q
            refine z_aload_n 0 dX12_mixedRange_75 rfl rfl (Nat.le_of_ble_eq_true rfl) rfl ?_
            refine z_getI 12 (x := (h6 466 39)) fX12_473 rfl dX12_mixedRange_76 rfl rfl ?_
            refine z_goto (tgt := 86) dX12_mixedRange_79 rfl ?_
            refine z_callVi vX12_good kX12_196 dX12_mixedRange_86 rfl (zRo_d d) (as := [vi (h6 466 39)]) (rest := []) (Nat.le_of_ble_eq_true rfl) rfl rfl (zCi_mono (fun x9 h10 k => ?_) k)
            exact z_ireturn rfl dX12_mixedRange_89 ⟨_, rfl, k⟩
        · have k := kb q
          refine z_aload_n 0 dX12_mixedRange_63 rfl rfl (Nat.le_of_ble_eq_true rfl) rfl ?_
          refine z_iconst dX12_mixedRange_64 rfl ?_
          refine z_callVi vX12_refused kX12_426 dX12_mixedRange_65 rfl (zRo_d d) (as := [vi 1]) (rest := []) (Nat.le_of_ble_eq_true rfl) rfl rfl (zCi_mono (fun x11 h12 k => ?_) k)
          exact z_ireturn rfl dX12_mixedRange_68 ⟨_, rfl, k⟩
      · have k := kb q
        refine z_aload_n 0 dX12_mixedRange_39 rfl rfl (Nat.le_of_ble_eq_true rfl) rfl ?_
        refine z_iconst dX12_mixedRange_40 rfl ?_
        refine z_callVi vX12_refused kX12_426 dX12_mixedRange_41 rfl (zRo_d d) (as := [vi 1]) (rest := []) (Nat.le_of_ble_eq_true rfl) rfl rfl (zCi_mono (fun x13 h14 k => ?_) k)
        exact z_ireturn rfl dX12_mixedRange_44 ⟨_, rfl, k⟩
  · have k := kb q
    refine z_aload_n 0 dX12_mixedRange_19 rfl rfl (Nat.le_of_ble_eq_true rfl) rfl ?_
    refine z_iload dX12_mixedRange_20 rfl rfl ?_
    refine z_callVi vX12_refused kX12_426 dX12_mixedRange_22 rfl (zRo_d d) (as := [vi x1]) (rest := []) (Nat.le_of_ble_eq_true rfl) rfl rfl (zCi_mono (fun x15 h16 k => ?_) k)
    exact z_ireturn rfl dX12_mixedRange_25 ⟨_, rfl, k⟩
theorem eX12_mixedRange {G : zG} {d : Nat} {K : Int → zH → Prop} {l1 : Int} {l2 : Int} {l3 : Int} {l4 : Int} {l5 : Bool} {h : zH} (k : tX12_mixedRange_0 G d K l1 l2 l3 l4 l5 h) : zCi G (d + 1) mX12_mixedRange [vr 12 466, vi l1, vi l2, vi l3, vi l4, vi (bi l5)] h K := z_entry (by decide +kernel) (Nat.le_of_ble_eq_true rfl) rfl k
def tX12_builds_0 (G : zG) (d : Nat) (K : zH → Prop) (l1 : Int) (h : zH) : Prop := zTv G d mX12_builds K 0 [some (vr 12 466), some (vi l1)] [] h
theorem bX12_builds_0 {G : zG} {d : Nat} {K : zH → Prop} {l1 : Int} {h : zH} (k : zR l1 ∧ (l1 ≤ 40 → K (zup (zup (zup (zup (zup (zup h 466 47 l1) 466 48 0) 466 49 0) 466 50 0) 488 0 0) 466 51 0)) ∧ (¬ l1 ≤ 40 → K (zup (zup (zup (zup (zup (zup h 466 47 l1) 466 48 0) 466 49 0) 466 50 0) 488 0 0) 466 51 1))) : tX12_builds_0 G d K l1 h := by
  unfold tX12_builds_0
  refine z_aload_n 0 dX12_builds_0 rfl rfl (Nat.le_of_ble_eq_true rfl) rfl ?_
  refine z_iload_n 1 dX12_builds_1 rfl rfl rfl ?_
  refine z_putI 12 gX12_484 dX12_builds_2 rfl ?_
  refine z_aload_n 0 dX12_builds_5 rfl rfl (Nat.le_of_ble_eq_true rfl) rfl ?_
  refine z_iconst dX12_builds_6 rfl ?_
  refine z_putI 12 gX12_487 dX12_builds_7 rfl ?_
  refine z_aload_n 0 dX12_builds_10 rfl rfl (Nat.le_of_ble_eq_true rfl) rfl ?_
  refine z_iconst dX12_builds_11 rfl ?_
  refine z_putI 12 gX12_490 dX12_builds_12 rfl ?_
  refine z_aload_n 0 dX12_builds_15 rfl rfl (Nat.le_of_ble_eq_true rfl) rfl ?_
  refine z_lconst (x := 0) dX12_builds_16 rfl rfl ?_
  refine z_putL 12 gX12_493 dX12_builds_17 rfl ?_
  refine z_aload_n 0 dX12_builds_20 rfl rfl (Nat.le_of_ble_eq_true rfl) rfl ?_
  refine z_getF 12 13 (x := 488) fX12_79 rfl dX12_builds_21 rfl rfl ?_
  refine z_iconst dX12_builds_24 rfl ?_
  refine z_iconst dX12_builds_25 rfl ?_
  refine z_iast dX12_builds_26 (by rw [zl_488]; decide) rfl ?_
  refine z_aload_n 0 dX12_builds_27 rfl rfl (Nat.le_of_ble_eq_true rfl) rfl ?_
  refine z_iload_n 1 dX12_builds_28 rfl rfl rfl ?_
  refine z_bipush dX12_builds_29 rfl rfl ?_
  obtain ⟨r1, ka, kb⟩ := k
  refine z_icmp_le (tgt := 38) dX12_builds_31 rfl r1 ⟨by decide, by decide⟩ rfl ⟨fun q => ?_, fun q => ?_⟩
  · have k := ka q
    refine z_iconst dX12_builds_38 rfl ?_
    refine z_putZ 12 gX12_496 (Or.inl rfl) dX12_builds_39 rfl ?_
    exact z_return rfl dX12_builds_42 ⟨rfl, k⟩
  · have k := kb q
    refine z_iconst dX12_builds_34 rfl ?_
    refine z_goto (tgt := 39) dX12_builds_35 rfl ?_
    refine z_putZ 12 gX12_496 (Or.inr rfl) dX12_builds_39 rfl ?_
    exact z_return rfl dX12_builds_42 ⟨rfl, k⟩
theorem eX12_builds {G : zG} {d : Nat} {K : zH → Prop} {l1 : Int} {h : zH} (k : tX12_builds_0 G d K l1 h) : zCv G d mX12_builds [vr 12 466, vi l1] h K := z_entry (by decide +kernel) (Nat.le_of_ble_eq_true rfl) rfl k
def tX12_buildsEdge_0 (G : zG) (d : Nat) (K : Bool → zH → Prop) (l1 : Int) (l2 : Int) (h : zH) : Prop := zTb G d mX12_buildsEdge K 0 [some (vr 12 466), some (vi l1), some (vi l2)] [] h
theorem bX12_buildsEdge_0 {G : zG} {d : Nat} {K : Bool → zH → Prop} {l1 : Int} {l2 : Int} {h : zH} (k : zR (h 466 48) ∧ (¬ (h 466 48) = 160 → ((0 : Int) ≤ (h 466 48) ∧ (h 466 48) < 160) ∧ ((0 : Int) ≤ (h 466 48) ∧ (h 466 48) < 160) ∧ ((0 : Int) ≤ (((h 466 48) + 1) - 1) ∧ (((h 466 48) + 1) - 1) < 161) ∧ ((0 : Int) ≤ ((h 466 48) + 1) ∧ ((h 466 48) + 1) < 161) ∧ K true (zup (zup (zup (zup h 486 (h 466 48) l1) 487 (h 466 48) l2) 466 48 ((h 466 48) + 1)) 488 ((h 466 48) + 1) (h 488 (((h 466 48) + 1) - 1)))) ∧ ((h 466 48) = 160 → K false (zup h 466 51 1))) : tX12_buildsEdge_0 G d K l1 l2 h := by
  unfold tX12_buildsEdge_0
  refine z_aload_n 0 dX12_buildsEdge_0 rfl rfl (Nat.le_of_ble_eq_true rfl) rfl ?_
  refine z_getI 12 (x := (h 466 48)) fX12_487 rfl dX12_buildsEdge_1 rfl rfl ?_
  refine z_sipush dX12_buildsEdge_4 rfl rfl ?_
  obtain ⟨r1, ka, kb⟩ := k
  refine z_icmp_ne (tgt := 17) dX12_buildsEdge_7 rfl r1 ⟨by decide, by decide⟩ rfl ⟨fun q => ?_, fun q => ?_⟩
  · have k := ka q
    refine z_aload_n 0 dX12_buildsEdge_17 rfl rfl (Nat.le_of_ble_eq_true rfl) rfl ?_
    refine z_getF 12 13 (x := 486) fX12_73 rfl dX12_buildsEdge_18 rfl rfl ?_
    refine z_aload_n 0 dX12_buildsEdge_21 rfl rfl (Nat.le_of_ble_eq_true rfl) rfl ?_
    refine z_getI 12 (x := (h 466 48)) fX12_487 rfl dX12_buildsEdge_22 rfl rfl ?_
    refine z_iload_n 1 dX12_buildsEdge_25 rfl rfl rfl ?_
    obtain ⟨i9, k⟩ := k
    refine z_iast dX12_buildsEdge_26 (by rw [zl_486]; exact i9) rfl ?_
    refine z_aload_n 0 dX12_buildsEdge_27 rfl rfl (Nat.le_of_ble_eq_true rfl) rfl ?_
    refine z_getF 12 13 (x := 487) fX12_76 rfl dX12_buildsEdge_28 rfl rfl ?_
    refine z_aload_n 0 dX12_buildsEdge_31 rfl rfl (Nat.le_of_ble_eq_true rfl) rfl ?_
    refine z_getI 12 (x := (h 466 48)) fX12_487 rfl dX12_buildsEdge_32 (by simp [zup]) rfl ?_
    refine z_iload_n 2 dX12_buildsEdge_35 rfl rfl rfl ?_
    obtain ⟨i9, k⟩ := k
    refine z_iast dX12_buildsEdge_36 (by rw [zl_487]; exact i9) rfl ?_
    refine z_aload_n 0 dX12_buildsEdge_37 rfl rfl (Nat.le_of_ble_eq_true rfl) rfl ?_
    refine z_dup dX12_buildsEdge_38 (fun q => by cases q) rfl ?_
    refine z_getI 12 (x := (h 466 48)) fX12_487 rfl dX12_buildsEdge_39 (by simp [zup]) rfl ?_
    refine z_iconst dX12_buildsEdge_42 rfl ?_
    refine z_iadd dX12_buildsEdge_43 rfl ?_
    refine z_putI 12 gX12_487 dX12_buildsEdge_44 rfl ?_
    refine z_aload_n 0 dX12_buildsEdge_47 rfl rfl (Nat.le_of_ble_eq_true rfl) rfl ?_
    refine z_getF 12 13 (x := 488) fX12_79 rfl dX12_buildsEdge_48 rfl rfl ?_
    refine z_aload_n 0 dX12_buildsEdge_51 rfl rfl (Nat.le_of_ble_eq_true rfl) rfl ?_
    refine z_getI 12 (x := ((h 466 48) + 1)) fX12_487 rfl dX12_buildsEdge_52 (by simp [zup]) rfl ?_
    refine z_aload_n 0 dX12_buildsEdge_55 rfl rfl (Nat.le_of_ble_eq_true rfl) rfl ?_
    refine z_getF 12 13 (x := 488) fX12_79 rfl dX12_buildsEdge_56 rfl rfl ?_
    refine z_aload_n 0 dX12_buildsEdge_59 rfl rfl (Nat.le_of_ble_eq_true rfl) rfl ?_
    refine z_getI 12 (x := ((h 466 48) + 1)) fX12_487 rfl dX12_buildsEdge_60 (by simp [zup]) rfl ?_
    refine z_iconst dX12_buildsEdge_63 rfl ?_
    refine z_isub dX12_buildsEdge_64 rfl ?_
    obtain ⟨i9, k⟩ := k
    refine z_iald (x := (h 488 (((h 466 48) + 1) - 1))) dX12_buildsEdge_65 (by rw [zl_488]; exact i9) (by simp [zup]) rfl ?_
    obtain ⟨i9, k⟩ := k
    refine z_iast dX12_buildsEdge_66 (by rw [zl_488]; exact i9) rfl ?_
    refine z_iconst dX12_buildsEdge_67 rfl ?_
    exact z_zreturn rfl (Or.inr rfl) dX12_buildsEdge_68 ⟨true, rfl, k⟩
  · have k := kb q
    refine z_aload_n 0 dX12_buildsEdge_10 rfl rfl (Nat.le_of_ble_eq_true rfl) rfl ?_
    refine z_iconst dX12_buildsEdge_11 rfl ?_
    refine z_putZ 12 gX12_496 (Or.inr rfl) dX12_buildsEdge_12 rfl ?_
    refine z_iconst dX12_buildsEdge_15 rfl ?_
    exact z_zreturn rfl (Or.inl rfl) dX12_buildsEdge_16 ⟨false, rfl, k⟩
theorem eX12_buildsEdge {G : zG} {d : Nat} {K : Bool → zH → Prop} {l1 : Int} {l2 : Int} {h : zH} (k : tX12_buildsEdge_0 G d K l1 l2 h) : zCb G d mX12_buildsEdge [vr 12 466, vi l1, vi l2] h K := z_entry (by decide +kernel) (Nat.le_of_ble_eq_true rfl) rfl k
def tX12_buildsRange_0 (G : zG) (d : Nat) (K : zH → Prop) (l1 : Int) (l2 : Int) (h : zH) : Prop := zTv G d mX12_buildsRange K 0 [some (vr 12 466), some (vi l1), some (vi l2), none] [] h
theorem bX12_buildsRange_0 {G : zG} {d : Nat} {K : zH → Prop} {l1 : Int} {l2 : Int} {h : zH} (k : ((0 : Int) ≤ (h 466 48) ∧ (h 466 48) < 161) ∧ ((0 : Int) ≤ ((h 466 48) - 1) ∧ ((h 466 48) - 1) < 161) ∧ zR (h 488 (h 466 48)) ∧ zR (h 488 ((h 466 48) - 1)) ∧ ((h 488 (h 466 48)) ≤ (h 488 ((h 466 48) - 1)) → ((0 : Int) ≤ (h 488 (h 466 48)) ∧ (h 488 (h 466 48)) < 14000) ∧ ((0 : Int) ≤ (h 488 (h 466 48)) ∧ (h 488 (h 466 48)) < 14000) ∧ ((0 : Int) ≤ (h 466 48) ∧ (h 466 48) < 161) ∧ ((0 : Int) ≤ (h 466 48) ∧ (h 466 48) < 161) ∧ K (zup (zup (zup h 489 (h 488 (h 466 48)) l1) 490 (h 488 (h 466 48)) l2) 488 (h 466 48) ((h 488 (h 466 48)) + 1))) ∧ (¬ (h 488 (h 466 48)) ≤ (h 488 ((h 466 48) - 1)) → ((0 : Int) ≤ ((h 488 (h 466 48)) - 1) ∧ ((h 488 (h 466 48)) - 1) < 14000) ∧ zR ((h 490 ((h 488 (h 466 48)) - 1)) + 1) ∧ zR l1 ∧ (¬ ((h 490 ((h 488 (h 466 48)) - 1)) + 1) = l1 → ((0 : Int) ≤ (h 488 (h 466 48)) ∧ (h 488 (h 466 48)) < 14000) ∧ ((0 : Int) ≤ (h 488 (h 466 48)) ∧ (h 488 (h 466 48)) < 14000) ∧ ((0 : Int) ≤ (h 466 48) ∧ (h 466 48) < 161) ∧ ((0 : Int) ≤ (h 466 48) ∧ (h 466 48) < 161) ∧ K (zup (zup (zup h 489 (h 488 (h 466 48)) l1) 490 (h 488 (h 466 48)) l2) 488 (h 466 48) ((h 488 (h 466 48)) + 1))) ∧ (((h 490 ((h 488 (h 466 48)) - 1)) + 1) = l1 → ((0 : Int) ≤ ((h 488 (h 466 48)) - 1) ∧ ((h 488 (h 466 48)) - 1) < 14000) ∧ K (zup h 490 ((h 488 (h 466 48)) - 1) l2)))) : tX12_buildsRange_0 G d K l1 l2 h := by
  unfold tX12_buildsRange_0
  refine z_aload_n 0 dX12_buildsRange_0 rfl rfl (Nat.le_of_ble_eq_true rfl) rfl ?_
  refine z_getF 12 13 (x := 488) fX12_79 rfl dX12_buildsRange_1 rfl rfl ?_
  refine z_aload_n 0 dX12_buildsRange_4 rfl rfl (Nat.le_of_ble_eq_true rfl) rfl ?_
  refine z_getI 12 (x := (h 466 48)) fX12_487 rfl dX12_buildsRange_5 rfl rfl ?_
  obtain ⟨i9, k⟩ := k
  refine z_iald (x := (h 488 (h 466 48))) dX12_buildsRange_8 (by rw [zl_488]; exact i9) rfl rfl ?_
  refine z_istore_n 3 dX12_buildsRange_9 rfl (Nat.le_of_ble_eq_true rfl) (L' := [some (vr 12 466), some (vi l1), some (vi l2), some (vi (h 488 (h 466 48)))]) rfl rfl ?_
  refine z_iload_n 3 dX12_buildsRange_10 rfl rfl rfl ?_
  refine z_aload_n 0 dX12_buildsRange_11 rfl rfl (Nat.le_of_ble_eq_true rfl) rfl ?_
  refine z_getF 12 13 (x := 488) fX12_79 rfl dX12_buildsRange_12 rfl rfl ?_
  refine z_aload_n 0 dX12_buildsRange_15 rfl rfl (Nat.le_of_ble_eq_true rfl) rfl ?_
  refine z_getI 12 (x := (h 466 48)) fX12_487 rfl dX12_buildsRange_16 rfl rfl ?_
  refine z_iconst dX12_buildsRange_19 rfl ?_
  refine z_isub dX12_buildsRange_20 rfl ?_
  obtain ⟨i9, k⟩ := k
  refine z_iald (x := (h 488 ((h 466 48) - 1))) dX12_buildsRange_21 (by rw [zl_488]; exact i9) rfl rfl ?_
  obtain ⟨r1, r2, ka, kb⟩ := k
  refine z_icmp_le (tgt := 49) dX12_buildsRange_22 rfl r1 r2 rfl ⟨fun q => ?_, fun q => ?_⟩
  · have k := ka q
    refine z_aload_n 0 dX12_buildsRange_49 rfl rfl (Nat.le_of_ble_eq_true rfl) rfl ?_
    refine z_getF 12 13 (x := 489) fX12_82 rfl dX12_buildsRange_50 rfl rfl ?_
    refine z_iload_n 3 dX12_buildsRange_53 rfl rfl rfl ?_
    refine z_iload_n 1 dX12_buildsRange_54 rfl rfl rfl ?_
    obtain ⟨i9, k⟩ := k
    refine z_iast dX12_buildsRange_55 (by rw [zl_489]; exact i9) rfl ?_
    refine z_aload_n 0 dX12_buildsRange_56 rfl rfl (Nat.le_of_ble_eq_true rfl) rfl ?_
    refine z_getF 12 13 (x := 490) fX12_85 rfl dX12_buildsRange_57 rfl rfl ?_
    refine z_iload_n 3 dX12_buildsRange_60 rfl rfl rfl ?_
    refine z_iload_n 2 dX12_buildsRange_61 rfl rfl rfl ?_
    obtain ⟨i9, k⟩ := k
    refine z_iast dX12_buildsRange_62 (by rw [zl_490]; exact i9) rfl ?_
    refine z_aload_n 0 dX12_buildsRange_63 rfl rfl (Nat.le_of_ble_eq_true rfl) rfl ?_
    refine z_getF 12 13 (x := 488) fX12_79 rfl dX12_buildsRange_64 rfl rfl ?_
    refine z_aload_n 0 dX12_buildsRange_67 rfl rfl (Nat.le_of_ble_eq_true rfl) rfl ?_
    refine z_getI 12 (x := (h 466 48)) fX12_487 rfl dX12_buildsRange_68 (by simp [zup]) rfl ?_
    refine z_dup2 dX12_buildsRange_71 (fun q => by cases q) (fun q => by cases q) rfl ?_
    obtain ⟨i9, k⟩ := k
    refine z_iald (x := (h 488 (h 466 48))) dX12_buildsRange_72 (by rw [zl_488]; exact i9) (by simp [zup]) rfl ?_
    refine z_iconst dX12_buildsRange_73 rfl ?_
    refine z_iadd dX12_buildsRange_74 rfl ?_
    obtain ⟨i9, k⟩ := k
    refine z_iast dX12_buildsRange_75 (by rw [zl_488]; exact i9) rfl ?_
    exact z_return rfl dX12_buildsRange_76 ⟨rfl, k⟩
  · have k := kb q
    refine z_aload_n 0 dX12_buildsRange_25 rfl rfl (Nat.le_of_ble_eq_true rfl) rfl ?_
    refine z_getF 12 13 (x := 490) fX12_85 rfl dX12_buildsRange_26 rfl rfl ?_
    refine z_iload_n 3 dX12_buildsRange_29 rfl rfl rfl ?_
    refine z_iconst dX12_buildsRange_30 rfl ?_
    refine z_isub dX12_buildsRange_31 rfl ?_
    obtain ⟨i9, k⟩ := k
    refine z_iald (x := (h 490 ((h 488 (h 466 48)) - 1))) dX12_buildsRange_32 (by rw [zl_490]; exact i9) rfl rfl ?_
    refine z_iconst dX12_buildsRange_33 rfl ?_
    refine z_iadd dX12_buildsRange_34 rfl ?_
    refine z_iload_n 1 dX12_buildsRange_35 rfl rfl rfl ?_
    obtain ⟨r1, r2, ka, kb⟩ := k
    refine z_icmp_ne (tgt := 49) dX12_buildsRange_36 rfl r1 r2 rfl ⟨fun q => ?_, fun q => ?_⟩
    · have k := ka q
      refine z_aload_n 0 dX12_buildsRange_49 rfl rfl (Nat.le_of_ble_eq_true rfl) rfl ?_
      refine z_getF 12 13 (x := 489) fX12_82 rfl dX12_buildsRange_50 rfl rfl ?_
      refine z_iload_n 3 dX12_buildsRange_53 rfl rfl rfl ?_
      refine z_iload_n 1 dX12_buildsRange_54 rfl rfl rfl ?_
      obtain ⟨i9, k⟩ := k
      refine z_iast dX12_buildsRange_55 (by rw [zl_489]; exact i9) rfl ?_
      refine z_aload_n 0 dX12_buildsRange_56 rfl rfl (Nat.le_of_ble_eq_true rfl) rfl ?_
      refine z_getF 12 13 (x := 490) fX12_85 rfl dX12_buildsRange_57 rfl rfl ?_
      refine z_iload_n 3 dX12_buildsRange_60 rfl rfl rfl ?_
      refine z_iload_n 2 dX12_buildsRange_61 rfl rfl rfl ?_
      obtain ⟨i9, k⟩ := k
      refine z_iast dX12_buildsRange_62 (by rw [zl_490]; exact i9) rfl ?_
      refine z_aload_n 0 dX12_buildsRange_63 rfl rfl (Nat.le_of_ble_eq_true rfl) rfl ?_
      refine z_getF 12 13 (x := 488) fX12_79 rfl dX12_buildsRange_64 rfl rfl ?_
      refine z_aload_n 0 dX12_buildsRange_67 rfl rfl (Nat.le_of_ble_eq_true rfl) rfl ?_
      refine z_getI 12 (x := (h 466 48)) fX12_487 rfl dX12_buildsRange_68 (by simp [zup]) rfl ?_
      refine z_dup2 dX12_buildsRange_71 (fun q => by cases q) (fun q => by cases q) rfl ?_
      obtain ⟨i9, k⟩ := k
      refine z_iald (x := (h 488 (h 466 48))) dX12_buildsRange_72 (by rw [zl_488]; exact i9) (by simp [zup]) rfl ?_
      refine z_iconst dX12_buildsRange_73 rfl ?_
      refine z_iadd dX12_buildsRange_74 rfl ?_
      obtain ⟨i9, k⟩ := k
      refine z_iast dX12_buildsRange_75 (by rw [zl_488]; exact i9) rfl ?_
      exact z_return rfl dX12_buildsRange_76 ⟨rfl, k⟩
    · have k := kb q
      refine z_aload_n 0 dX12_buildsRange_39 rfl rfl (Nat.le_of_ble_eq_true rfl) rfl ?_
      refine z_getF 12 13 (x := 490) fX12_85 rfl dX12_buildsRange_40 rfl rfl ?_
      refine z_iload_n 3 dX12_buildsRange_43 rfl rfl rfl ?_
      refine z_iconst dX12_buildsRange_44 rfl ?_
      refine z_isub dX12_buildsRange_45 rfl ?_
      refine z_iload_n 2 dX12_buildsRange_46 rfl rfl rfl ?_
      obtain ⟨i9, k⟩ := k
      refine z_iast dX12_buildsRange_47 (by rw [zl_490]; exact i9) rfl ?_
      exact z_return rfl dX12_buildsRange_48 ⟨rfl, k⟩
theorem eX12_buildsRange {G : zG} {d : Nat} {K : zH → Prop} {l1 : Int} {l2 : Int} {h : zH} (k : tX12_buildsRange_0 G d K l1 l2 h) : zCv G d mX12_buildsRange [vr 12 466, vi l1, vi l2] h K := z_entry (by decide +kernel) (Nat.le_of_ble_eq_true rfl) rfl k
def tX12_keepsEdge_0 (G : zG) (d : Nat) (K : zH → Prop) (h : zH) : Prop := zTv G d mX12_keepsEdge K 0 [some (vr 12 466)] [] h
theorem bX12_keepsEdge_0 {G : zG} {d : Nat} {K : zH → Prop} {h : zH} (k : ((0 : Int) ≤ (h 466 48) ∧ (h 466 48) < 161) ∧ ((0 : Int) ≤ ((h 466 48) - 1) ∧ ((h 466 48) - 1) < 161) ∧ zR (h 488 (h 466 48)) ∧ zR (h 488 ((h 466 48) - 1)) ∧ (¬ (h 488 (h 466 48)) = (h 488 ((h 466 48) - 1)) → K h) ∧ ((h 488 (h 466 48)) = (h 488 ((h 466 48) - 1)) → K (zup h 466 48 ((h 466 48) - 1)))) : tX12_keepsEdge_0 G d K h := by
  unfold tX12_keepsEdge_0
  refine z_aload_n 0 dX12_keepsEdge_0 rfl rfl (Nat.le_of_ble_eq_true rfl) rfl ?_
  refine z_getF 12 13 (x := 488) fX12_79 rfl dX12_keepsEdge_1 rfl rfl ?_
  refine z_aload_n 0 dX12_keepsEdge_4 rfl rfl (Nat.le_of_ble_eq_true rfl) rfl ?_
  refine z_getI 12 (x := (h 466 48)) fX12_487 rfl dX12_keepsEdge_5 rfl rfl ?_
  obtain ⟨i9, k⟩ := k
  refine z_iald (x := (h 488 (h 466 48))) dX12_keepsEdge_8 (by rw [zl_488]; exact i9) rfl rfl ?_
  refine z_aload_n 0 dX12_keepsEdge_9 rfl rfl (Nat.le_of_ble_eq_true rfl) rfl ?_
  refine z_getF 12 13 (x := 488) fX12_79 rfl dX12_keepsEdge_10 rfl rfl ?_
  refine z_aload_n 0 dX12_keepsEdge_13 rfl rfl (Nat.le_of_ble_eq_true rfl) rfl ?_
  refine z_getI 12 (x := (h 466 48)) fX12_487 rfl dX12_keepsEdge_14 rfl rfl ?_
  refine z_iconst dX12_keepsEdge_17 rfl ?_
  refine z_isub dX12_keepsEdge_18 rfl ?_
  obtain ⟨i9, k⟩ := k
  refine z_iald (x := (h 488 ((h 466 48) - 1))) dX12_keepsEdge_19 (by rw [zl_488]; exact i9) rfl rfl ?_
  obtain ⟨r1, r2, ka, kb⟩ := k
  refine z_icmp_ne (tgt := 33) dX12_keepsEdge_20 rfl r1 r2 rfl ⟨fun q => ?_, fun q => ?_⟩
  · have k := ka q
    exact z_return rfl dX12_keepsEdge_33 ⟨rfl, k⟩
  · have k := kb q
    refine z_aload_n 0 dX12_keepsEdge_23 rfl rfl (Nat.le_of_ble_eq_true rfl) rfl ?_
    refine z_dup dX12_keepsEdge_24 (fun q => by cases q) rfl ?_
    refine z_getI 12 (x := (h 466 48)) fX12_487 rfl dX12_keepsEdge_25 rfl rfl ?_
    refine z_iconst dX12_keepsEdge_28 rfl ?_
    refine z_isub dX12_keepsEdge_29 rfl ?_
    refine z_putI 12 gX12_487 dX12_keepsEdge_30 rfl ?_
    exact z_return rfl dX12_keepsEdge_33 ⟨rfl, k⟩
theorem eX12_keepsEdge {G : zG} {d : Nat} {K : zH → Prop} {h : zH} (k : tX12_keepsEdge_0 G d K h) : zCv G d mX12_keepsEdge [vr 12 466] h K := z_entry (by decide +kernel) (Nat.le_of_ble_eq_true rfl) rfl k
def tX12_buildsFree_0 (G : zG) (d : Nat) (K : zH → Prop) (l1 : Int) (l2 : Int) (h : zH) : Prop := zTv G d mX12_buildsFree K 0 [some (vr 12 466), some (vi l1), some (vi l2)] [] h
theorem bX12_buildsFree_0 {G : zG} {d : Nat} {K : zH → Prop} {l1 : Int} {l2 : Int} {h : zH} (k : zR (h 466 49) ∧ (¬ (h 466 49) = 64 → ((0 : Int) ≤ (h 466 49) ∧ (h 466 49) < 64) ∧ ((0 : Int) ≤ (h 466 49) ∧ (h 466 49) < 64) ∧ K (zup (zup (zup h 491 (h 466 49) l1) 492 (h 466 49) l2) 466 49 ((h 466 49) + 1))) ∧ ((h 466 49) = 64 → K (zup h 466 51 1))) : tX12_buildsFree_0 G d K l1 l2 h := by
  unfold tX12_buildsFree_0
  refine z_aload_n 0 dX12_buildsFree_0 rfl rfl (Nat.le_of_ble_eq_true rfl) rfl ?_
  refine z_getI 12 (x := (h 466 49)) fX12_490 rfl dX12_buildsFree_1 rfl rfl ?_
  refine z_bipush dX12_buildsFree_4 rfl rfl ?_
  obtain ⟨r1, ka, kb⟩ := k
  refine z_icmp_ne (tgt := 15) dX12_buildsFree_6 rfl r1 ⟨by decide, by decide⟩ rfl ⟨fun q => ?_, fun q => ?_⟩
  · have k := ka q
    refine z_aload_n 0 dX12_buildsFree_15 rfl rfl (Nat.le_of_ble_eq_true rfl) rfl ?_
    refine z_getF 12 13 (x := 491) fX12_88 rfl dX12_buildsFree_16 rfl rfl ?_
    refine z_aload_n 0 dX12_buildsFree_19 rfl rfl (Nat.le_of_ble_eq_true rfl) rfl ?_
    refine z_getI 12 (x := (h 466 49)) fX12_490 rfl dX12_buildsFree_20 rfl rfl ?_
    refine z_iload_n 1 dX12_buildsFree_23 rfl rfl rfl ?_
    obtain ⟨i9, k⟩ := k
    refine z_iast dX12_buildsFree_24 (by rw [zl_491]; exact i9) rfl ?_
    refine z_aload_n 0 dX12_buildsFree_25 rfl rfl (Nat.le_of_ble_eq_true rfl) rfl ?_
    refine z_getF 12 13 (x := 492) fX12_91 rfl dX12_buildsFree_26 rfl rfl ?_
    refine z_aload_n 0 dX12_buildsFree_29 rfl rfl (Nat.le_of_ble_eq_true rfl) rfl ?_
    refine z_getI 12 (x := (h 466 49)) fX12_490 rfl dX12_buildsFree_30 (by simp [zup]) rfl ?_
    refine z_iload_n 2 dX12_buildsFree_33 rfl rfl rfl ?_
    obtain ⟨i9, k⟩ := k
    refine z_iast dX12_buildsFree_34 (by rw [zl_492]; exact i9) rfl ?_
    refine z_aload_n 0 dX12_buildsFree_35 rfl rfl (Nat.le_of_ble_eq_true rfl) rfl ?_
    refine z_dup dX12_buildsFree_36 (fun q => by cases q) rfl ?_
    refine z_getI 12 (x := (h 466 49)) fX12_490 rfl dX12_buildsFree_37 (by simp [zup]) rfl ?_
    refine z_iconst dX12_buildsFree_40 rfl ?_
    refine z_iadd dX12_buildsFree_41 rfl ?_
    refine z_putI 12 gX12_490 dX12_buildsFree_42 rfl ?_
    exact z_return rfl dX12_buildsFree_45 ⟨rfl, k⟩
  · have k := kb q
    refine z_aload_n 0 dX12_buildsFree_9 rfl rfl (Nat.le_of_ble_eq_true rfl) rfl ?_
    refine z_iconst dX12_buildsFree_10 rfl ?_
    refine z_putZ 12 gX12_496 (Or.inr rfl) dX12_buildsFree_11 rfl ?_
    exact z_return rfl dX12_buildsFree_14 ⟨rfl, k⟩
theorem eX12_buildsFree {G : zG} {d : Nat} {K : zH → Prop} {l1 : Int} {l2 : Int} {h : zH} (k : tX12_buildsFree_0 G d K l1 l2 h) : zCv G d mX12_buildsFree [vr 12 466, vi l1, vi l2] h K := z_entry (by decide +kernel) (Nat.le_of_ble_eq_true rfl) rfl k
def tX12_buildsTold_0 (G : zG) (d : Nat) (K : zH → Prop) (l1 : Int) (h : zH) : Prop := zTv G (d + 1) mX12_buildsTold K 0 [some (vr 12 466), some (vi l1), none, none] [] h
def tX12_buildsTold_25 (G : zG) (d : Nat) (K : zH → Prop) (l1 : Int) (l2 : Int) (h : zH) : Prop := zTv G (d + 1) mX12_buildsTold K 25 [some (vr 12 466), some (vi l1), some (vi l2), none] [] h
def tX12_buildsTold_59 (G : zG) (d : Nat) (K : zH → Prop) (l1 : Int) (l2 : Int) (l3 : Int) (h : zH) : Prop := zTv G (d + 1) mX12_buildsTold K 59 [some (vr 12 466), some (vi l1), some (vi l2), some (vi l3)] [] h
def tX12_buildsTold_112 (G : zG) (d : Nat) (K : zH → Prop) (l1 : Int) (l2 : Int) (h : zH) : Prop := zTv G (d + 1) mX12_buildsTold K 112 [some (vr 12 466), some (vi l1), some (vi l2), none] [] h
theorem bX12_buildsTold_0 {G : zG} {d : Nat} {K : zH → Prop} {l1 : Int} {h : zH} (k : ((0 : Int) ≤ l1 ∧ l1 < 4) ∧ zCv G d mX12_builds [vr 12 466, vi (h 475 l1)] h (fun h2 => ((0 : Int) ≤ l1 ∧ l1 < 4) ∧ tX12_buildsTold_25 G d K l1 (l1 * 24) (zup h2 466 50 (h2 485 l1)))) : tX12_buildsTold_0 G d K l1 h := by
  unfold tX12_buildsTold_0
  refine z_aload_n 0 dX12_buildsTold_0 rfl rfl (Nat.le_of_ble_eq_true rfl) rfl ?_
  refine z_aload_n 0 dX12_buildsTold_1 rfl rfl (Nat.le_of_ble_eq_true rfl) rfl ?_
  refine z_getF 12 13 (x := 475) fX12_40 rfl dX12_buildsTold_2 rfl rfl ?_
  refine z_iload_n 1 dX12_buildsTold_5 rfl rfl rfl ?_
  obtain ⟨i9, k⟩ := k
  refine z_iald (x := (h 475 l1)) dX12_buildsTold_6 (by rw [zl_475]; exact i9) rfl rfl ?_
  refine z_callVv vX12_builds kX12_500 dX12_buildsTold_7 rfl (zRo_d d) (as := [vi (h 475 l1)]) (rest := []) (Nat.le_of_ble_eq_true rfl) rfl rfl (zCv_mono (fun h2 k => ?_) k)
  refine z_aload_n 0 dX12_buildsTold_10 rfl rfl (Nat.le_of_ble_eq_true rfl) rfl ?_
  refine z_aload_n 0 dX12_buildsTold_11 rfl rfl (Nat.le_of_ble_eq_true rfl) rfl ?_
  refine z_getF 12 14 (x := 485) fX12_70 rfl dX12_buildsTold_12 rfl rfl ?_
  refine z_iload_n 1 dX12_buildsTold_15 rfl rfl rfl ?_
  obtain ⟨i9, k⟩ := k
  refine z_lald (x := (h2 485 l1)) dX12_buildsTold_16 (by rw [zl_485]; exact i9) rfl rfl ?_
  refine z_putL 12 gX12_493 dX12_buildsTold_17 rfl ?_
  refine z_iload_n 1 dX12_buildsTold_20 rfl rfl rfl ?_
  refine z_bipush dX12_buildsTold_21 rfl rfl ?_
  refine z_imul dX12_buildsTold_23 rfl ?_
  refine z_istore_n 2 dX12_buildsTold_24 rfl (Nat.le_of_ble_eq_true rfl) (L' := [some (vr 12 466), some (vi l1), some (vi (l1 * 24)), none]) rfl rfl ?_
  exact z_sub (L' := [some (vr 12 466), some (vi l1), some (vi (l1 * 24)), none]) (And.intro rfl (And.intro rfl (And.intro rfl trivial))) k
theorem bX12_buildsTold_25 {G : zG} {d : Nat} {K : zH → Prop} {l1 : Int} {l2 : Int} {h : zH} (k : ((0 : Int) ≤ l1 ∧ l1 < 4) ∧ zR l2 ∧ zR ((l1 * 24) + (h 476 l1)) ∧ (((l1 * 24) + (h 476 l1)) ≤ l2 → tX12_buildsTold_112 G d K l1 (l1 * 8) h) ∧ (¬ ((l1 * 24) + (h 476 l1)) ≤ l2 → ((0 : Int) ≤ l2 ∧ l2 < 96) ∧ ((0 : Int) ≤ l2 ∧ l2 < 96) ∧ zCb G d mX12_buildsEdge [vr 12 466, vi (h 478 l2), vi (h 479 l2)] h (fun x1 h2 => tX12_buildsTold_59 G d K l1 l2 0 h2))) : tX12_buildsTold_25 G d K l1 l2 h := by
  unfold tX12_buildsTold_25
  refine z_iload_n 2 dX12_buildsTold_25 rfl rfl rfl ?_
  refine z_iload_n 1 dX12_buildsTold_26 rfl rfl rfl ?_
  refine z_bipush dX12_buildsTold_27 rfl rfl ?_
  refine z_imul dX12_buildsTold_29 rfl ?_
  refine z_aload_n 0 dX12_buildsTold_30 rfl rfl (Nat.le_of_ble_eq_true rfl) rfl ?_
  refine z_getF 12 13 (x := 476) fX12_43 rfl dX12_buildsTold_31 rfl rfl ?_
  refine z_iload_n 1 dX12_buildsTold_34 rfl rfl rfl ?_
  obtain ⟨i9, k⟩ := k
  refine z_iald (x := (h 476 l1)) dX12_buildsTold_35 (by rw [zl_476]; exact i9) rfl rfl ?_
  refine z_iadd dX12_buildsTold_36 rfl ?_
  obtain ⟨r1, r2, ka, kb⟩ := k
  refine z_icmp_ge (tgt := 107) dX12_buildsTold_37 rfl r1 r2 rfl ⟨fun q => ?_, fun q => ?_⟩
  · have k := ka q
    refine z_iload_n 1 dX12_buildsTold_107 rfl rfl rfl ?_
    refine z_bipush dX12_buildsTold_108 rfl rfl ?_
    refine z_imul dX12_buildsTold_110 rfl ?_
    refine z_istore_n 2 dX12_buildsTold_111 rfl (Nat.le_of_ble_eq_true rfl) (L' := [some (vr 12 466), some (vi l1), some (vi (l1 * 8)), none]) rfl rfl ?_
    exact z_sub (L' := [some (vr 12 466), some (vi l1), some (vi (l1 * 8)), none]) (And.intro rfl (And.intro rfl (And.intro rfl trivial))) k
  · have k := kb q
    refine z_aload_n 0 dX12_buildsTold_40 rfl rfl (Nat.le_of_ble_eq_true rfl) rfl ?_
    refine z_aload_n 0 dX12_buildsTold_41 rfl rfl (Nat.le_of_ble_eq_true rfl) rfl ?_
    refine z_getF 12 13 (x := 478) fX12_49 rfl dX12_buildsTold_42 rfl rfl ?_
    refine z_iload_n 2 dX12_buildsTold_45 rfl rfl rfl ?_
    obtain ⟨i9, k⟩ := k
    refine z_iald (x := (h 478 l2)) dX12_buildsTold_46 (by rw [zl_478]; exact i9) rfl rfl ?_
    refine z_aload_n 0 dX12_buildsTold_47 rfl rfl (Nat.le_of_ble_eq_true rfl) rfl ?_
    refine z_getF 12 13 (x := 479) fX12_52 rfl dX12_buildsTold_48 rfl rfl ?_
    refine z_iload_n 2 dX12_buildsTold_51 rfl rfl rfl ?_
    obtain ⟨i9, k⟩ := k
    refine z_iald (x := (h 479 l2)) dX12_buildsTold_52 (by rw [zl_479]; exact i9) rfl rfl ?_
    refine z_callVb vX12_buildsEdge kX12_503 dX12_buildsTold_53 rfl (zRo_d d) (as := [vi (h 478 l2), vi (h 479 l2)]) (rest := []) (Nat.le_of_ble_eq_true rfl) rfl rfl (zCb_mono (fun x1 h2 k => ?_) k)
    refine z_pop dX12_buildsTold_56 (fun q => by cases q) rfl ?_
    refine z_iconst dX12_buildsTold_57 rfl ?_
    refine z_istore_n 3 dX12_buildsTold_58 rfl (Nat.le_of_ble_eq_true rfl) (L' := [some (vr 12 466), some (vi l1), some (vi l2), some (vi 0)]) rfl rfl ?_
    exact z_sub (L' := [some (vr 12 466), some (vi l1), some (vi l2), some (vi 0)]) (And.intro rfl (And.intro rfl (And.intro rfl (And.intro rfl trivial)))) k
theorem bX12_buildsTold_59 {G : zG} {d : Nat} {K : zH → Prop} {l1 : Int} {l2 : Int} {l3 : Int} {h : zH} (k : ((0 : Int) ≤ l2 ∧ l2 < 96) ∧ zR l3 ∧ zR (h 480 l2) ∧ ((h 480 l2) ≤ l3 → tX12_buildsTold_25 G d K l1 (l2 + 1) h) ∧ (¬ (h 480 l2) ≤ l3 → ((0 : Int) ≤ ((l2 * 24) + l3) ∧ ((l2 * 24) + l3) < 2304) ∧ ((0 : Int) ≤ ((l2 * 24) + l3) ∧ ((l2 * 24) + l3) < 2304) ∧ zCv G d mX12_buildsRange [vr 12 466, vi (h 481 ((l2 * 24) + l3)), vi (h 482 ((l2 * 24) + l3))] h (fun h2 => tX12_buildsTold_59 G d K l1 l2 (l3 + 1) h2))) : tX12_buildsTold_59 G d K l1 l2 l3 h := by
  unfold tX12_buildsTold_59
  refine z_iload_n 3 dX12_buildsTold_59 rfl rfl rfl ?_
  refine z_aload_n 0 dX12_buildsTold_60 rfl rfl (Nat.le_of_ble_eq_true rfl) rfl ?_
  refine z_getF 12 13 (x := 480) fX12_55 rfl dX12_buildsTold_61 rfl rfl ?_
  refine z_iload_n 2 dX12_buildsTold_64 rfl rfl rfl ?_
  obtain ⟨i9, k⟩ := k
  refine z_iald (x := (h 480 l2)) dX12_buildsTold_65 (by rw [zl_480]; exact i9) rfl rfl ?_
  obtain ⟨r1, r2, ka, kb⟩ := k
  refine z_icmp_ge (tgt := 101) dX12_buildsTold_66 rfl r1 r2 rfl ⟨fun q => ?_, fun q => ?_⟩
  · have k := ka q
    refine z_iinc dX12_buildsTold_101 rfl (Nat.le_of_ble_eq_true rfl) (L' := [some (vr 12 466), some (vi l1), some (vi (l2 + 1)), some (vi l3)]) rfl rfl ?_
    refine z_goto (tgt := 25) dX12_buildsTold_104 rfl ?_
    exact z_sub (L' := [some (vr 12 466), some (vi l1), some (vi (l2 + 1)), none]) (And.intro rfl (And.intro rfl (And.intro rfl trivial))) k
  · have k := kb q
    refine z_aload_n 0 dX12_buildsTold_69 rfl rfl (Nat.le_of_ble_eq_true rfl) rfl ?_
    refine z_aload_n 0 dX12_buildsTold_70 rfl rfl (Nat.le_of_ble_eq_true rfl) rfl ?_
    refine z_getF 12 13 (x := 481) fX12_58 rfl dX12_buildsTold_71 rfl rfl ?_
    refine z_iload_n 2 dX12_buildsTold_74 rfl rfl rfl ?_
    refine z_bipush dX12_buildsTold_75 rfl rfl ?_
    refine z_imul dX12_buildsTold_77 rfl ?_
    refine z_iload_n 3 dX12_buildsTold_78 rfl rfl rfl ?_
    refine z_iadd dX12_buildsTold_79 rfl ?_
    obtain ⟨i9, k⟩ := k
    refine z_iald (x := (h 481 ((l2 * 24) + l3))) dX12_buildsTold_80 (by rw [zl_481]; exact i9) rfl rfl ?_
    refine z_aload_n 0 dX12_buildsTold_81 rfl rfl (Nat.le_of_ble_eq_true rfl) rfl ?_
    refine z_getF 12 13 (x := 482) fX12_61 rfl dX12_buildsTold_82 rfl rfl ?_
    refine z_iload_n 2 dX12_buildsTold_85 rfl rfl rfl ?_
    refine z_bipush dX12_buildsTold_86 rfl rfl ?_
    refine z_imul dX12_buildsTold_88 rfl ?_
    refine z_iload_n 3 dX12_buildsTold_89 rfl rfl rfl ?_
    refine z_iadd dX12_buildsTold_90 rfl ?_
    obtain ⟨i9, k⟩ := k
    refine z_iald (x := (h 482 ((l2 * 24) + l3))) dX12_buildsTold_91 (by rw [zl_482]; exact i9) rfl rfl ?_
    refine z_callVv vX12_buildsRange kX12_506 dX12_buildsTold_92 rfl (zRo_d d) (as := [vi (h 481 ((l2 * 24) + l3)), vi (h 482 ((l2 * 24) + l3))]) (rest := []) (Nat.le_of_ble_eq_true rfl) rfl rfl (zCv_mono (fun h2 k => ?_) k)
    refine z_iinc dX12_buildsTold_95 rfl (Nat.le_of_ble_eq_true rfl) (L' := [some (vr 12 466), some (vi l1), some (vi l2), some (vi (l3 + 1))]) rfl rfl ?_
    refine z_goto (tgt := 59) dX12_buildsTold_98 rfl ?_
    exact z_sub (L' := [some (vr 12 466), some (vi l1), some (vi l2), some (vi (l3 + 1))]) (And.intro rfl (And.intro rfl (And.intro rfl (And.intro rfl trivial)))) k
theorem bX12_buildsTold_112 {G : zG} {d : Nat} {K : zH → Prop} {l1 : Int} {l2 : Int} {h : zH} (k : ((0 : Int) ≤ l1 ∧ l1 < 4) ∧ zR l2 ∧ zR ((l1 * 8) + (h 477 l1)) ∧ (((l1 * 8) + (h 477 l1)) ≤ l2 → K h) ∧ (¬ ((l1 * 8) + (h 477 l1)) ≤ l2 → ((0 : Int) ≤ l2 ∧ l2 < 32) ∧ ((0 : Int) ≤ l2 ∧ l2 < 32) ∧ zCv G d mX12_buildsFree [vr 12 466, vi (h 483 l2), vi (h 484 l2)] h (fun h2 => tX12_buildsTold_112 G d K l1 (l2 + 1) h2))) : tX12_buildsTold_112 G d K l1 l2 h := by
  unfold tX12_buildsTold_112
  refine z_iload_n 2 dX12_buildsTold_112 rfl rfl rfl ?_
  refine z_iload_n 1 dX12_buildsTold_113 rfl rfl rfl ?_
  refine z_bipush dX12_buildsTold_114 rfl rfl ?_
  refine z_imul dX12_buildsTold_116 rfl ?_
  refine z_aload_n 0 dX12_buildsTold_117 rfl rfl (Nat.le_of_ble_eq_true rfl) rfl ?_
  refine z_getF 12 13 (x := 477) fX12_46 rfl dX12_buildsTold_118 rfl rfl ?_
  refine z_iload_n 1 dX12_buildsTold_121 rfl rfl rfl ?_
  obtain ⟨i9, k⟩ := k
  refine z_iald (x := (h 477 l1)) dX12_buildsTold_122 (by rw [zl_477]; exact i9) rfl rfl ?_
  refine z_iadd dX12_buildsTold_123 rfl ?_
  obtain ⟨r1, r2, ka, kb⟩ := k
  refine z_icmp_ge (tgt := 149) dX12_buildsTold_124 rfl r1 r2 rfl ⟨fun q => ?_, fun q => ?_⟩
  · have k := ka q
    exact z_return rfl dX12_buildsTold_149 ⟨rfl, k⟩
  · have k := kb q
    refine z_aload_n 0 dX12_buildsTold_127 rfl rfl (Nat.le_of_ble_eq_true rfl) rfl ?_
    refine z_aload_n 0 dX12_buildsTold_128 rfl rfl (Nat.le_of_ble_eq_true rfl) rfl ?_
    refine z_getF 12 13 (x := 483) fX12_64 rfl dX12_buildsTold_129 rfl rfl ?_
    refine z_iload_n 2 dX12_buildsTold_132 rfl rfl rfl ?_
    obtain ⟨i9, k⟩ := k
    refine z_iald (x := (h 483 l2)) dX12_buildsTold_133 (by rw [zl_483]; exact i9) rfl rfl ?_
    refine z_aload_n 0 dX12_buildsTold_134 rfl rfl (Nat.le_of_ble_eq_true rfl) rfl ?_
    refine z_getF 12 13 (x := 484) fX12_67 rfl dX12_buildsTold_135 rfl rfl ?_
    refine z_iload_n 2 dX12_buildsTold_138 rfl rfl rfl ?_
    obtain ⟨i9, k⟩ := k
    refine z_iald (x := (h 484 l2)) dX12_buildsTold_139 (by rw [zl_484]; exact i9) rfl rfl ?_
    refine z_callVv vX12_buildsFree kX12_509 dX12_buildsTold_140 rfl (zRo_d d) (as := [vi (h 483 l2), vi (h 484 l2)]) (rest := []) (Nat.le_of_ble_eq_true rfl) rfl rfl (zCv_mono (fun h2 k => ?_) k)
    refine z_iinc dX12_buildsTold_143 rfl (Nat.le_of_ble_eq_true rfl) (L' := [some (vr 12 466), some (vi l1), some (vi (l2 + 1)), none]) rfl rfl ?_
    refine z_goto (tgt := 112) dX12_buildsTold_146 rfl ?_
    exact z_sub (L' := [some (vr 12 466), some (vi l1), some (vi (l2 + 1)), none]) (And.intro rfl (And.intro rfl (And.intro rfl trivial))) k
theorem eX12_buildsTold {G : zG} {d : Nat} {K : zH → Prop} {l1 : Int} {h : zH} (k : tX12_buildsTold_0 G d K l1 h) : zCv G (d + 1) mX12_buildsTold [vr 12 466, vi l1] h K := z_entry (by decide +kernel) (Nat.le_of_ble_eq_true rfl) rfl k
def tX12_keepsMachine_0 (G : zG) (d : Nat) (K : zH → Prop) (l1 : Int) (l2 : Int) (h : zH) : Prop := zTv G d mX12_keepsMachine K 0 [some (vr 12 466), some (vi l1), some (vi l2), none] [] h
def tX12_keepsMachine_62 (G : zG) (d : Nat) (K : zH → Prop) (l1 : Int) (l2 : Int) (l3 : Int) (h : zH) : Prop := zTv G d mX12_keepsMachine K 62 [some (vr 12 466), some (vi l1), some (vi l2), some (vi l3)] [] h
def tX12_keepsMachine_104 (G : zG) (d : Nat) (K : zH → Prop) (l1 : Int) (l2 : Int) (l3 : Int) (h : zH) : Prop := zTv G d mX12_keepsMachine K 104 [some (vr 12 466), some (vi l1), some (vi l2), some (vi l3)] [] h
def tX12_keepsMachine_218 (G : zG) (d : Nat) (K : zH → Prop) (l1 : Int) (l2 : Int) (l3 : Int) (h : zH) : Prop := zTv G d mX12_keepsMachine K 218 [some (vr 12 466), some (vi l1), some (vi l2), some (vi l3)] [] h
theorem bX12_keepsMachine_0 {G : zG} {d : Nat} {K : zH → Prop} {l1 : Int} {l2 : Int} {h : zH} (k : ((0 : Int) ≤ l1 ∧ l1 < 14) ∧ ((0 : Int) ≤ l2 ∧ l2 < 14) ∧ ((0 : Int) ≤ l1 ∧ l1 < 14) ∧ ((0 : Int) ≤ l2 ∧ l2 < 14) ∧ ((0 : Int) ≤ l1 ∧ l1 < 14) ∧ ((0 : Int) ≤ l2 ∧ l2 < 14) ∧ ((0 : Int) ≤ l1 ∧ l1 < 14) ∧ ((0 : Int) ≤ l2 ∧ l2 < 14) ∧ ((0 : Int) ≤ l1 ∧ l1 < 14) ∧ ((0 : Int) ≤ l2 ∧ l2 < 14) ∧ tX12_keepsMachine_62 G d K l1 l2 0 (zup (zup (zup (zup (zup h 493 l2 (h 493 l1)) 494 l2 (h 494 l1)) 495 l2 (h 495 l1)) 496 l2 (h 496 l1)) 502 l2 (h 502 l1))) : tX12_keepsMachine_0 G d K l1 l2 h := by
  unfold tX12_keepsMachine_0
  refine z_aload_n 0 dX12_keepsMachine_0 rfl rfl (Nat.le_of_ble_eq_true rfl) rfl ?_
  refine z_getF 12 13 (x := 493) fX12_94 rfl dX12_keepsMachine_1 rfl rfl ?_
  refine z_iload_n 2 dX12_keepsMachine_4 rfl rfl rfl ?_
  refine z_aload_n 0 dX12_keepsMachine_5 rfl rfl (Nat.le_of_ble_eq_true rfl) rfl ?_
  refine z_getF 12 13 (x := 493) fX12_94 rfl dX12_keepsMachine_6 rfl rfl ?_
  refine z_iload_n 1 dX12_keepsMachine_9 rfl rfl rfl ?_
  obtain ⟨i9, k⟩ := k
  refine z_iald (x := (h 493 l1)) dX12_keepsMachine_10 (by rw [zl_493]; exact i9) rfl rfl ?_
  obtain ⟨i9, k⟩ := k
  refine z_iast dX12_keepsMachine_11 (by rw [zl_493]; exact i9) rfl ?_
  refine z_aload_n 0 dX12_keepsMachine_12 rfl rfl (Nat.le_of_ble_eq_true rfl) rfl ?_
  refine z_getF 12 13 (x := 494) fX12_97 rfl dX12_keepsMachine_13 rfl rfl ?_
  refine z_iload_n 2 dX12_keepsMachine_16 rfl rfl rfl ?_
  refine z_aload_n 0 dX12_keepsMachine_17 rfl rfl (Nat.le_of_ble_eq_true rfl) rfl ?_
  refine z_getF 12 13 (x := 494) fX12_97 rfl dX12_keepsMachine_18 rfl rfl ?_
  refine z_iload_n 1 dX12_keepsMachine_21 rfl rfl rfl ?_
  obtain ⟨i9, k⟩ := k
  refine z_iald (x := (h 494 l1)) dX12_keepsMachine_22 (by rw [zl_494]; exact i9) (by simp [zup]) rfl ?_
  obtain ⟨i9, k⟩ := k
  refine z_iast dX12_keepsMachine_23 (by rw [zl_494]; exact i9) rfl ?_
  refine z_aload_n 0 dX12_keepsMachine_24 rfl rfl (Nat.le_of_ble_eq_true rfl) rfl ?_
  refine z_getF 12 13 (x := 495) fX12_100 rfl dX12_keepsMachine_25 rfl rfl ?_
  refine z_iload_n 2 dX12_keepsMachine_28 rfl rfl rfl ?_
  refine z_aload_n 0 dX12_keepsMachine_29 rfl rfl (Nat.le_of_ble_eq_true rfl) rfl ?_
  refine z_getF 12 13 (x := 495) fX12_100 rfl dX12_keepsMachine_30 rfl rfl ?_
  refine z_iload_n 1 dX12_keepsMachine_33 rfl rfl rfl ?_
  obtain ⟨i9, k⟩ := k
  refine z_iald (x := (h 495 l1)) dX12_keepsMachine_34 (by rw [zl_495]; exact i9) (by simp [zup]) rfl ?_
  obtain ⟨i9, k⟩ := k
  refine z_iast dX12_keepsMachine_35 (by rw [zl_495]; exact i9) rfl ?_
  refine z_aload_n 0 dX12_keepsMachine_36 rfl rfl (Nat.le_of_ble_eq_true rfl) rfl ?_
  refine z_getF 12 13 (x := 496) fX12_103 rfl dX12_keepsMachine_37 rfl rfl ?_
  refine z_iload_n 2 dX12_keepsMachine_40 rfl rfl rfl ?_
  refine z_aload_n 0 dX12_keepsMachine_41 rfl rfl (Nat.le_of_ble_eq_true rfl) rfl ?_
  refine z_getF 12 13 (x := 496) fX12_103 rfl dX12_keepsMachine_42 rfl rfl ?_
  refine z_iload_n 1 dX12_keepsMachine_45 rfl rfl rfl ?_
  obtain ⟨i9, k⟩ := k
  refine z_iald (x := (h 496 l1)) dX12_keepsMachine_46 (by rw [zl_496]; exact i9) (by simp [zup]) rfl ?_
  obtain ⟨i9, k⟩ := k
  refine z_iast dX12_keepsMachine_47 (by rw [zl_496]; exact i9) rfl ?_
  refine z_aload_n 0 dX12_keepsMachine_48 rfl rfl (Nat.le_of_ble_eq_true rfl) rfl ?_
  refine z_getF 12 14 (x := 502) fX12_121 rfl dX12_keepsMachine_49 rfl rfl ?_
  refine z_iload_n 2 dX12_keepsMachine_52 rfl rfl rfl ?_
  refine z_aload_n 0 dX12_keepsMachine_53 rfl rfl (Nat.le_of_ble_eq_true rfl) rfl ?_
  refine z_getF 12 14 (x := 502) fX12_121 rfl dX12_keepsMachine_54 rfl rfl ?_
  refine z_iload_n 1 dX12_keepsMachine_57 rfl rfl rfl ?_
  obtain ⟨i9, k⟩ := k
  refine z_lald (x := (h 502 l1)) dX12_keepsMachine_58 (by rw [zl_502]; exact i9) (by simp [zup]) rfl ?_
  obtain ⟨i9, k⟩ := k
  refine z_last dX12_keepsMachine_59 (by rw [zl_502]; exact i9) rfl ?_
  refine z_iconst dX12_keepsMachine_60 rfl ?_
  refine z_istore_n 3 dX12_keepsMachine_61 rfl (Nat.le_of_ble_eq_true rfl) (L' := [some (vr 12 466), some (vi l1), some (vi l2), some (vi 0)]) rfl rfl ?_
  exact z_sub (L' := [some (vr 12 466), some (vi l1), some (vi l2), some (vi 0)]) (And.intro rfl (And.intro rfl (And.intro rfl (And.intro rfl trivial)))) k
theorem bX12_keepsMachine_62 {G : zG} {d : Nat} {K : zH → Prop} {l1 : Int} {l2 : Int} {l3 : Int} {h : zH} (k : ((0 : Int) ≤ l2 ∧ l2 < 14) ∧ zR l3 ∧ zR (h 496 l2) ∧ ((h 496 l2) ≤ l3 → tX12_keepsMachine_104 G d K l1 l2 0 h) ∧ (¬ (h 496 l2) ≤ l3 → ((0 : Int) ≤ ((l1 * 128) + l3) ∧ ((l1 * 128) + l3) < 1792) ∧ ((0 : Int) ≤ ((l2 * 128) + l3) ∧ ((l2 * 128) + l3) < 1792) ∧ tX12_keepsMachine_62 G d K l1 l2 (l3 + 1) (zup h 497 ((l2 * 128) + l3) (h 497 ((l1 * 128) + l3))))) : tX12_keepsMachine_62 G d K l1 l2 l3 h := by
  unfold tX12_keepsMachine_62
  refine z_iload_n 3 dX12_keepsMachine_62 rfl rfl rfl ?_
  refine z_aload_n 0 dX12_keepsMachine_63 rfl rfl (Nat.le_of_ble_eq_true rfl) rfl ?_
  refine z_getF 12 13 (x := 496) fX12_103 rfl dX12_keepsMachine_64 rfl rfl ?_
  refine z_iload_n 2 dX12_keepsMachine_67 rfl rfl rfl ?_
  obtain ⟨i9, k⟩ := k
  refine z_iald (x := (h 496 l2)) dX12_keepsMachine_68 (by rw [zl_496]; exact i9) rfl rfl ?_
  obtain ⟨r1, r2, ka, kb⟩ := k
  refine z_icmp_ge (tgt := 102) dX12_keepsMachine_69 rfl r1 r2 rfl ⟨fun q => ?_, fun q => ?_⟩
  · have k := ka q
    refine z_iconst dX12_keepsMachine_102 rfl ?_
    refine z_istore_n 3 dX12_keepsMachine_103 rfl (Nat.le_of_ble_eq_true rfl) (L' := [some (vr 12 466), some (vi l1), some (vi l2), some (vi 0)]) rfl rfl ?_
    exact z_sub (L' := [some (vr 12 466), some (vi l1), some (vi l2), some (vi 0)]) (And.intro rfl (And.intro rfl (And.intro rfl (And.intro rfl trivial)))) k
  · have k := kb q
    refine z_aload_n 0 dX12_keepsMachine_72 rfl rfl (Nat.le_of_ble_eq_true rfl) rfl ?_
    refine z_getF 12 13 (x := 497) fX12_106 rfl dX12_keepsMachine_73 rfl rfl ?_
    refine z_iload_n 2 dX12_keepsMachine_76 rfl rfl rfl ?_
    refine z_sipush dX12_keepsMachine_77 rfl rfl ?_
    refine z_imul dX12_keepsMachine_80 rfl ?_
    refine z_iload_n 3 dX12_keepsMachine_81 rfl rfl rfl ?_
    refine z_iadd dX12_keepsMachine_82 rfl ?_
    refine z_aload_n 0 dX12_keepsMachine_83 rfl rfl (Nat.le_of_ble_eq_true rfl) rfl ?_
    refine z_getF 12 13 (x := 497) fX12_106 rfl dX12_keepsMachine_84 rfl rfl ?_
    refine z_iload_n 1 dX12_keepsMachine_87 rfl rfl rfl ?_
    refine z_sipush dX12_keepsMachine_88 rfl rfl ?_
    refine z_imul dX12_keepsMachine_91 rfl ?_
    refine z_iload_n 3 dX12_keepsMachine_92 rfl rfl rfl ?_
    refine z_iadd dX12_keepsMachine_93 rfl ?_
    obtain ⟨i9, k⟩ := k
    refine z_iald (x := (h 497 ((l1 * 128) + l3))) dX12_keepsMachine_94 (by rw [zl_497]; exact i9) rfl rfl ?_
    obtain ⟨i9, k⟩ := k
    refine z_iast dX12_keepsMachine_95 (by rw [zl_497]; exact i9) rfl ?_
    refine z_iinc dX12_keepsMachine_96 rfl (Nat.le_of_ble_eq_true rfl) (L' := [some (vr 12 466), some (vi l1), some (vi l2), some (vi (l3 + 1))]) rfl rfl ?_
    refine z_goto (tgt := 62) dX12_keepsMachine_99 rfl ?_
    exact z_sub (L' := [some (vr 12 466), some (vi l1), some (vi l2), some (vi (l3 + 1))]) (And.intro rfl (And.intro rfl (And.intro rfl (And.intro rfl trivial)))) k
theorem bX12_keepsMachine_104 {G : zG} {d : Nat} {K : zH → Prop} {l1 : Int} {l2 : Int} {l3 : Int} {h : zH} (k : ((0 : Int) ≤ l2 ∧ l2 < 14) ∧ zR l3 ∧ zR (h 494 l2) ∧ ((h 494 l2) ≤ l3 → tX12_keepsMachine_218 G d K l1 l2 0 h) ∧ (¬ (h 494 l2) ≤ l3 → ((0 : Int) ≤ ((l1 * 160) + l3) ∧ ((l1 * 160) + l3) < 2240) ∧ ((0 : Int) ≤ ((l2 * 160) + l3) ∧ ((l2 * 160) + l3) < 2240) ∧ ((0 : Int) ≤ ((l1 * 160) + l3) ∧ ((l1 * 160) + l3) < 2240) ∧ ((0 : Int) ≤ ((l2 * 160) + l3) ∧ ((l2 * 160) + l3) < 2240) ∧ ((0 : Int) ≤ ((l1 * 160) + l3) ∧ ((l1 * 160) + l3) < 2240) ∧ ((0 : Int) ≤ ((l2 * 160) + l3) ∧ ((l2 * 160) + l3) < 2240) ∧ ((0 : Int) ≤ ((l1 * 160) + l3) ∧ ((l1 * 160) + l3) < 2240) ∧ ((0 : Int) ≤ ((l2 * 160) + l3) ∧ ((l2 * 160) + l3) < 2240) ∧ tX12_keepsMachine_104 G d K l1 l2 (l3 + 1) (zup (zup (zup (zup h 498 ((l2 * 160) + l3) (h 498 ((l1 * 160) + l3))) 499 ((l2 * 160) + l3) (h 499 ((l1 * 160) + l3))) 503 ((l2 * 160) + l3) (h 503 ((l1 * 160) + l3))) 504 ((l2 * 160) + l3) (h 504 ((l1 * 160) + l3))))) : tX12_keepsMachine_104 G d K l1 l2 l3 h := by
  unfold tX12_keepsMachine_104
  refine z_iload_n 3 dX12_keepsMachine_104 rfl rfl rfl ?_
  refine z_aload_n 0 dX12_keepsMachine_105 rfl rfl (Nat.le_of_ble_eq_true rfl) rfl ?_
  refine z_getF 12 13 (x := 494) fX12_97 rfl dX12_keepsMachine_106 rfl rfl ?_
  refine z_iload_n 2 dX12_keepsMachine_109 rfl rfl rfl ?_
  obtain ⟨i9, k⟩ := k
  refine z_iald (x := (h 494 l2)) dX12_keepsMachine_110 (by rw [zl_494]; exact i9) rfl rfl ?_
  obtain ⟨r1, r2, ka, kb⟩ := k
  refine z_icmp_ge (tgt := 216) dX12_keepsMachine_111 rfl r1 r2 rfl ⟨fun q => ?_, fun q => ?_⟩
  · have k := ka q
    refine z_iconst dX12_keepsMachine_216 rfl ?_
    refine z_istore_n 3 dX12_keepsMachine_217 rfl (Nat.le_of_ble_eq_true rfl) (L' := [some (vr 12 466), some (vi l1), some (vi l2), some (vi 0)]) rfl rfl ?_
    exact z_sub (L' := [some (vr 12 466), some (vi l1), some (vi l2), some (vi 0)]) (And.intro rfl (And.intro rfl (And.intro rfl (And.intro rfl trivial)))) k
  · have k := kb q
    refine z_aload_n 0 dX12_keepsMachine_114 rfl rfl (Nat.le_of_ble_eq_true rfl) rfl ?_
    refine z_getF 12 13 (x := 498) fX12_109 rfl dX12_keepsMachine_115 rfl rfl ?_
    refine z_iload_n 2 dX12_keepsMachine_118 rfl rfl rfl ?_
    refine z_sipush dX12_keepsMachine_119 rfl rfl ?_
    refine z_imul dX12_keepsMachine_122 rfl ?_
    refine z_iload_n 3 dX12_keepsMachine_123 rfl rfl rfl ?_
    refine z_iadd dX12_keepsMachine_124 rfl ?_
    refine z_aload_n 0 dX12_keepsMachine_125 rfl rfl (Nat.le_of_ble_eq_true rfl) rfl ?_
    refine z_getF 12 13 (x := 498) fX12_109 rfl dX12_keepsMachine_126 rfl rfl ?_
    refine z_iload_n 1 dX12_keepsMachine_129 rfl rfl rfl ?_
    refine z_sipush dX12_keepsMachine_130 rfl rfl ?_
    refine z_imul dX12_keepsMachine_133 rfl ?_
    refine z_iload_n 3 dX12_keepsMachine_134 rfl rfl rfl ?_
    refine z_iadd dX12_keepsMachine_135 rfl ?_
    obtain ⟨i9, k⟩ := k
    refine z_iald (x := (h 498 ((l1 * 160) + l3))) dX12_keepsMachine_136 (by rw [zl_498]; exact i9) rfl rfl ?_
    obtain ⟨i9, k⟩ := k
    refine z_iast dX12_keepsMachine_137 (by rw [zl_498]; exact i9) rfl ?_
    refine z_aload_n 0 dX12_keepsMachine_138 rfl rfl (Nat.le_of_ble_eq_true rfl) rfl ?_
    refine z_getF 12 13 (x := 499) fX12_112 rfl dX12_keepsMachine_139 rfl rfl ?_
    refine z_iload_n 2 dX12_keepsMachine_142 rfl rfl rfl ?_
    refine z_sipush dX12_keepsMachine_143 rfl rfl ?_
    refine z_imul dX12_keepsMachine_146 rfl ?_
    refine z_iload_n 3 dX12_keepsMachine_147 rfl rfl rfl ?_
    refine z_iadd dX12_keepsMachine_148 rfl ?_
    refine z_aload_n 0 dX12_keepsMachine_149 rfl rfl (Nat.le_of_ble_eq_true rfl) rfl ?_
    refine z_getF 12 13 (x := 499) fX12_112 rfl dX12_keepsMachine_150 rfl rfl ?_
    refine z_iload_n 1 dX12_keepsMachine_153 rfl rfl rfl ?_
    refine z_sipush dX12_keepsMachine_154 rfl rfl ?_
    refine z_imul dX12_keepsMachine_157 rfl ?_
    refine z_iload_n 3 dX12_keepsMachine_158 rfl rfl rfl ?_
    refine z_iadd dX12_keepsMachine_159 rfl ?_
    obtain ⟨i9, k⟩ := k
    refine z_iald (x := (h 499 ((l1 * 160) + l3))) dX12_keepsMachine_160 (by rw [zl_499]; exact i9) (by simp [zup]) rfl ?_
    obtain ⟨i9, k⟩ := k
    refine z_iast dX12_keepsMachine_161 (by rw [zl_499]; exact i9) rfl ?_
    refine z_aload_n 0 dX12_keepsMachine_162 rfl rfl (Nat.le_of_ble_eq_true rfl) rfl ?_
    refine z_getF 12 14 (x := 503) fX12_124 rfl dX12_keepsMachine_163 rfl rfl ?_
    refine z_iload_n 2 dX12_keepsMachine_166 rfl rfl rfl ?_
    refine z_sipush dX12_keepsMachine_167 rfl rfl ?_
    refine z_imul dX12_keepsMachine_170 rfl ?_
    refine z_iload_n 3 dX12_keepsMachine_171 rfl rfl rfl ?_
    refine z_iadd dX12_keepsMachine_172 rfl ?_
    refine z_aload_n 0 dX12_keepsMachine_173 rfl rfl (Nat.le_of_ble_eq_true rfl) rfl ?_
    refine z_getF 12 14 (x := 503) fX12_124 rfl dX12_keepsMachine_174 rfl rfl ?_
    refine z_iload_n 1 dX12_keepsMachine_177 rfl rfl rfl ?_
    refine z_sipush dX12_keepsMachine_178 rfl rfl ?_
    refine z_imul dX12_keepsMachine_181 rfl ?_
    refine z_iload_n 3 dX12_keepsMachine_182 rfl rfl rfl ?_
    refine z_iadd dX12_keepsMachine_183 rfl ?_
    obtain ⟨i9, k⟩ := k
    refine z_lald (x := (h 503 ((l1 * 160) + l3))) dX12_keepsMachine_184 (by rw [zl_503]; exact i9) (by simp [zup]) rfl ?_
    obtain ⟨i9, k⟩ := k
    refine z_last dX12_keepsMachine_185 (by rw [zl_503]; exact i9) rfl ?_
    refine z_aload_n 0 dX12_keepsMachine_186 rfl rfl (Nat.le_of_ble_eq_true rfl) rfl ?_
    refine z_getF 12 14 (x := 504) fX12_127 rfl dX12_keepsMachine_187 rfl rfl ?_
    refine z_iload_n 2 dX12_keepsMachine_190 rfl rfl rfl ?_
    refine z_sipush dX12_keepsMachine_191 rfl rfl ?_
    refine z_imul dX12_keepsMachine_194 rfl ?_
    refine z_iload_n 3 dX12_keepsMachine_195 rfl rfl rfl ?_
    refine z_iadd dX12_keepsMachine_196 rfl ?_
    refine z_aload_n 0 dX12_keepsMachine_197 rfl rfl (Nat.le_of_ble_eq_true rfl) rfl ?_
    refine z_getF 12 14 (x := 504) fX12_127 rfl dX12_keepsMachine_198 rfl rfl ?_
    refine z_iload_n 1 dX12_keepsMachine_201 rfl rfl rfl ?_
    refine z_sipush dX12_keepsMachine_202 rfl rfl ?_
    refine z_imul dX12_keepsMachine_205 rfl ?_
    refine z_iload_n 3 dX12_keepsMachine_206 rfl rfl rfl ?_
    refine z_iadd dX12_keepsMachine_207 rfl ?_
    obtain ⟨i9, k⟩ := k
    refine z_lald (x := (h 504 ((l1 * 160) + l3))) dX12_keepsMachine_208 (by rw [zl_504]; exact i9) (by simp [zup]) rfl ?_
    obtain ⟨i9, k⟩ := k
    refine z_last dX12_keepsMachine_209 (by rw [zl_504]; exact i9) rfl ?_
    refine z_iinc dX12_keepsMachine_210 rfl (Nat.le_of_ble_eq_true rfl) (L' := [some (vr 12 466), some (vi l1), some (vi l2), some (vi (l3 + 1))]) rfl rfl ?_
    refine z_goto (tgt := 104) dX12_keepsMachine_213 rfl ?_
    exact z_sub (L' := [some (vr 12 466), some (vi l1), some (vi l2), some (vi (l3 + 1))]) (And.intro rfl (And.intro rfl (And.intro rfl (And.intro rfl trivial)))) k
theorem bX12_keepsMachine_218 {G : zG} {d : Nat} {K : zH → Prop} {l1 : Int} {l2 : Int} {l3 : Int} {h : zH} (k : ((0 : Int) ≤ l2 ∧ l2 < 14) ∧ zR l3 ∧ zR (h 495 l2) ∧ ((h 495 l2) ≤ l3 → K h) ∧ (¬ (h 495 l2) ≤ l3 → ((0 : Int) ≤ ((l1 * 64) + l3) ∧ ((l1 * 64) + l3) < 896) ∧ ((0 : Int) ≤ ((l2 * 64) + l3) ∧ ((l2 * 64) + l3) < 896) ∧ ((0 : Int) ≤ ((l1 * 64) + l3) ∧ ((l1 * 64) + l3) < 896) ∧ ((0 : Int) ≤ ((l2 * 64) + l3) ∧ ((l2 * 64) + l3) < 896) ∧ tX12_keepsMachine_218 G d K l1 l2 (l3 + 1) (zup (zup h 500 ((l2 * 64) + l3) (h 500 ((l1 * 64) + l3))) 501 ((l2 * 64) + l3) (h 501 ((l1 * 64) + l3))))) : tX12_keepsMachine_218 G d K l1 l2 l3 h := by
  unfold tX12_keepsMachine_218
  refine z_iload_n 3 dX12_keepsMachine_218 rfl rfl rfl ?_
  refine z_aload_n 0 dX12_keepsMachine_219 rfl rfl (Nat.le_of_ble_eq_true rfl) rfl ?_
  refine z_getF 12 13 (x := 495) fX12_100 rfl dX12_keepsMachine_220 rfl rfl ?_
  refine z_iload_n 2 dX12_keepsMachine_223 rfl rfl rfl ?_
  obtain ⟨i9, k⟩ := k
  refine z_iald (x := (h 495 l2)) dX12_keepsMachine_224 (by rw [zl_495]; exact i9) rfl rfl ?_
  obtain ⟨r1, r2, ka, kb⟩ := k
  refine z_icmp_ge (tgt := 278) dX12_keepsMachine_225 rfl r1 r2 rfl ⟨fun q => ?_, fun q => ?_⟩
  · have k := ka q
    exact z_return rfl dX12_keepsMachine_278 ⟨rfl, k⟩
  · have k := kb q
    refine z_aload_n 0 dX12_keepsMachine_228 rfl rfl (Nat.le_of_ble_eq_true rfl) rfl ?_
    refine z_getF 12 13 (x := 500) fX12_115 rfl dX12_keepsMachine_229 rfl rfl ?_
    refine z_iload_n 2 dX12_keepsMachine_232 rfl rfl rfl ?_
    refine z_bipush dX12_keepsMachine_233 rfl rfl ?_
    refine z_imul dX12_keepsMachine_235 rfl ?_
    refine z_iload_n 3 dX12_keepsMachine_236 rfl rfl rfl ?_
    refine z_iadd dX12_keepsMachine_237 rfl ?_
    refine z_aload_n 0 dX12_keepsMachine_238 rfl rfl (Nat.le_of_ble_eq_true rfl) rfl ?_
    refine z_getF 12 13 (x := 500) fX12_115 rfl dX12_keepsMachine_239 rfl rfl ?_
    refine z_iload_n 1 dX12_keepsMachine_242 rfl rfl rfl ?_
    refine z_bipush dX12_keepsMachine_243 rfl rfl ?_
    refine z_imul dX12_keepsMachine_245 rfl ?_
    refine z_iload_n 3 dX12_keepsMachine_246 rfl rfl rfl ?_
    refine z_iadd dX12_keepsMachine_247 rfl ?_
    obtain ⟨i9, k⟩ := k
    refine z_iald (x := (h 500 ((l1 * 64) + l3))) dX12_keepsMachine_248 (by rw [zl_500]; exact i9) rfl rfl ?_
    obtain ⟨i9, k⟩ := k
    refine z_iast dX12_keepsMachine_249 (by rw [zl_500]; exact i9) rfl ?_
    refine z_aload_n 0 dX12_keepsMachine_250 rfl rfl (Nat.le_of_ble_eq_true rfl) rfl ?_
    refine z_getF 12 13 (x := 501) fX12_118 rfl dX12_keepsMachine_251 rfl rfl ?_
    refine z_iload_n 2 dX12_keepsMachine_254 rfl rfl rfl ?_
    refine z_bipush dX12_keepsMachine_255 rfl rfl ?_
    refine z_imul dX12_keepsMachine_257 rfl ?_
    refine z_iload_n 3 dX12_keepsMachine_258 rfl rfl rfl ?_
    refine z_iadd dX12_keepsMachine_259 rfl ?_
    refine z_aload_n 0 dX12_keepsMachine_260 rfl rfl (Nat.le_of_ble_eq_true rfl) rfl ?_
    refine z_getF 12 13 (x := 501) fX12_118 rfl dX12_keepsMachine_261 rfl rfl ?_
    refine z_iload_n 1 dX12_keepsMachine_264 rfl rfl rfl ?_
    refine z_bipush dX12_keepsMachine_265 rfl rfl ?_
    refine z_imul dX12_keepsMachine_267 rfl ?_
    refine z_iload_n 3 dX12_keepsMachine_268 rfl rfl rfl ?_
    refine z_iadd dX12_keepsMachine_269 rfl ?_
    obtain ⟨i9, k⟩ := k
    refine z_iald (x := (h 501 ((l1 * 64) + l3))) dX12_keepsMachine_270 (by rw [zl_501]; exact i9) (by simp [zup]) rfl ?_
    obtain ⟨i9, k⟩ := k
    refine z_iast dX12_keepsMachine_271 (by rw [zl_501]; exact i9) rfl ?_
    refine z_iinc dX12_keepsMachine_272 rfl (Nat.le_of_ble_eq_true rfl) (L' := [some (vr 12 466), some (vi l1), some (vi l2), some (vi (l3 + 1))]) rfl rfl ?_
    refine z_goto (tgt := 218) dX12_keepsMachine_275 rfl ?_
    exact z_sub (L' := [some (vr 12 466), some (vi l1), some (vi l2), some (vi (l3 + 1))]) (And.intro rfl (And.intro rfl (And.intro rfl (And.intro rfl trivial)))) k
theorem eX12_keepsMachine {G : zG} {d : Nat} {K : zH → Prop} {l1 : Int} {l2 : Int} {h : zH} (k : tX12_keepsMachine_0 G d K l1 l2 h) : zCv G d mX12_keepsMachine [vr 12 466, vi l1, vi l2] h K := z_entry (by decide +kernel) (Nat.le_of_ble_eq_true rfl) rfl k
def tX12_cuts_0 (G : zG) (d : Nat) (K : Bool → zH → Prop) (l1 : Int) (l2 : Int) (h : zH) : Prop := zTb G d mX12_cuts K 0 [some (vr 12 466), some (vi l1), some (vi l2), none, none, none] [] h
def tX12_cuts_9 (G : zG) (d : Nat) (K : Bool → zH → Prop) (l1 : Int) (l2 : Int) (l3 : Int) (l4 : Int) (h : zH) : Prop := zTb G d mX12_cuts K 9 [some (vr 12 466), some (vi l1), some (vi l2), some (vi l3), some (vi l4), none] [] h
def tX12_cuts_94 (G : zG) (d : Nat) (K : Bool → zH → Prop) (l1 : Int) (l2 : Int) (l3 : Int) (l4 : Int) (l5 : Int) (h : zH) : Prop := zTb G d mX12_cuts K 94 [some (vr 12 466), some (vi l1), some (vi l2), some (vi l3), some (vi l4), some (vi l5)] [] h
theorem bX12_cuts_0 {G : zG} {d : Nat} {K : Bool → zH → Prop} {l1 : Int} {l2 : Int} {h : zH} (k : tX12_cuts_9 G d K l1 l2 (l1 * 128) 0 h) : tX12_cuts_0 G d K l1 l2 h := by
  unfold tX12_cuts_0
  refine z_iload_n 1 dX12_cuts_0 rfl rfl rfl ?_
  refine z_sipush dX12_cuts_1 rfl rfl ?_
  refine z_imul dX12_cuts_4 rfl ?_
  refine z_istore_n 3 dX12_cuts_5 rfl (Nat.le_of_ble_eq_true rfl) (L' := [some (vr 12 466), some (vi l1), some (vi l2), some (vi (l1 * 128)), none, none]) rfl rfl ?_
  refine z_iconst dX12_cuts_6 rfl ?_
  refine z_istore dX12_cuts_7 (Nat.le_of_ble_eq_true rfl) (L' := [some (vr 12 466), some (vi l1), some (vi l2), some (vi (l1 * 128)), some (vi 0), none]) rfl rfl ?_
  exact z_sub (L' := [some (vr 12 466), some (vi l1), some (vi l2), some (vi (l1 * 128)), some (vi 0), none]) (And.intro rfl (And.intro rfl (And.intro rfl (And.intro rfl (And.intro rfl trivial))))) k
theorem bX12_cuts_9 {G : zG} {d : Nat} {K : Bool → zH → Prop} {l1 : Int} {l2 : Int} {l3 : Int} {l4 : Int} {h : zH} (k : ((0 : Int) ≤ l1 ∧ l1 < 14) ∧ zR l4 ∧ zR (h 496 l1) ∧ ((h 496 l1) ≤ l4 → zR l2 ∧ (l2 = 65536 → K true h) ∧ (¬ l2 = 65536 → ((0 : Int) ≤ l1 ∧ l1 < 14) ∧ zR l4 ∧ zR (h 496 l1) ∧ ((h 496 l1) ≤ l4 → ((0 : Int) ≤ l1 ∧ l1 < 14) ∧ zR (h 496 l1) ∧ (¬ (h 496 l1) = 128 → ((0 : Int) ≤ l1 ∧ l1 < 14) ∧ tX12_cuts_94 G d K l1 l2 l3 l4 (h 496 l1) h) ∧ ((h 496 l1) = 128 → K false h)) ∧ (¬ (h 496 l1) ≤ l4 → ((0 : Int) ≤ (l3 + l4) ∧ (l3 + l4) < 1792) ∧ zR (h 497 (l3 + l4)) ∧ zR l2 ∧ (¬ (h 497 (l3 + l4)) = l2 → ((0 : Int) ≤ l1 ∧ l1 < 14) ∧ zR (h 496 l1) ∧ (¬ (h 496 l1) = 128 → ((0 : Int) ≤ l1 ∧ l1 < 14) ∧ tX12_cuts_94 G d K l1 l2 l3 l4 (h 496 l1) h) ∧ ((h 496 l1) = 128 → K false h)) ∧ ((h 497 (l3 + l4)) = l2 → K true h)))) ∧ (¬ (h 496 l1) ≤ l4 → ((0 : Int) ≤ (l3 + l4) ∧ (l3 + l4) < 1792) ∧ zR (h 497 (l3 + l4)) ∧ zR l2 ∧ (l2 ≤ (h 497 (l3 + l4)) → zR l2 ∧ (l2 = 65536 → K true h) ∧ (¬ l2 = 65536 → ((0 : Int) ≤ l1 ∧ l1 < 14) ∧ zR l4 ∧ zR (h 496 l1) ∧ ((h 496 l1) ≤ l4 → ((0 : Int) ≤ l1 ∧ l1 < 14) ∧ zR (h 496 l1) ∧ (¬ (h 496 l1) = 128 → ((0 : Int) ≤ l1 ∧ l1 < 14) ∧ tX12_cuts_94 G d K l1 l2 l3 l4 (h 496 l1) h) ∧ ((h 496 l1) = 128 → K false h)) ∧ (¬ (h 496 l1) ≤ l4 → ((0 : Int) ≤ (l3 + l4) ∧ (l3 + l4) < 1792) ∧ zR (h 497 (l3 + l4)) ∧ zR l2 ∧ (¬ (h 497 (l3 + l4)) = l2 → ((0 : Int) ≤ l1 ∧ l1 < 14) ∧ zR (h 496 l1) ∧ (¬ (h 496 l1) = 128 → ((0 : Int) ≤ l1 ∧ l1 < 14) ∧ tX12_cuts_94 G d K l1 l2 l3 l4 (h 496 l1) h) ∧ ((h 496 l1) = 128 → K false h)) ∧ ((h 497 (l3 + l4)) = l2 → K true h)))) ∧ (¬ l2 ≤ (h 497 (l3 + l4)) → tX12_cuts_9 G d K l1 l2 l3 (l4 + 1) h))) : tX12_cuts_9 G d K l1 l2 l3 l4 h := by
  unfold tX12_cuts_9
  refine z_iload dX12_cuts_9 rfl rfl ?_
  refine z_aload_n 0 dX12_cuts_11 rfl rfl (Nat.le_of_ble_eq_true rfl) rfl ?_
  refine z_getF 12 13 (x := 496) fX12_103 rfl dX12_cuts_12 rfl rfl ?_
  refine z_iload_n 1 dX12_cuts_15 rfl rfl rfl ?_
  obtain ⟨i9, k⟩ := k
  refine z_iald (x := (h 496 l1)) dX12_cuts_16 (by rw [zl_496]; exact i9) rfl rfl ?_
  obtain ⟨r1, r2, ka, kb⟩ := k
  refine z_icmp_ge (tgt := 39) dX12_cuts_17 rfl r1 r2 rfl ⟨fun q => ?_, fun q => ?_⟩
  · have k := ka q
    refine z_iload_n 2 dX12_cuts_39 rfl rfl rfl ?_
    refine z_ldcw (x := 65536) cX12_373 rfl dX12_cuts_40 rfl ?_
    obtain ⟨r1, ka, kb⟩ := k
    refine z_icmp_eq (tgt := 70) dX12_cuts_43 rfl r1 ⟨by decide, by decide⟩ rfl ⟨fun q => ?_, fun q => ?_⟩
    · have k := ka q
      refine z_iconst dX12_cuts_70 rfl ?_
      exact z_zreturn rfl (Or.inr rfl) dX12_cuts_71 ⟨true, rfl, k⟩
    · have k := kb q
      refine z_iload dX12_cuts_46 rfl rfl ?_
      refine z_aload_n 0 dX12_cuts_48 rfl rfl (Nat.le_of_ble_eq_true rfl) rfl ?_
      refine z_getF 12 13 (x := 496) fX12_103 rfl dX12_cuts_49 rfl rfl ?_
      refine z_iload_n 1 dX12_cuts_52 rfl rfl rfl ?_
      obtain ⟨i9, k⟩ := k
      refine z_iald (x := (h 496 l1)) dX12_cuts_53 (by rw [zl_496]; exact i9) rfl rfl ?_
      obtain ⟨r1, r2, ka, kb⟩ := k
      refine z_icmp_ge (tgt := 72) dX12_cuts_54 rfl r1 r2 rfl ⟨fun q => ?_, fun q => ?_⟩
      · have k := ka q
        refine z_aload_n 0 dX12_cuts_72 rfl rfl (Nat.le_of_ble_eq_true rfl) rfl ?_
        refine z_getF 12 13 (x := 496) fX12_103 rfl dX12_cuts_73 rfl rfl ?_
        refine z_iload_n 1 dX12_cuts_76 rfl rfl rfl ?_
        obtain ⟨i9, k⟩ := k
        refine z_iald (x := (h 496 l1)) dX12_cuts_77 (by rw [zl_496]; exact i9) rfl rfl ?_
        refine z_sipush dX12_cuts_78 rfl rfl ?_
        obtain ⟨r1, ka, kb⟩ := k
        refine z_icmp_ne (tgt := 86) dX12_cuts_81 rfl r1 ⟨by decide, by decide⟩ rfl ⟨fun q => ?_, fun q => ?_⟩
        · have k := ka q
          refine z_aload_n 0 dX12_cuts_86 rfl rfl (Nat.le_of_ble_eq_true rfl) rfl ?_
          refine z_getF 12 13 (x := 496) fX12_103 rfl dX12_cuts_87 rfl rfl ?_
          refine z_iload_n 1 dX12_cuts_90 rfl rfl rfl ?_
          obtain ⟨i9, k⟩ := k
          refine z_iald (x := (h 496 l1)) dX12_cuts_91 (by rw [zl_496]; exact i9) rfl rfl ?_
          refine z_istore dX12_cuts_92 (Nat.le_of_ble_eq_true rfl) (L' := [some (vr 12 466), some (vi l1), some (vi l2), some (vi l3), some (vi l4), some (vi (h 496 l1))]) rfl rfl ?_
          exact z_sub (L' := [some (vr 12 466), some (vi l1), some (vi l2), some (vi l3), some (vi l4), some (vi (h 496 l1))]) (And.intro rfl (And.intro rfl (And.intro rfl (And.intro rfl (And.intro rfl (And.intro rfl trivial)))))) k
        · have k := kb q
          refine z_iconst dX12_cuts_84 rfl ?_
          exact z_zreturn rfl (Or.inl rfl) dX12_cuts_85 ⟨false, rfl, k⟩
      · have k := kb q
        refine z_aload_n 0 dX12_cuts_57 rfl rfl (Nat.le_of_ble_eq_true rfl) rfl ?_
        refine z_getF 12 13 (x := 497) fX12_106 rfl dX12_cuts_58 rfl rfl ?_
        refine z_iload_n 3 dX12_cuts_61 rfl rfl rfl ?_
        refine z_iload dX12_cuts_62 rfl rfl ?_
        refine z_iadd dX12_cuts_64 rfl ?_
        obtain ⟨i9, k⟩ := k
        refine z_iald (x := (h 497 (l3 + l4))) dX12_cuts_65 (by rw [zl_497]; exact i9) rfl rfl ?_
        refine z_iload_n 2 dX12_cuts_66 rfl rfl rfl ?_
        obtain ⟨r1, r2, ka, kb⟩ := k
        refine z_icmp_ne (tgt := 72) dX12_cuts_67 rfl r1 r2 rfl ⟨fun q => ?_, fun q => ?_⟩
        · have k := ka q
          refine z_aload_n 0 dX12_cuts_72 rfl rfl (Nat.le_of_ble_eq_true rfl) rfl ?_
          refine z_getF 12 13 (x := 496) fX12_103 rfl dX12_cuts_73 rfl rfl ?_
          refine z_iload_n 1 dX12_cuts_76 rfl rfl rfl ?_
          obtain ⟨i9, k⟩ := k
          refine z_iald (x := (h 496 l1)) dX12_cuts_77 (by rw [zl_496]; exact i9) rfl rfl ?_
          refine z_sipush dX12_cuts_78 rfl rfl ?_
          obtain ⟨r1, ka, kb⟩ := k
          refine z_icmp_ne (tgt := 86) dX12_cuts_81 rfl r1 ⟨by decide, by decide⟩ rfl ⟨fun q => ?_, fun q => ?_⟩
          · have k := ka q
            refine z_aload_n 0 dX12_cuts_86 rfl rfl (Nat.le_of_ble_eq_true rfl) rfl ?_
            refine z_getF 12 13 (x := 496) fX12_103 rfl dX12_cuts_87 rfl rfl ?_
            refine z_iload_n 1 dX12_cuts_90 rfl rfl rfl ?_
            obtain ⟨i9, k⟩ := k
            refine z_iald (x := (h 496 l1)) dX12_cuts_91 (by rw [zl_496]; exact i9) rfl rfl ?_
            refine z_istore dX12_cuts_92 (Nat.le_of_ble_eq_true rfl) (L' := [some (vr 12 466), some (vi l1), some (vi l2), some (vi l3), some (vi l4), some (vi (h 496 l1))]) rfl rfl ?_
            exact z_sub (L' := [some (vr 12 466), some (vi l1), some (vi l2), some (vi l3), some (vi l4), some (vi (h 496 l1))]) (And.intro rfl (And.intro rfl (And.intro rfl (And.intro rfl (And.intro rfl (And.intro rfl trivial)))))) k
          · have k := kb q
            refine z_iconst dX12_cuts_84 rfl ?_
            exact z_zreturn rfl (Or.inl rfl) dX12_cuts_85 ⟨false, rfl, k⟩
        · have k := kb q
          refine z_iconst dX12_cuts_70 rfl ?_
          exact z_zreturn rfl (Or.inr rfl) dX12_cuts_71 ⟨true, rfl, k⟩
  · have k := kb q
    refine z_aload_n 0 dX12_cuts_20 rfl rfl (Nat.le_of_ble_eq_true rfl) rfl ?_
    refine z_getF 12 13 (x := 497) fX12_106 rfl dX12_cuts_21 rfl rfl ?_
    refine z_iload_n 3 dX12_cuts_24 rfl rfl rfl ?_
    refine z_iload dX12_cuts_25 rfl rfl ?_
    refine z_iadd dX12_cuts_27 rfl ?_
    obtain ⟨i9, k⟩ := k
    refine z_iald (x := (h 497 (l3 + l4))) dX12_cuts_28 (by rw [zl_497]; exact i9) rfl rfl ?_
    refine z_iload_n 2 dX12_cuts_29 rfl rfl rfl ?_
    obtain ⟨r1, r2, ka, kb⟩ := k
    refine z_icmp_ge (tgt := 39) dX12_cuts_30 rfl r1 r2 rfl ⟨fun q => ?_, fun q => ?_⟩
    · have k := ka q
      refine z_iload_n 2 dX12_cuts_39 rfl rfl rfl ?_
      refine z_ldcw (x := 65536) cX12_373 rfl dX12_cuts_40 rfl ?_
      obtain ⟨r1, ka, kb⟩ := k
      refine z_icmp_eq (tgt := 70) dX12_cuts_43 rfl r1 ⟨by decide, by decide⟩ rfl ⟨fun q => ?_, fun q => ?_⟩
      · have k := ka q
        refine z_iconst dX12_cuts_70 rfl ?_
        exact z_zreturn rfl (Or.inr rfl) dX12_cuts_71 ⟨true, rfl, k⟩
      · have k := kb q
        refine z_iload dX12_cuts_46 rfl rfl ?_
        refine z_aload_n 0 dX12_cuts_48 rfl rfl (Nat.le_of_ble_eq_true rfl) rfl ?_
        refine z_getF 12 13 (x := 496) fX12_103 rfl dX12_cuts_49 rfl rfl ?_
        refine z_iload_n 1 dX12_cuts_52 rfl rfl rfl ?_
        obtain ⟨i9, k⟩ := k
        refine z_iald (x := (h 496 l1)) dX12_cuts_53 (by rw [zl_496]; exact i9) rfl rfl ?_
        obtain ⟨r1, r2, ka, kb⟩ := k
        refine z_icmp_ge (tgt := 72) dX12_cuts_54 rfl r1 r2 rfl ⟨fun q => ?_, fun q => ?_⟩
        · have k := ka q
          refine z_aload_n 0 dX12_cuts_72 rfl rfl (Nat.le_of_ble_eq_true rfl) rfl ?_
          refine z_getF 12 13 (x := 496) fX12_103 rfl dX12_cuts_73 rfl rfl ?_
          refine z_iload_n 1 dX12_cuts_76 rfl rfl rfl ?_
          obtain ⟨i9, k⟩ := k
          refine z_iald (x := (h 496 l1)) dX12_cuts_77 (by rw [zl_496]; exact i9) rfl rfl ?_
          refine z_sipush dX12_cuts_78 rfl rfl ?_
          obtain ⟨r1, ka, kb⟩ := k
          refine z_icmp_ne (tgt := 86) dX12_cuts_81 rfl r1 ⟨by decide, by decide⟩ rfl ⟨fun q => ?_, fun q => ?_⟩
          · have k := ka q
            refine z_aload_n 0 dX12_cuts_86 rfl rfl (Nat.le_of_ble_eq_true rfl) rfl ?_
            refine z_getF 12 13 (x := 496) fX12_103 rfl dX12_cuts_87 rfl rfl ?_
            refine z_iload_n 1 dX12_cuts_90 rfl rfl rfl ?_
            obtain ⟨i9, k⟩ := k
            refine z_iald (x := (h 496 l1)) dX12_cuts_91 (by rw [zl_496]; exact i9) rfl rfl ?_
            refine z_istore dX12_cuts_92 (Nat.le_of_ble_eq_true rfl) (L' := [some (vr 12 466), some (vi l1), some (vi l2), some (vi l3), some (vi l4), some (vi (h 496 l1))]) rfl rfl ?_
            exact z_sub (L' := [some (vr 12 466), some (vi l1), some (vi l2), some (vi l3), some (vi l4), some (vi (h 496 l1))]) (And.intro rfl (And.intro rfl (And.intro rfl (And.intro rfl (And.intro rfl (And.intro rfl trivial)))))) k
          · have k := kb q
            refine z_iconst dX12_cuts_84 rfl ?_
            exact z_zreturn rfl (Or.inl rfl) dX12_cuts_85 ⟨false, rfl, k⟩
        · have k := kb q
          refine z_aload_n 0 dX12_cuts_57 rfl rfl (Nat.le_of_ble_eq_true rfl) rfl ?_
          refine z_getF 12 13 (x := 497) fX12_106 rfl dX12_cuts_58 rfl rfl ?_
          refine z_iload_n 3 dX12_cuts_61 rfl rfl rfl ?_
          refine z_iload dX12_cuts_62 rfl rfl ?_
          refine z_iadd dX12_cuts_64 rfl ?_
          obtain ⟨i9, k⟩ := k
          refine z_iald (x := (h 497 (l3 + l4))) dX12_cuts_65 (by rw [zl_497]; exact i9) rfl rfl ?_
          refine z_iload_n 2 dX12_cuts_66 rfl rfl rfl ?_
          obtain ⟨r1, r2, ka, kb⟩ := k
          refine z_icmp_ne (tgt := 72) dX12_cuts_67 rfl r1 r2 rfl ⟨fun q => ?_, fun q => ?_⟩
          · have k := ka q
            refine z_aload_n 0 dX12_cuts_72 rfl rfl (Nat.le_of_ble_eq_true rfl) rfl ?_
            refine z_getF 12 13 (x := 496) fX12_103 rfl dX12_cuts_73 rfl rfl ?_
            refine z_iload_n 1 dX12_cuts_76 rfl rfl rfl ?_
            obtain ⟨i9, k⟩ := k
            refine z_iald (x := (h 496 l1)) dX12_cuts_77 (by rw [zl_496]; exact i9) rfl rfl ?_
            refine z_sipush dX12_cuts_78 rfl rfl ?_
            obtain ⟨r1, ka, kb⟩ := k
            refine z_icmp_ne (tgt := 86) dX12_cuts_81 rfl r1 ⟨by decide, by decide⟩ rfl ⟨fun q => ?_, fun q => ?_⟩
            · have k := ka q
              refine z_aload_n 0 dX12_cuts_86 rfl rfl (Nat.le_of_ble_eq_true rfl) rfl ?_
              refine z_getF 12 13 (x := 496) fX12_103 rfl dX12_cuts_87 rfl rfl ?_
              refine z_iload_n 1 dX12_cuts_90 rfl rfl rfl ?_
              obtain ⟨i9, k⟩ := k
              refine z_iald (x := (h 496 l1)) dX12_cuts_91 (by rw [zl_496]; exact i9) rfl rfl ?_
              refine z_istore dX12_cuts_92 (Nat.le_of_ble_eq_true rfl) (L' := [some (vr 12 466), some (vi l1), some (vi l2), some (vi l3), some (vi l4), some (vi (h 496 l1))]) rfl rfl ?_
              exact z_sub (L' := [some (vr 12 466), some (vi l1), some (vi l2), some (vi l3), some (vi l4), some (vi (h 496 l1))]) (And.intro rfl (And.intro rfl (And.intro rfl (And.intro rfl (And.intro rfl (And.intro rfl trivial)))))) k
            · have k := kb q
              refine z_iconst dX12_cuts_84 rfl ?_
              exact z_zreturn rfl (Or.inl rfl) dX12_cuts_85 ⟨false, rfl, k⟩
          · have k := kb q
            refine z_iconst dX12_cuts_70 rfl ?_
            exact z_zreturn rfl (Or.inr rfl) dX12_cuts_71 ⟨true, rfl, k⟩
    · have k := kb q
      refine z_iinc dX12_cuts_33 rfl (Nat.le_of_ble_eq_true rfl) (L' := [some (vr 12 466), some (vi l1), some (vi l2), some (vi l3), some (vi (l4 + 1)), none]) rfl rfl ?_
      refine z_goto (tgt := 9) dX12_cuts_36 rfl ?_
      exact z_sub (L' := [some (vr 12 466), some (vi l1), some (vi l2), some (vi l3), some (vi (l4 + 1)), none]) (And.intro rfl (And.intro rfl (And.intro rfl (And.intro rfl (And.intro rfl trivial))))) k
theorem bX12_cuts_94 {G : zG} {d : Nat} {K : Bool → zH → Prop} {l1 : Int} {l2 : Int} {l3 : Int} {l4 : Int} {l5 : Int} {h : zH} (k : zR l5 ∧ zR l4 ∧ (l5 ≤ l4 → ((0 : Int) ≤ (l3 + l4) ∧ (l3 + l4) < 1792) ∧ ((0 : Int) ≤ l1 ∧ l1 < 14) ∧ ((0 : Int) ≤ l1 ∧ l1 < 14) ∧ K true (zup (zup h 497 (l3 + l4) l2) 496 l1 ((h 496 l1) + 1))) ∧ (¬ l5 ≤ l4 → ((0 : Int) ≤ ((l3 + l5) - 1) ∧ ((l3 + l5) - 1) < 1792) ∧ ((0 : Int) ≤ (l3 + l5) ∧ (l3 + l5) < 1792) ∧ tX12_cuts_94 G d K l1 l2 l3 l4 (l5 + (-1)) (zup h 497 (l3 + l5) (h 497 ((l3 + l5) - 1))))) : tX12_cuts_94 G d K l1 l2 l3 l4 l5 h := by
  unfold tX12_cuts_94
  refine z_iload dX12_cuts_94 rfl rfl ?_
  refine z_iload dX12_cuts_96 rfl rfl ?_
  obtain ⟨r1, r2, ka, kb⟩ := k
  refine z_icmp_le (tgt := 127) dX12_cuts_98 rfl r1 r2 rfl ⟨fun q => ?_, fun q => ?_⟩
  · have k := ka q
    refine z_aload_n 0 dX12_cuts_127 rfl rfl (Nat.le_of_ble_eq_true rfl) rfl ?_
    refine z_getF 12 13 (x := 497) fX12_106 rfl dX12_cuts_128 rfl rfl ?_
    refine z_iload_n 3 dX12_cuts_131 rfl rfl rfl ?_
    refine z_iload dX12_cuts_132 rfl rfl ?_
    refine z_iadd dX12_cuts_134 rfl ?_
    refine z_iload_n 2 dX12_cuts_135 rfl rfl rfl ?_
    obtain ⟨i9, k⟩ := k
    refine z_iast dX12_cuts_136 (by rw [zl_497]; exact i9) rfl ?_
    refine z_aload_n 0 dX12_cuts_137 rfl rfl (Nat.le_of_ble_eq_true rfl) rfl ?_
    refine z_getF 12 13 (x := 496) fX12_103 rfl dX12_cuts_138 rfl rfl ?_
    refine z_iload_n 1 dX12_cuts_141 rfl rfl rfl ?_
    refine z_dup2 dX12_cuts_142 (fun q => by cases q) (fun q => by cases q) rfl ?_
    obtain ⟨i9, k⟩ := k
    refine z_iald (x := (h 496 l1)) dX12_cuts_143 (by rw [zl_496]; exact i9) (by simp [zup]) rfl ?_
    refine z_iconst dX12_cuts_144 rfl ?_
    refine z_iadd dX12_cuts_145 rfl ?_
    obtain ⟨i9, k⟩ := k
    refine z_iast dX12_cuts_146 (by rw [zl_496]; exact i9) rfl ?_
    refine z_iconst dX12_cuts_147 rfl ?_
    exact z_zreturn rfl (Or.inr rfl) dX12_cuts_148 ⟨true, rfl, k⟩
  · have k := kb q
    refine z_aload_n 0 dX12_cuts_101 rfl rfl (Nat.le_of_ble_eq_true rfl) rfl ?_
    refine z_getF 12 13 (x := 497) fX12_106 rfl dX12_cuts_102 rfl rfl ?_
    refine z_iload_n 3 dX12_cuts_105 rfl rfl rfl ?_
    refine z_iload dX12_cuts_106 rfl rfl ?_
    refine z_iadd dX12_cuts_108 rfl ?_
    refine z_aload_n 0 dX12_cuts_109 rfl rfl (Nat.le_of_ble_eq_true rfl) rfl ?_
    refine z_getF 12 13 (x := 497) fX12_106 rfl dX12_cuts_110 rfl rfl ?_
    refine z_iload_n 3 dX12_cuts_113 rfl rfl rfl ?_
    refine z_iload dX12_cuts_114 rfl rfl ?_
    refine z_iadd dX12_cuts_116 rfl ?_
    refine z_iconst dX12_cuts_117 rfl ?_
    refine z_isub dX12_cuts_118 rfl ?_
    obtain ⟨i9, k⟩ := k
    refine z_iald (x := (h 497 ((l3 + l5) - 1))) dX12_cuts_119 (by rw [zl_497]; exact i9) rfl rfl ?_
    obtain ⟨i9, k⟩ := k
    refine z_iast dX12_cuts_120 (by rw [zl_497]; exact i9) rfl ?_
    refine z_iinc dX12_cuts_121 rfl (Nat.le_of_ble_eq_true rfl) (L' := [some (vr 12 466), some (vi l1), some (vi l2), some (vi l3), some (vi l4), some (vi (l5 + (-1)))]) rfl rfl ?_
    refine z_goto (tgt := 94) dX12_cuts_124 rfl ?_
    exact z_sub (L' := [some (vr 12 466), some (vi l1), some (vi l2), some (vi l3), some (vi l4), some (vi (l5 + (-1)))]) (And.intro rfl (And.intro rfl (And.intro rfl (And.intro rfl (And.intro rfl (And.intro rfl trivial)))))) k
theorem eX12_cuts {G : zG} {d : Nat} {K : Bool → zH → Prop} {l1 : Int} {l2 : Int} {h : zH} (k : tX12_cuts_0 G d K l1 l2 h) : zCb G d mX12_cuts [vr 12 466, vi l1, vi l2] h K := z_entry (by decide +kernel) (Nat.le_of_ble_eq_true rfl) rfl k
def tX12_cutsAll_0 (G : zG) (d : Nat) (K : Bool → zH → Prop) (l1 : Int) (h : zH) : Prop := zTb G (d + 1) mX12_cutsAll K 0 [some (vr 12 466), some (vi l1), none] [] h
def tX12_cutsAll_20 (G : zG) (d : Nat) (K : Bool → zH → Prop) (l1 : Int) (l2 : Int) (h : zH) : Prop := zTb G (d + 1) mX12_cutsAll K 20 [some (vr 12 466), some (vi l1), some (vi l2)] [] h
theorem bX12_cutsAll_0 {G : zG} {d : Nat} {K : Bool → zH → Prop} {l1 : Int} {h : zH} (k : ((0 : Int) ≤ (l1 * 128) ∧ (l1 * 128) < 1792) ∧ ((0 : Int) ≤ l1 ∧ l1 < 14) ∧ tX12_cutsAll_20 G d K l1 0 (zup (zup h 497 (l1 * 128) 0) 496 l1 1)) : tX12_cutsAll_0 G d K l1 h := by
  unfold tX12_cutsAll_0
  refine z_aload_n 0 dX12_cutsAll_0 rfl rfl (Nat.le_of_ble_eq_true rfl) rfl ?_
  refine z_getF 12 13 (x := 497) fX12_106 rfl dX12_cutsAll_1 rfl rfl ?_
  refine z_iload_n 1 dX12_cutsAll_4 rfl rfl rfl ?_
  refine z_sipush dX12_cutsAll_5 rfl rfl ?_
  refine z_imul dX12_cutsAll_8 rfl ?_
  refine z_iconst dX12_cutsAll_9 rfl ?_
  obtain ⟨i9, k⟩ := k
  refine z_iast dX12_cutsAll_10 (by rw [zl_497]; exact i9) rfl ?_
  refine z_aload_n 0 dX12_cutsAll_11 rfl rfl (Nat.le_of_ble_eq_true rfl) rfl ?_
  refine z_getF 12 13 (x := 496) fX12_103 rfl dX12_cutsAll_12 rfl rfl ?_
  refine z_iload_n 1 dX12_cutsAll_15 rfl rfl rfl ?_
  refine z_iconst dX12_cutsAll_16 rfl ?_
  obtain ⟨i9, k⟩ := k
  refine z_iast dX12_cutsAll_17 (by rw [zl_496]; exact i9) rfl ?_
  refine z_iconst dX12_cutsAll_18 rfl ?_
  refine z_istore_n 2 dX12_cutsAll_19 rfl (Nat.le_of_ble_eq_true rfl) (L' := [some (vr 12 466), some (vi l1), some (vi 0)]) rfl rfl ?_
  exact z_sub (L' := [some (vr 12 466), some (vi l1), some (vi 0)]) (And.intro rfl (And.intro rfl (And.intro rfl trivial))) k
theorem bX12_cutsAll_20 {G : zG} {d : Nat} {K : Bool → zH → Prop} {l1 : Int} {l2 : Int} {h : zH} (k : ((0 : Int) ≤ (h 466 48) ∧ (h 466 48) < 161) ∧ zR l2 ∧ zR (h 488 (h 466 48)) ∧ ((h 488 (h 466 48)) ≤ l2 → K true h) ∧ (¬ (h 488 (h 466 48)) ≤ l2 → ((0 : Int) ≤ l2 ∧ l2 < 14000) ∧ zCb G d mX12_cuts [vr 12 466, vi l1, vi (h 489 l2)] h (fun x1 h2 => (x1 = false → K false h2) ∧ (x1 = true → ((0 : Int) ≤ l2 ∧ l2 < 14000) ∧ zCb G d mX12_cuts [vr 12 466, vi l1, vi ((h2 490 l2) + 1)] h2 (fun x3 h4 => (x3 = true → tX12_cutsAll_20 G d K l1 (l2 + 1) h4) ∧ (x3 = false → K false h4)))))) : tX12_cutsAll_20 G d K l1 l2 h := by
  unfold tX12_cutsAll_20
  refine z_iload_n 2 dX12_cutsAll_20 rfl rfl rfl ?_
  refine z_aload_n 0 dX12_cutsAll_21 rfl rfl (Nat.le_of_ble_eq_true rfl) rfl ?_
  refine z_getF 12 13 (x := 488) fX12_79 rfl dX12_cutsAll_22 rfl rfl ?_
  refine z_aload_n 0 dX12_cutsAll_25 rfl rfl (Nat.le_of_ble_eq_true rfl) rfl ?_
  refine z_getI 12 (x := (h 466 48)) fX12_487 rfl dX12_cutsAll_26 rfl rfl ?_
  obtain ⟨i9, k⟩ := k
  refine z_iald (x := (h 488 (h 466 48))) dX12_cutsAll_29 (by rw [zl_488]; exact i9) rfl rfl ?_
  obtain ⟨r1, r2, ka, kb⟩ := k
  refine z_icmp_ge (tgt := 71) dX12_cutsAll_30 rfl r1 r2 rfl ⟨fun q => ?_, fun q => ?_⟩
  · have k := ka q
    refine z_iconst dX12_cutsAll_71 rfl ?_
    exact z_zreturn rfl (Or.inr rfl) dX12_cutsAll_72 ⟨true, rfl, k⟩
  · have k := kb q
    refine z_aload_n 0 dX12_cutsAll_33 rfl rfl (Nat.le_of_ble_eq_true rfl) rfl ?_
    refine z_iload_n 1 dX12_cutsAll_34 rfl rfl rfl ?_
    refine z_aload_n 0 dX12_cutsAll_35 rfl rfl (Nat.le_of_ble_eq_true rfl) rfl ?_
    refine z_getF 12 13 (x := 489) fX12_82 rfl dX12_cutsAll_36 rfl rfl ?_
    refine z_iload_n 2 dX12_cutsAll_39 rfl rfl rfl ?_
    obtain ⟨i9, k⟩ := k
    refine z_iald (x := (h 489 l2)) dX12_cutsAll_40 (by rw [zl_489]; exact i9) rfl rfl ?_
    refine z_callVb vX12_cuts kX12_512 dX12_cutsAll_41 rfl (zRo_d d) (as := [vi l1, vi (h 489 l2)]) (rest := []) (Nat.le_of_ble_eq_true rfl) rfl rfl (zCb_mono (fun x1 h2 k => ?_) k)
    obtain ⟨ka, kb⟩ := k
    refine z_ifb_eq (tgt := 63) dX12_cutsAll_44 rfl rfl ⟨fun q => ?_, fun q => ?_⟩
    · have k := ka q
      refine z_iconst dX12_cutsAll_63 rfl ?_
      exact z_zreturn rfl (Or.inl rfl) dX12_cutsAll_64 ⟨false, rfl, k⟩
    · have k := kb q
      refine z_aload_n 0 dX12_cutsAll_47 rfl rfl (Nat.le_of_ble_eq_true rfl) rfl ?_
      refine z_iload_n 1 dX12_cutsAll_48 rfl rfl rfl ?_
      refine z_aload_n 0 dX12_cutsAll_49 rfl rfl (Nat.le_of_ble_eq_true rfl) rfl ?_
      refine z_getF 12 13 (x := 490) fX12_85 rfl dX12_cutsAll_50 rfl rfl ?_
      refine z_iload_n 2 dX12_cutsAll_53 rfl rfl rfl ?_
      obtain ⟨i9, k⟩ := k
      refine z_iald (x := (h2 490 l2)) dX12_cutsAll_54 (by rw [zl_490]; exact i9) rfl rfl ?_
      refine z_iconst dX12_cutsAll_55 rfl ?_
      refine z_iadd dX12_cutsAll_56 rfl ?_
      refine z_callVb vX12_cuts kX12_512 dX12_cutsAll_57 rfl (zRo_d d) (as := [vi l1, vi ((h2 490 l2) + 1)]) (rest := []) (Nat.le_of_ble_eq_true rfl) rfl rfl (zCb_mono (fun x3 h4 k => ?_) k)
      obtain ⟨ka, kb⟩ := k
      refine z_ifb_ne (tgt := 65) dX12_cutsAll_60 rfl rfl ⟨fun q => ?_, fun q => ?_⟩
      · have k := ka q
        refine z_iinc dX12_cutsAll_65 rfl (Nat.le_of_ble_eq_true rfl) (L' := [some (vr 12 466), some (vi l1), some (vi (l2 + 1))]) rfl rfl ?_
        refine z_goto (tgt := 20) dX12_cutsAll_68 rfl ?_
        exact z_sub (L' := [some (vr 12 466), some (vi l1), some (vi (l2 + 1))]) (And.intro rfl (And.intro rfl (And.intro rfl trivial))) k
      · have k := kb q
        refine z_iconst dX12_cutsAll_63 rfl ?_
        exact z_zreturn rfl (Or.inl rfl) dX12_cutsAll_64 ⟨false, rfl, k⟩
theorem eX12_cutsAll {G : zG} {d : Nat} {K : Bool → zH → Prop} {l1 : Int} {h : zH} (k : tX12_cutsAll_0 G d K l1 h) : zCb G (d + 1) mX12_cutsAll [vr 12 466, vi l1] h K := z_entry (by decide +kernel) (Nat.le_of_ble_eq_true rfl) rfl k
def tX12_settles_0 (G : zG) (d : Nat) (K : Bool → zH → Prop) (l1 : Int) (h : zH) : Prop := zTb G (d + 1) mX12_settles K 0 [some (vr 12 466), some (vi l1), none] [] h
def tX12_settles_59 (G : zG) (d : Nat) (K : Bool → zH → Prop) (l1 : Int) (l2 : Int) (h : zH) : Prop := zTb G (d + 1) mX12_settles K 59 [some (vr 12 466), some (vi l1), some (vi l2)] [] h
def tX12_settles_81 (G : zG) (d : Nat) (K : Bool → zH → Prop) (l1 : Int) (l2 : Int) (h : zH) : Prop := zTb G (d + 1) mX12_settles K 81 [some (vr 12 466), some (vi l1), some (vi l2)] [] h
theorem bX12_settles_0 {G : zG} {d : Nat} {K : Bool → zH → Prop} {l1 : Int} {h : zH} (k : zR (h 466 51) ∧ (¬ (h 466 51) = 0 → K false h) ∧ ((h 466 51) = 0 → zCb G d mX12_cutsAll [vr 12 466, vi l1] h (fun x1 h2 => (x1 = true → ((0 : Int) ≤ l1 ∧ l1 < 14) ∧ ((0 : Int) ≤ l1 ∧ l1 < 14) ∧ ((0 : Int) ≤ l1 ∧ l1 < 14) ∧ ((0 : Int) ≤ l1 ∧ l1 < 14) ∧ tX12_settles_59 G d K l1 0 (zup (zup (zup (zup h2 493 l1 (h2 466 47)) 494 l1 (h2 466 48)) 495 l1 (h2 466 49)) 502 l1 (h2 466 50))) ∧ (x1 = false → K false h2)))) : tX12_settles_0 G d K l1 h := by
  unfold tX12_settles_0
  refine z_aload_n 0 dX12_settles_0 rfl rfl (Nat.le_of_ble_eq_true rfl) rfl ?_
  refine z_getZ 12 (x := (h 466 51)) fX12_496 rfl dX12_settles_1 rfl rfl ?_
  obtain ⟨r1, ka, kb⟩ := k
  refine z_if_ne (tgt := 15) dX12_settles_4 rfl r1 rfl ⟨fun q => ?_, fun q => ?_⟩
  · have k := ka q
    refine z_iconst dX12_settles_15 rfl ?_
    exact z_zreturn rfl (Or.inl rfl) dX12_settles_16 ⟨false, rfl, k⟩
  · have k := kb q
    refine z_aload_n 0 dX12_settles_7 rfl rfl (Nat.le_of_ble_eq_true rfl) rfl ?_
    refine z_iload_n 1 dX12_settles_8 rfl rfl rfl ?_
    refine z_callVb vX12_cutsAll kX12_515 dX12_settles_9 rfl (zRo_d d) (as := [vi l1]) (rest := []) (Nat.le_of_ble_eq_true rfl) rfl rfl (zCb_mono (fun x1 h2 k => ?_) k)
    obtain ⟨ka, kb⟩ := k
    refine z_ifb_ne (tgt := 17) dX12_settles_12 rfl rfl ⟨fun q => ?_, fun q => ?_⟩
    · have k := ka q
      refine z_aload_n 0 dX12_settles_17 rfl rfl (Nat.le_of_ble_eq_true rfl) rfl ?_
      refine z_getF 12 13 (x := 493) fX12_94 rfl dX12_settles_18 rfl rfl ?_
      refine z_iload_n 1 dX12_settles_21 rfl rfl rfl ?_
      refine z_aload_n 0 dX12_settles_22 rfl rfl (Nat.le_of_ble_eq_true rfl) rfl ?_
      refine z_getI 12 (x := (h2 466 47)) fX12_484 rfl dX12_settles_23 rfl rfl ?_
      obtain ⟨i9, k⟩ := k
      refine z_iast dX12_settles_26 (by rw [zl_493]; exact i9) rfl ?_
      refine z_aload_n 0 dX12_settles_27 rfl rfl (Nat.le_of_ble_eq_true rfl) rfl ?_
      refine z_getF 12 13 (x := 494) fX12_97 rfl dX12_settles_28 rfl rfl ?_
      refine z_iload_n 1 dX12_settles_31 rfl rfl rfl ?_
      refine z_aload_n 0 dX12_settles_32 rfl rfl (Nat.le_of_ble_eq_true rfl) rfl ?_
      refine z_getI 12 (x := (h2 466 48)) fX12_487 rfl dX12_settles_33 (by simp [zup]) rfl ?_
      obtain ⟨i9, k⟩ := k
      refine z_iast dX12_settles_36 (by rw [zl_494]; exact i9) rfl ?_
      refine z_aload_n 0 dX12_settles_37 rfl rfl (Nat.le_of_ble_eq_true rfl) rfl ?_
      refine z_getF 12 13 (x := 495) fX12_100 rfl dX12_settles_38 rfl rfl ?_
      refine z_iload_n 1 dX12_settles_41 rfl rfl rfl ?_
      refine z_aload_n 0 dX12_settles_42 rfl rfl (Nat.le_of_ble_eq_true rfl) rfl ?_
      refine z_getI 12 (x := (h2 466 49)) fX12_490 rfl dX12_settles_43 (by simp [zup]) rfl ?_
      obtain ⟨i9, k⟩ := k
      refine z_iast dX12_settles_46 (by rw [zl_495]; exact i9) rfl ?_
      refine z_aload_n 0 dX12_settles_47 rfl rfl (Nat.le_of_ble_eq_true rfl) rfl ?_
      refine z_getF 12 14 (x := 502) fX12_121 rfl dX12_settles_48 rfl rfl ?_
      refine z_iload_n 1 dX12_settles_51 rfl rfl rfl ?_
      refine z_aload_n 0 dX12_settles_52 rfl rfl (Nat.le_of_ble_eq_true rfl) rfl ?_
      refine z_getL 12 (x := (h2 466 50)) fX12_493 rfl dX12_settles_53 (by simp [zup]) rfl ?_
      obtain ⟨i9, k⟩ := k
      refine z_last dX12_settles_56 (by rw [zl_502]; exact i9) rfl ?_
      refine z_iconst dX12_settles_57 rfl ?_
      refine z_istore_n 2 dX12_settles_58 rfl (Nat.le_of_ble_eq_true rfl) (L' := [some (vr 12 466), some (vi l1), some (vi 0)]) rfl rfl ?_
      exact z_sub (L' := [some (vr 12 466), some (vi l1), some (vi 0)]) (And.intro rfl (And.intro rfl (And.intro rfl trivial))) k
    · have k := kb q
      refine z_iconst dX12_settles_15 rfl ?_
      exact z_zreturn rfl (Or.inl rfl) dX12_settles_16 ⟨false, rfl, k⟩
theorem bX12_settles_59 {G : zG} {d : Nat} {K : Bool → zH → Prop} {l1 : Int} {l2 : Int} {h : zH} (k : zR l2 ∧ zR (h 466 48) ∧ ((h 466 48) ≤ l2 → tX12_settles_81 G d K l1 0 h) ∧ (¬ (h 466 48) ≤ l2 → zCv G d mX12_settlesEdge [vr 12 466, vi l1, vi l2] h (fun h2 => tX12_settles_59 G d K l1 (l2 + 1) h2))) : tX12_settles_59 G d K l1 l2 h := by
  unfold tX12_settles_59
  refine z_iload_n 2 dX12_settles_59 rfl rfl rfl ?_
  refine z_aload_n 0 dX12_settles_60 rfl rfl (Nat.le_of_ble_eq_true rfl) rfl ?_
  refine z_getI 12 (x := (h 466 48)) fX12_487 rfl dX12_settles_61 rfl rfl ?_
  obtain ⟨r1, r2, ka, kb⟩ := k
  refine z_icmp_ge (tgt := 79) dX12_settles_64 rfl r1 r2 rfl ⟨fun q => ?_, fun q => ?_⟩
  · have k := ka q
    refine z_iconst dX12_settles_79 rfl ?_
    refine z_istore_n 2 dX12_settles_80 rfl (Nat.le_of_ble_eq_true rfl) (L' := [some (vr 12 466), some (vi l1), some (vi 0)]) rfl rfl ?_
    exact z_sub (L' := [some (vr 12 466), some (vi l1), some (vi 0)]) (And.intro rfl (And.intro rfl (And.intro rfl trivial))) k
  · have k := kb q
    refine z_aload_n 0 dX12_settles_67 rfl rfl (Nat.le_of_ble_eq_true rfl) rfl ?_
    refine z_iload_n 1 dX12_settles_68 rfl rfl rfl ?_
    refine z_iload_n 2 dX12_settles_69 rfl rfl rfl ?_
    refine z_callVv vX12_settlesEdge kX12_518 dX12_settles_70 rfl (zRo_d d) (as := [vi l1, vi l2]) (rest := []) (Nat.le_of_ble_eq_true rfl) rfl rfl (zCv_mono (fun h2 k => ?_) k)
    refine z_iinc dX12_settles_73 rfl (Nat.le_of_ble_eq_true rfl) (L' := [some (vr 12 466), some (vi l1), some (vi (l2 + 1))]) rfl rfl ?_
    refine z_goto (tgt := 59) dX12_settles_76 rfl ?_
    exact z_sub (L' := [some (vr 12 466), some (vi l1), some (vi (l2 + 1))]) (And.intro rfl (And.intro rfl (And.intro rfl trivial))) k
theorem bX12_settles_81 {G : zG} {d : Nat} {K : Bool → zH → Prop} {l1 : Int} {l2 : Int} {h : zH} (k : zR l2 ∧ zR (h 466 49) ∧ ((h 466 49) ≤ l2 → zCb G d mX12_gathers [vr 12 466, vi l1, vi 0] h (fun x1 h2 => K x1 h2)) ∧ (¬ (h 466 49) ≤ l2 → ((0 : Int) ≤ l2 ∧ l2 < 64) ∧ ((0 : Int) ≤ ((l1 * 64) + l2) ∧ ((l1 * 64) + l2) < 896) ∧ ((0 : Int) ≤ l2 ∧ l2 < 64) ∧ ((0 : Int) ≤ ((l1 * 64) + l2) ∧ ((l1 * 64) + l2) < 896) ∧ tX12_settles_81 G d K l1 (l2 + 1) (zup (zup h 500 ((l1 * 64) + l2) (h 491 l2)) 501 ((l1 * 64) + l2) (h 492 l2)))) : tX12_settles_81 G d K l1 l2 h := by
  unfold tX12_settles_81
  refine z_iload_n 2 dX12_settles_81 rfl rfl rfl ?_
  refine z_aload_n 0 dX12_settles_82 rfl rfl (Nat.le_of_ble_eq_true rfl) rfl ?_
  refine z_getI 12 (x := (h 466 49)) fX12_490 rfl dX12_settles_83 rfl rfl ?_
  obtain ⟨r1, r2, ka, kb⟩ := k
  refine z_icmp_ge (tgt := 129) dX12_settles_86 rfl r1 r2 rfl ⟨fun q => ?_, fun q => ?_⟩
  · have k := ka q
    refine z_aload_n 0 dX12_settles_129 rfl rfl (Nat.le_of_ble_eq_true rfl) rfl ?_
    refine z_iload_n 1 dX12_settles_130 rfl rfl rfl ?_
    refine z_iconst dX12_settles_131 rfl ?_
    refine z_callVb vX12_gathers kX12_521 dX12_settles_132 rfl (zRo_d d) (as := [vi l1, vi 0]) (rest := []) (Nat.le_of_ble_eq_true rfl) rfl rfl (zCb_mono (fun x1 h2 k => ?_) k)
    exact z_zreturn rfl (bi_01 _) dX12_settles_135 ⟨_, rfl, k⟩
  · have k := kb q
    refine z_aload_n 0 dX12_settles_89 rfl rfl (Nat.le_of_ble_eq_true rfl) rfl ?_
    refine z_getF 12 13 (x := 500) fX12_115 rfl dX12_settles_90 rfl rfl ?_
    refine z_iload_n 1 dX12_settles_93 rfl rfl rfl ?_
    refine z_bipush dX12_settles_94 rfl rfl ?_
    refine z_imul dX12_settles_96 rfl ?_
    refine z_iload_n 2 dX12_settles_97 rfl rfl rfl ?_
    refine z_iadd dX12_settles_98 rfl ?_
    refine z_aload_n 0 dX12_settles_99 rfl rfl (Nat.le_of_ble_eq_true rfl) rfl ?_
    refine z_getF 12 13 (x := 491) fX12_88 rfl dX12_settles_100 rfl rfl ?_
    refine z_iload_n 2 dX12_settles_103 rfl rfl rfl ?_
    obtain ⟨i9, k⟩ := k
    refine z_iald (x := (h 491 l2)) dX12_settles_104 (by rw [zl_491]; exact i9) rfl rfl ?_
    obtain ⟨i9, k⟩ := k
    refine z_iast dX12_settles_105 (by rw [zl_500]; exact i9) rfl ?_
    refine z_aload_n 0 dX12_settles_106 rfl rfl (Nat.le_of_ble_eq_true rfl) rfl ?_
    refine z_getF 12 13 (x := 501) fX12_118 rfl dX12_settles_107 rfl rfl ?_
    refine z_iload_n 1 dX12_settles_110 rfl rfl rfl ?_
    refine z_bipush dX12_settles_111 rfl rfl ?_
    refine z_imul dX12_settles_113 rfl ?_
    refine z_iload_n 2 dX12_settles_114 rfl rfl rfl ?_
    refine z_iadd dX12_settles_115 rfl ?_
    refine z_aload_n 0 dX12_settles_116 rfl rfl (Nat.le_of_ble_eq_true rfl) rfl ?_
    refine z_getF 12 13 (x := 492) fX12_91 rfl dX12_settles_117 rfl rfl ?_
    refine z_iload_n 2 dX12_settles_120 rfl rfl rfl ?_
    obtain ⟨i9, k⟩ := k
    refine z_iald (x := (h 492 l2)) dX12_settles_121 (by rw [zl_492]; exact i9) (by simp [zup]) rfl ?_
    obtain ⟨i9, k⟩ := k
    refine z_iast dX12_settles_122 (by rw [zl_501]; exact i9) rfl ?_
    refine z_iinc dX12_settles_123 rfl (Nat.le_of_ble_eq_true rfl) (L' := [some (vr 12 466), some (vi l1), some (vi (l2 + 1))]) rfl rfl ?_
    refine z_goto (tgt := 81) dX12_settles_126 rfl ?_
    exact z_sub (L' := [some (vr 12 466), some (vi l1), some (vi (l2 + 1))]) (And.intro rfl (And.intro rfl (And.intro rfl trivial))) k
theorem eX12_settles {G : zG} {d : Nat} {K : Bool → zH → Prop} {l1 : Int} {h : zH} (k : tX12_settles_0 G d K l1 h) : zCb G (d + 1) mX12_settles [vr 12 466, vi l1] h K := z_entry (by decide +kernel) (Nat.le_of_ble_eq_true rfl) rfl k
def tX12_settlesEdge_0 (G : zG) (d : Nat) (K : zH → Prop) (l1 : Int) (l2 : Int) (h : zH) : Prop := zTv G (d + 1) mX12_settlesEdge K 0 [some (vr 12 466), some (vi l1), some (vi l2), none, none, none] [] h
def tX12_settlesEdge_54 (G : zG) (d : Nat) (K : zH → Prop) (l1 : Int) (l2 : Int) (l3 : Int) (l4 : Int) (h : zH) : Prop := zTv G (d + 1) mX12_settlesEdge K 54 [some (vr 12 466), some (vi l1), some (vi l2), some (vi l3), some (vi l4), none] [] h
def tX12_settlesEdge_81 (G : zG) (d : Nat) (K : zH → Prop) (l1 : Int) (l2 : Int) (l3 : Int) (l4 : Int) (l5 : Int) (h : zH) : Prop := zTv G (d + 1) mX12_settlesEdge K 81 [some (vr 12 466), some (vi l1), some (vi l2), some (vi l3), some (vi l4), some (vi l5)] [] h
theorem bX12_settlesEdge_0 {G : zG} {d : Nat} {K : zH → Prop} {l1 : Int} {l2 : Int} {h : zH} (k : ((0 : Int) ≤ l2 ∧ l2 < 160) ∧ ((0 : Int) ≤ ((l1 * 160) + l2) ∧ ((l1 * 160) + l2) < 2240) ∧ ((0 : Int) ≤ l2 ∧ l2 < 160) ∧ ((0 : Int) ≤ ((l1 * 160) + l2) ∧ ((l1 * 160) + l2) < 2240) ∧ ((0 : Int) ≤ ((l1 * 160) + l2) ∧ ((l1 * 160) + l2) < 2240) ∧ ((0 : Int) ≤ ((l1 * 160) + l2) ∧ ((l1 * 160) + l2) < 2240) ∧ ((0 : Int) ≤ l2 ∧ l2 < 161) ∧ tX12_settlesEdge_54 G d K l1 l2 ((l1 * 160) + l2) (h 488 l2) (zup (zup (zup (zup h 498 ((l1 * 160) + l2) (h 486 l2)) 499 ((l1 * 160) + l2) (h 487 l2)) 503 ((l1 * 160) + l2) 0) 504 ((l1 * 160) + l2) 0)) : tX12_settlesEdge_0 G d K l1 l2 h := by
  unfold tX12_settlesEdge_0
  refine z_iload_n 1 dX12_settlesEdge_0 rfl rfl rfl ?_
  refine z_sipush dX12_settlesEdge_1 rfl rfl ?_
  refine z_imul dX12_settlesEdge_4 rfl ?_
  refine z_iload_n 2 dX12_settlesEdge_5 rfl rfl rfl ?_
  refine z_iadd dX12_settlesEdge_6 rfl ?_
  refine z_istore_n 3 dX12_settlesEdge_7 rfl (Nat.le_of_ble_eq_true rfl) (L' := [some (vr 12 466), some (vi l1), some (vi l2), some (vi ((l1 * 160) + l2)), none, none]) rfl rfl ?_
  refine z_aload_n 0 dX12_settlesEdge_8 rfl rfl (Nat.le_of_ble_eq_true rfl) rfl ?_
  refine z_getF 12 13 (x := 498) fX12_109 rfl dX12_settlesEdge_9 rfl rfl ?_
  refine z_iload_n 3 dX12_settlesEdge_12 rfl rfl rfl ?_
  refine z_aload_n 0 dX12_settlesEdge_13 rfl rfl (Nat.le_of_ble_eq_true rfl) rfl ?_
  refine z_getF 12 13 (x := 486) fX12_73 rfl dX12_settlesEdge_14 rfl rfl ?_
  refine z_iload_n 2 dX12_settlesEdge_17 rfl rfl rfl ?_
  obtain ⟨i9, k⟩ := k
  refine z_iald (x := (h 486 l2)) dX12_settlesEdge_18 (by rw [zl_486]; exact i9) rfl rfl ?_
  obtain ⟨i9, k⟩ := k
  refine z_iast dX12_settlesEdge_19 (by rw [zl_498]; exact i9) rfl ?_
  refine z_aload_n 0 dX12_settlesEdge_20 rfl rfl (Nat.le_of_ble_eq_true rfl) rfl ?_
  refine z_getF 12 13 (x := 499) fX12_112 rfl dX12_settlesEdge_21 rfl rfl ?_
  refine z_iload_n 3 dX12_settlesEdge_24 rfl rfl rfl ?_
  refine z_aload_n 0 dX12_settlesEdge_25 rfl rfl (Nat.le_of_ble_eq_true rfl) rfl ?_
  refine z_getF 12 13 (x := 487) fX12_76 rfl dX12_settlesEdge_26 rfl rfl ?_
  refine z_iload_n 2 dX12_settlesEdge_29 rfl rfl rfl ?_
  obtain ⟨i9, k⟩ := k
  refine z_iald (x := (h 487 l2)) dX12_settlesEdge_30 (by rw [zl_487]; exact i9) (by simp [zup]) rfl ?_
  obtain ⟨i9, k⟩ := k
  refine z_iast dX12_settlesEdge_31 (by rw [zl_499]; exact i9) rfl ?_
  refine z_aload_n 0 dX12_settlesEdge_32 rfl rfl (Nat.le_of_ble_eq_true rfl) rfl ?_
  refine z_getF 12 14 (x := 503) fX12_124 rfl dX12_settlesEdge_33 rfl rfl ?_
  refine z_iload_n 3 dX12_settlesEdge_36 rfl rfl rfl ?_
  refine z_lconst (x := 0) dX12_settlesEdge_37 rfl rfl ?_
  obtain ⟨i9, k⟩ := k
  refine z_last dX12_settlesEdge_38 (by rw [zl_503]; exact i9) rfl ?_
  refine z_aload_n 0 dX12_settlesEdge_39 rfl rfl (Nat.le_of_ble_eq_true rfl) rfl ?_
  refine z_getF 12 14 (x := 504) fX12_127 rfl dX12_settlesEdge_40 rfl rfl ?_
  refine z_iload_n 3 dX12_settlesEdge_43 rfl rfl rfl ?_
  refine z_lconst (x := 0) dX12_settlesEdge_44 rfl rfl ?_
  obtain ⟨i9, k⟩ := k
  refine z_last dX12_settlesEdge_45 (by rw [zl_504]; exact i9) rfl ?_
  refine z_aload_n 0 dX12_settlesEdge_46 rfl rfl (Nat.le_of_ble_eq_true rfl) rfl ?_
  refine z_getF 12 13 (x := 488) fX12_79 rfl dX12_settlesEdge_47 rfl rfl ?_
  refine z_iload_n 2 dX12_settlesEdge_50 rfl rfl rfl ?_
  obtain ⟨i9, k⟩ := k
  refine z_iald (x := (h 488 l2)) dX12_settlesEdge_51 (by rw [zl_488]; exact i9) (by simp [zup]) rfl ?_
  refine z_istore dX12_settlesEdge_52 (Nat.le_of_ble_eq_true rfl) (L' := [some (vr 12 466), some (vi l1), some (vi l2), some (vi ((l1 * 160) + l2)), some (vi (h 488 l2)), none]) rfl rfl ?_
  exact z_sub (L' := [some (vr 12 466), some (vi l1), some (vi l2), some (vi ((l1 * 160) + l2)), some (vi (h 488 l2)), none]) (And.intro rfl (And.intro rfl (And.intro rfl (And.intro rfl (And.intro rfl trivial))))) k
theorem bX12_settlesEdge_54 {G : zG} {d : Nat} {K : zH → Prop} {l1 : Int} {l2 : Int} {l3 : Int} {l4 : Int} {h : zH} (k : ((0 : Int) ≤ (l2 + 1) ∧ (l2 + 1) < 161) ∧ zR l4 ∧ zR (h 488 (l2 + 1)) ∧ ((h 488 (l2 + 1)) ≤ l4 → K h) ∧ (¬ (h 488 (l2 + 1)) ≤ l4 → ((0 : Int) ≤ l4 ∧ l4 < 14000) ∧ zCi G d mX12_blockAt [vr 12 466, vi l1, vi (h 489 l4)] h (fun x1 h2 => tX12_settlesEdge_81 G d K l1 l2 l3 l4 x1 h2))) : tX12_settlesEdge_54 G d K l1 l2 l3 l4 h := by
  unfold tX12_settlesEdge_54
  refine z_iload dX12_settlesEdge_54 rfl rfl ?_
  refine z_aload_n 0 dX12_settlesEdge_56 rfl rfl (Nat.le_of_ble_eq_true rfl) rfl ?_
  refine z_getF 12 13 (x := 488) fX12_79 rfl dX12_settlesEdge_57 rfl rfl ?_
  refine z_iload_n 2 dX12_settlesEdge_60 rfl rfl rfl ?_
  refine z_iconst dX12_settlesEdge_61 rfl ?_
  refine z_iadd dX12_settlesEdge_62 rfl ?_
  obtain ⟨i9, k⟩ := k
  refine z_iald (x := (h 488 (l2 + 1))) dX12_settlesEdge_63 (by rw [zl_488]; exact i9) rfl rfl ?_
  obtain ⟨r1, r2, ka, kb⟩ := k
  refine z_icmp_ge (tgt := 166) dX12_settlesEdge_64 rfl r1 r2 rfl ⟨fun q => ?_, fun q => ?_⟩
  · have k := ka q
    exact z_return rfl dX12_settlesEdge_166 ⟨rfl, k⟩
  · have k := kb q
    refine z_aload_n 0 dX12_settlesEdge_67 rfl rfl (Nat.le_of_ble_eq_true rfl) rfl ?_
    refine z_iload_n 1 dX12_settlesEdge_68 rfl rfl rfl ?_
    refine z_aload_n 0 dX12_settlesEdge_69 rfl rfl (Nat.le_of_ble_eq_true rfl) rfl ?_
    refine z_getF 12 13 (x := 489) fX12_82 rfl dX12_settlesEdge_70 rfl rfl ?_
    refine z_iload dX12_settlesEdge_73 rfl rfl ?_
    obtain ⟨i9, k⟩ := k
    refine z_iald (x := (h 489 l4)) dX12_settlesEdge_75 (by rw [zl_489]; exact i9) rfl rfl ?_
    refine z_callVi vX12_blockAt kX12_524 dX12_settlesEdge_76 rfl (zRo_d d) (as := [vi l1, vi (h 489 l4)]) (rest := []) (Nat.le_of_ble_eq_true rfl) rfl rfl (zCi_mono (fun x1 h2 k => ?_) k)
    refine z_istore dX12_settlesEdge_79 (Nat.le_of_ble_eq_true rfl) (L' := [some (vr 12 466), some (vi l1), some (vi l2), some (vi l3), some (vi l4), some (vi x1)]) rfl rfl ?_
    exact z_sub (L' := [some (vr 12 466), some (vi l1), some (vi l2), some (vi l3), some (vi l4), some (vi x1)]) (And.intro rfl (And.intro rfl (And.intro rfl (And.intro rfl (And.intro rfl (And.intro rfl trivial)))))) k
theorem bX12_settlesEdge_81 {G : zG} {d : Nat} {K : zH → Prop} {l1 : Int} {l2 : Int} {l3 : Int} {l4 : Int} {l5 : Int} {h : zH} (k : ((0 : Int) ≤ l1 ∧ l1 < 14) ∧ zR l5 ∧ zR (h 496 l1) ∧ ((h 496 l1) ≤ l5 → tX12_settlesEdge_54 G d K l1 l2 l3 (l4 + 1) h) ∧ (¬ (h 496 l1) ≤ l5 → ((0 : Int) ≤ ((l1 * 128) + l5) ∧ ((l1 * 128) + l5) < 1792) ∧ ((0 : Int) ≤ l4 ∧ l4 < 14000) ∧ zR (h 497 ((l1 * 128) + l5)) ∧ zR (h 490 l4) ∧ ((h 490 l4) < (h 497 ((l1 * 128) + l5)) → tX12_settlesEdge_54 G d K l1 l2 l3 (l4 + 1) h) ∧ (¬ (h 490 l4) < (h 497 ((l1 * 128) + l5)) → zR l5 ∧ (64 ≤ l5 → ((0 : Int) ≤ l3 ∧ l3 < 2240) ∧ ((0 : Int) ≤ l3 ∧ l3 < 2240) ∧ tX12_settlesEdge_81 G d K l1 l2 l3 l4 (l5 + 1) (zup h 504 l3 (zlor (h 504 l3) (zlshl 1 (l5 - 64))))) ∧ (¬ 64 ≤ l5 → ((0 : Int) ≤ l3 ∧ l3 < 2240) ∧ ((0 : Int) ≤ l3 ∧ l3 < 2240) ∧ tX12_settlesEdge_81 G d K l1 l2 l3 l4 (l5 + 1) (zup h 503 l3 (zlor (h 503 l3) (zlshl 1 l5))))))) : tX12_settlesEdge_81 G d K l1 l2 l3 l4 l5 h := by
  unfold tX12_settlesEdge_81
  refine z_iload dX12_settlesEdge_81 rfl rfl ?_
  refine z_aload_n 0 dX12_settlesEdge_83 rfl rfl (Nat.le_of_ble_eq_true rfl) rfl ?_
  refine z_getF 12 13 (x := 496) fX12_103 rfl dX12_settlesEdge_84 rfl rfl ?_
  refine z_iload_n 1 dX12_settlesEdge_87 rfl rfl rfl ?_
  obtain ⟨i9, k⟩ := k
  refine z_iald (x := (h 496 l1)) dX12_settlesEdge_88 (by rw [zl_496]; exact i9) rfl rfl ?_
  obtain ⟨r1, r2, ka, kb⟩ := k
  refine z_icmp_ge (tgt := 160) dX12_settlesEdge_89 rfl r1 r2 rfl ⟨fun q => ?_, fun q => ?_⟩
  · have k := ka q
    refine z_iinc dX12_settlesEdge_160 rfl (Nat.le_of_ble_eq_true rfl) (L' := [some (vr 12 466), some (vi l1), some (vi l2), some (vi l3), some (vi (l4 + 1)), some (vi l5)]) rfl rfl ?_
    refine z_goto (tgt := 54) dX12_settlesEdge_163 rfl ?_
    exact z_sub (L' := [some (vr 12 466), some (vi l1), some (vi l2), some (vi l3), some (vi (l4 + 1)), none]) (And.intro rfl (And.intro rfl (And.intro rfl (And.intro rfl (And.intro rfl trivial))))) k
  · have k := kb q
    refine z_aload_n 0 dX12_settlesEdge_92 rfl rfl (Nat.le_of_ble_eq_true rfl) rfl ?_
    refine z_getF 12 13 (x := 497) fX12_106 rfl dX12_settlesEdge_93 rfl rfl ?_
    refine z_iload_n 1 dX12_settlesEdge_96 rfl rfl rfl ?_
    refine z_sipush dX12_settlesEdge_97 rfl rfl ?_
    refine z_imul dX12_settlesEdge_100 rfl ?_
    refine z_iload dX12_settlesEdge_101 rfl rfl ?_
    refine z_iadd dX12_settlesEdge_103 rfl ?_
    obtain ⟨i9, k⟩ := k
    refine z_iald (x := (h 497 ((l1 * 128) + l5))) dX12_settlesEdge_104 (by rw [zl_497]; exact i9) rfl rfl ?_
    refine z_aload_n 0 dX12_settlesEdge_105 rfl rfl (Nat.le_of_ble_eq_true rfl) rfl ?_
    refine z_getF 12 13 (x := 490) fX12_85 rfl dX12_settlesEdge_106 rfl rfl ?_
    refine z_iload dX12_settlesEdge_109 rfl rfl ?_
    obtain ⟨i9, k⟩ := k
    refine z_iald (x := (h 490 l4)) dX12_settlesEdge_111 (by rw [zl_490]; exact i9) rfl rfl ?_
    obtain ⟨r1, r2, ka, kb⟩ := k
    refine z_icmp_gt (tgt := 160) dX12_settlesEdge_112 rfl r1 r2 rfl ⟨fun q => ?_, fun q => ?_⟩
    · have k := ka q
      refine z_iinc dX12_settlesEdge_160 rfl (Nat.le_of_ble_eq_true rfl) (L' := [some (vr 12 466), some (vi l1), some (vi l2), some (vi l3), some (vi (l4 + 1)), some (vi l5)]) rfl rfl ?_
      refine z_goto (tgt := 54) dX12_settlesEdge_163 rfl ?_
      exact z_sub (L' := [some (vr 12 466), some (vi l1), some (vi l2), some (vi l3), some (vi (l4 + 1)), none]) (And.intro rfl (And.intro rfl (And.intro rfl (And.intro rfl (And.intro rfl trivial))))) k
    · have k := kb q
      refine z_iload dX12_settlesEdge_115 rfl rfl ?_
      refine z_bipush dX12_settlesEdge_117 rfl rfl ?_
      obtain ⟨r1, ka, kb⟩ := k
      refine z_icmp_ge (tgt := 138) dX12_settlesEdge_119 rfl r1 ⟨by decide, by decide⟩ rfl ⟨fun q => ?_, fun q => ?_⟩
      · have k := ka q
        refine z_aload_n 0 dX12_settlesEdge_138 rfl rfl (Nat.le_of_ble_eq_true rfl) rfl ?_
        refine z_getF 12 14 (x := 504) fX12_127 rfl dX12_settlesEdge_139 rfl rfl ?_
        refine z_iload_n 3 dX12_settlesEdge_142 rfl rfl rfl ?_
        refine z_dup2 dX12_settlesEdge_143 (fun q => by cases q) (fun q => by cases q) rfl ?_
        obtain ⟨i9, k⟩ := k
        refine z_lald (x := (h 504 l3)) dX12_settlesEdge_144 (by rw [zl_504]; exact i9) rfl rfl ?_
        refine z_lconst (x := 1) dX12_settlesEdge_145 rfl rfl ?_
        refine z_iload dX12_settlesEdge_146 rfl rfl ?_
        refine z_bipush dX12_settlesEdge_148 rfl rfl ?_
        refine z_isub dX12_settlesEdge_150 rfl ?_
        refine z_lshl dX12_settlesEdge_151 rfl ?_
        refine z_lor dX12_settlesEdge_152 rfl ?_
        obtain ⟨i9, k⟩ := k
        refine z_last dX12_settlesEdge_153 (by rw [zl_504]; exact i9) rfl ?_
        refine z_iinc dX12_settlesEdge_154 rfl (Nat.le_of_ble_eq_true rfl) (L' := [some (vr 12 466), some (vi l1), some (vi l2), some (vi l3), some (vi l4), some (vi (l5 + 1))]) rfl rfl ?_
        refine z_goto (tgt := 81) dX12_settlesEdge_157 rfl ?_
        exact z_sub (L' := [some (vr 12 466), some (vi l1), some (vi l2), some (vi l3), some (vi l4), some (vi (l5 + 1))]) (And.intro rfl (And.intro rfl (And.intro rfl (And.intro rfl (And.intro rfl (And.intro rfl trivial)))))) k
      · have k := kb q
        refine z_aload_n 0 dX12_settlesEdge_122 rfl rfl (Nat.le_of_ble_eq_true rfl) rfl ?_
        refine z_getF 12 14 (x := 503) fX12_124 rfl dX12_settlesEdge_123 rfl rfl ?_
        refine z_iload_n 3 dX12_settlesEdge_126 rfl rfl rfl ?_
        refine z_dup2 dX12_settlesEdge_127 (fun q => by cases q) (fun q => by cases q) rfl ?_
        obtain ⟨i9, k⟩ := k
        refine z_lald (x := (h 503 l3)) dX12_settlesEdge_128 (by rw [zl_503]; exact i9) rfl rfl ?_
        refine z_lconst (x := 1) dX12_settlesEdge_129 rfl rfl ?_
        refine z_iload dX12_settlesEdge_130 rfl rfl ?_
        refine z_lshl dX12_settlesEdge_132 rfl ?_
        refine z_lor dX12_settlesEdge_133 rfl ?_
        obtain ⟨i9, k⟩ := k
        refine z_last dX12_settlesEdge_134 (by rw [zl_503]; exact i9) rfl ?_
        refine z_goto (tgt := 154) dX12_settlesEdge_135 rfl ?_
        refine z_iinc dX12_settlesEdge_154 rfl (Nat.le_of_ble_eq_true rfl) (L' := [some (vr 12 466), some (vi l1), some (vi l2), some (vi l3), some (vi l4), some (vi (l5 + 1))]) rfl rfl ?_
        refine z_goto (tgt := 81) dX12_settlesEdge_157 rfl ?_
        exact z_sub (L' := [some (vr 12 466), some (vi l1), some (vi l2), some (vi l3), some (vi l4), some (vi (l5 + 1))]) (And.intro rfl (And.intro rfl (And.intro rfl (And.intro rfl (And.intro rfl (And.intro rfl trivial)))))) k
theorem eX12_settlesEdge {G : zG} {d : Nat} {K : zH → Prop} {l1 : Int} {l2 : Int} {h : zH} (k : tX12_settlesEdge_0 G d K l1 l2 h) : zCv G (d + 1) mX12_settlesEdge [vr 12 466, vi l1, vi l2] h K := z_entry (by decide +kernel) (Nat.le_of_ble_eq_true rfl) rfl k
def tX12_blockAt_0 (G : zG) (d : Nat) (K : Int → zH → Prop) (l1 : Int) (l2 : Int) (h : zH) : Prop := zTi G d mX12_blockAt K 0 [some (vr 12 466), some (vi l1), some (vi l2), none] [] h
def tX12_blockAt_9 (G : zG) (d : Nat) (K : Int → zH → Prop) (l1 : Int) (l2 : Int) (l3 : Int) (h : zH) : Prop := zTi G d mX12_blockAt K 9 [some (vr 12 466), some (vi l1), some (vi l2), some (vi l3)] [] h
theorem bX12_blockAt_0 {G : zG} {d : Nat} {K : Int → zH → Prop} {l1 : Int} {l2 : Int} {h : zH} (k : ((0 : Int) ≤ l1 ∧ l1 < 14) ∧ tX12_blockAt_9 G d K l1 l2 ((h 496 l1) - 1) h) : tX12_blockAt_0 G d K l1 l2 h := by
  unfold tX12_blockAt_0
  refine z_aload_n 0 dX12_blockAt_0 rfl rfl (Nat.le_of_ble_eq_true rfl) rfl ?_
  refine z_getF 12 13 (x := 496) fX12_103 rfl dX12_blockAt_1 rfl rfl ?_
  refine z_iload_n 1 dX12_blockAt_4 rfl rfl rfl ?_
  obtain ⟨i9, k⟩ := k
  refine z_iald (x := (h 496 l1)) dX12_blockAt_5 (by rw [zl_496]; exact i9) rfl rfl ?_
  refine z_iconst dX12_blockAt_6 rfl ?_
  refine z_isub dX12_blockAt_7 rfl ?_
  refine z_istore_n 3 dX12_blockAt_8 rfl (Nat.le_of_ble_eq_true rfl) (L' := [some (vr 12 466), some (vi l1), some (vi l2), some (vi ((h 496 l1) - 1))]) rfl rfl ?_
  exact z_sub (L' := [some (vr 12 466), some (vi l1), some (vi l2), some (vi ((h 496 l1) - 1))]) (And.intro rfl (And.intro rfl (And.intro rfl (And.intro rfl trivial)))) k
theorem bX12_blockAt_9 {G : zG} {d : Nat} {K : Int → zH → Prop} {l1 : Int} {l2 : Int} {l3 : Int} {h : zH} (k : ((0 : Int) ≤ ((l1 * 128) + l3) ∧ ((l1 * 128) + l3) < 1792) ∧ zR (h 497 ((l1 * 128) + l3)) ∧ zR l2 ∧ ((h 497 ((l1 * 128) + l3)) ≤ l2 → K l3 h) ∧ (¬ (h 497 ((l1 * 128) + l3)) ≤ l2 → tX12_blockAt_9 G d K l1 l2 (l3 + (-1)) h)) : tX12_blockAt_9 G d K l1 l2 l3 h := by
  unfold tX12_blockAt_9
  refine z_aload_n 0 dX12_blockAt_9 rfl rfl (Nat.le_of_ble_eq_true rfl) rfl ?_
  refine z_getF 12 13 (x := 497) fX12_106 rfl dX12_blockAt_10 rfl rfl ?_
  refine z_iload_n 1 dX12_blockAt_13 rfl rfl rfl ?_
  refine z_sipush dX12_blockAt_14 rfl rfl ?_
  refine z_imul dX12_blockAt_17 rfl ?_
  refine z_iload_n 3 dX12_blockAt_18 rfl rfl rfl ?_
  refine z_iadd dX12_blockAt_19 rfl ?_
  obtain ⟨i9, k⟩ := k
  refine z_iald (x := (h 497 ((l1 * 128) + l3))) dX12_blockAt_20 (by rw [zl_497]; exact i9) rfl rfl ?_
  refine z_iload_n 2 dX12_blockAt_21 rfl rfl rfl ?_
  obtain ⟨r1, r2, ka, kb⟩ := k
  refine z_icmp_le (tgt := 31) dX12_blockAt_22 rfl r1 r2 rfl ⟨fun q => ?_, fun q => ?_⟩
  · have k := ka q
    refine z_iload_n 3 dX12_blockAt_31 rfl rfl rfl ?_
    exact z_ireturn rfl dX12_blockAt_32 ⟨_, rfl, k⟩
  · have k := kb q
    refine z_iinc dX12_blockAt_25 rfl (Nat.le_of_ble_eq_true rfl) (L' := [some (vr 12 466), some (vi l1), some (vi l2), some (vi (l3 + (-1)))]) rfl rfl ?_
    refine z_goto (tgt := 9) dX12_blockAt_28 rfl ?_
    exact z_sub (L' := [some (vr 12 466), some (vi l1), some (vi l2), some (vi (l3 + (-1)))]) (And.intro rfl (And.intro rfl (And.intro rfl (And.intro rfl trivial)))) k
theorem eX12_blockAt {G : zG} {d : Nat} {K : Int → zH → Prop} {l1 : Int} {l2 : Int} {h : zH} (k : tX12_blockAt_0 G d K l1 l2 h) : zCi G d mX12_blockAt [vr 12 466, vi l1, vi l2] h K := z_entry (by decide +kernel) (Nat.le_of_ble_eq_true rfl) rfl k
def tX12_blockEnd_0 (G : zG) (d : Nat) (K : Int → zH → Prop) (l1 : Int) (l2 : Int) (h : zH) : Prop := zTi G d mX12_blockEnd K 0 [some (vr 12 466), some (vi l1), some (vi l2)] [] h
theorem bX12_blockEnd_0 {G : zG} {d : Nat} {K : Int → zH → Prop} {l1 : Int} {l2 : Int} {h : zH} (k : ((0 : Int) ≤ l1 ∧ l1 < 14) ∧ zR (l2 + 1) ∧ zR (h 496 l1) ∧ ((h 496 l1) ≤ (l2 + 1) → K 65536 h) ∧ (¬ (h 496 l1) ≤ (l2 + 1) → ((0 : Int) ≤ (((l1 * 128) + l2) + 1) ∧ (((l1 * 128) + l2) + 1) < 1792) ∧ K (h 497 (((l1 * 128) + l2) + 1)) h)) : tX12_blockEnd_0 G d K l1 l2 h := by
  unfold tX12_blockEnd_0
  refine z_iload_n 2 dX12_blockEnd_0 rfl rfl rfl ?_
  refine z_iconst dX12_blockEnd_1 rfl ?_
  refine z_iadd dX12_blockEnd_2 rfl ?_
  refine z_aload_n 0 dX12_blockEnd_3 rfl rfl (Nat.le_of_ble_eq_true rfl) rfl ?_
  refine z_getF 12 13 (x := 496) fX12_103 rfl dX12_blockEnd_4 rfl rfl ?_
  refine z_iload_n 1 dX12_blockEnd_7 rfl rfl rfl ?_
  obtain ⟨i9, k⟩ := k
  refine z_iald (x := (h 496 l1)) dX12_blockEnd_8 (by rw [zl_496]; exact i9) rfl rfl ?_
  obtain ⟨r1, r2, ka, kb⟩ := k
  refine z_icmp_ge (tgt := 29) dX12_blockEnd_9 rfl r1 r2 rfl ⟨fun q => ?_, fun q => ?_⟩
  · have k := ka q
    refine z_ldcw (x := 65536) cX12_373 rfl dX12_blockEnd_29 rfl ?_
    exact z_ireturn rfl dX12_blockEnd_32 ⟨_, rfl, k⟩
  · have k := kb q
    refine z_aload_n 0 dX12_blockEnd_12 rfl rfl (Nat.le_of_ble_eq_true rfl) rfl ?_
    refine z_getF 12 13 (x := 497) fX12_106 rfl dX12_blockEnd_13 rfl rfl ?_
    refine z_iload_n 1 dX12_blockEnd_16 rfl rfl rfl ?_
    refine z_sipush dX12_blockEnd_17 rfl rfl ?_
    refine z_imul dX12_blockEnd_20 rfl ?_
    refine z_iload_n 2 dX12_blockEnd_21 rfl rfl rfl ?_
    refine z_iadd dX12_blockEnd_22 rfl ?_
    refine z_iconst dX12_blockEnd_23 rfl ?_
    refine z_iadd dX12_blockEnd_24 rfl ?_
    obtain ⟨i9, k⟩ := k
    refine z_iald (x := (h 497 (((l1 * 128) + l2) + 1))) dX12_blockEnd_25 (by rw [zl_497]; exact i9) rfl rfl ?_
    refine z_goto (tgt := 32) dX12_blockEnd_26 rfl ?_
    exact z_ireturn rfl dX12_blockEnd_32 ⟨_, rfl, k⟩
theorem eX12_blockEnd {G : zG} {d : Nat} {K : Int → zH → Prop} {l1 : Int} {l2 : Int} {h : zH} (k : tX12_blockEnd_0 G d K l1 l2 h) : zCi G d mX12_blockEnd [vr 12 466, vi l1, vi l2] h K := z_entry (by decide +kernel) (Nat.le_of_ble_eq_true rfl) rfl k
