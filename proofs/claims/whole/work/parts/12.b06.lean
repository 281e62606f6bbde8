def tX11_sheaf_0 (G : zG) (d : Nat) (K : Int → zH → Prop) (l1 : Int) (l2 : Int) (h : zH) : Prop := zTl G (d + 1) mX11_sheaf K 0 [some (vr 11 0), some (vi l1), some (vi l2)] [] h
theorem bX11_sheaf_0 {G : zG} {d : Nat} {K : Int → zH → Prop} {l1 : Int} {l2 : Int} {h : zH} (k : zCb G d mX11_isMachine [vr 11 0, vi l1] h (fun x1 h2 => (x1 = false → zCi G d mX11_refused [vr 11 0, vi 1] h2 (fun x3 h4 => zR x3 ∧ K x3 h4)) ∧ (x1 = true → ((0 : Int) ≤ l1 ∧ l1 < 10) ∧ zCb G d mX11_isIn [vi l2, vi (h2 ((h2 3 l1) + 7) 0)] h2 (fun x6 h7 => (x6 = true → ((0 : Int) ≤ l1 ∧ l1 < 10) ∧ ((0 : Int) ≤ l2 ∧ l2 < 40) ∧ zCl G d mX11_grantedLong [vr 11 0, vl (h7 ((h7 3 l1) + 8) l2)] h7 (fun x9 h10 => K x9 h10)) ∧ (x6 = false → zCi G d mX11_refused [vr 11 0, vi 1] h7 (fun x11 h12 => zR x11 ∧ K x11 h12)))))) : tX11_sheaf_0 G d K l1 l2 h := by
  unfold tX11_sheaf_0
  refine z_aload_n 0 dX11_sheaf_0 rfl rfl (Nat.le_of_ble_eq_true rfl) rfl ?_
  refine z_iload_n 1 dX11_sheaf_1 rfl rfl rfl ?_
  refine z_callVb vX11_isMachine kX11_152 dX11_sheaf_2 rfl (zRo_d d) (as := [vi l1]) (rest := []) (Nat.le_of_ble_eq_true rfl) rfl rfl (zCb_mono (fun x1 h2 k => ?_) k)
  obtain ⟨ka, kb⟩ := k
  refine z_ifb_eq (tgt := 27) dX11_sheaf_5 rfl rfl ⟨fun q => ?_, fun q => ?_⟩
  · have k := ka q
    refine z_aload_n 0 dX11_sheaf_27 rfl rfl (Nat.le_of_ble_eq_true rfl) rfl ?_
    refine z_iconst dX11_sheaf_28 rfl ?_
    refine z_callVi vX11_refused kX11_84 dX11_sheaf_29 rfl (zRo_d d) (as := [vi 1]) (rest := []) (Nat.le_of_ble_eq_true rfl) rfl rfl (zCi_mono (fun x3 h4 k => ?_) k)
    obtain ⟨r9, k⟩ := k
    refine z_i2l dX11_sheaf_32 r9 rfl ?_
    exact z_lreturn rfl dX11_sheaf_33 ⟨_, rfl, k⟩
  · have k := kb q
    refine z_iload_n 2 dX11_sheaf_8 rfl rfl rfl ?_
    refine z_aload_n 0 dX11_sheaf_9 rfl rfl (Nat.le_of_ble_eq_true rfl) rfl ?_
    refine z_getF 11 17 (x := 3) fX11_19 rfl dX11_sheaf_10 rfl rfl ?_
    refine z_iload_n 1 dX11_sheaf_13 rfl rfl rfl ?_
    obtain ⟨i9, k⟩ := k
    refine z_aald17 (x := (h2 3 l1)) dX11_sheaf_14 (by rw [zl_3]; exact i9) rfl rfl ?_
    refine z_w (fun w5 => ?_)
    refine z_getF 4 7 (x := ((h2 3 l1) + 7)) fX11_200 rfl dX11_sheaf_15 (by omega) rfl ?_
    refine z_getI 7 (x := (h2 ((h2 3 l1) + 7) 0)) fX11_204 rfl dX11_sheaf_18 rfl rfl ?_
    refine z_callSb sX11_isIn kX11_133 dX11_sheaf_21 rfl (zRo_d d) (as := [vi l2, vi (h2 ((h2 3 l1) + 7) 0)]) (rest := []) (Nat.le_of_ble_eq_true rfl) rfl rfl (zCb_mono (fun x6 h7 k => ?_) k)
    obtain ⟨ka, kb⟩ := k
    refine z_ifb_ne (tgt := 34) dX11_sheaf_24 rfl rfl ⟨fun q => ?_, fun q => ?_⟩
    · have k := ka q
      refine z_aload_n 0 dX11_sheaf_34 rfl rfl (Nat.le_of_ble_eq_true rfl) rfl ?_
      refine z_aload_n 0 dX11_sheaf_35 rfl rfl (Nat.le_of_ble_eq_true rfl) rfl ?_
      refine z_getF 11 17 (x := 3) fX11_19 rfl dX11_sheaf_36 rfl rfl ?_
      refine z_iload_n 1 dX11_sheaf_39 rfl rfl rfl ?_
      obtain ⟨i9, k⟩ := k
      refine z_aald17 (x := (h7 3 l1)) dX11_sheaf_40 (by rw [zl_3]; exact i9) rfl rfl ?_
      refine z_w (fun w8 => ?_)
      refine z_getF 4 7 (x := ((h7 3 l1) + 7)) fX11_200 rfl dX11_sheaf_41 (by omega) rfl ?_
      refine z_getF 7 14 (x := ((h7 3 l1) + 8)) fX11_209 rfl dX11_sheaf_44 (by omega) rfl ?_
      refine z_iload_n 2 dX11_sheaf_47 rfl rfl rfl ?_
      obtain ⟨i9, k⟩ := k
      refine z_lald (x := (h7 ((h7 3 l1) + 8) l2)) dX11_sheaf_48 (by rw [zl4_8 w8]; exact i9) rfl rfl ?_
      refine z_callVl vX11_grantedLong kX11_190 dX11_sheaf_49 rfl (zRo_d d) (as := [vl (h7 ((h7 3 l1) + 8) l2)]) (rest := []) (Nat.le_of_ble_eq_true rfl) rfl rfl (zCl_mono (fun x9 h10 k => ?_) k)
      exact z_lreturn rfl dX11_sheaf_52 ⟨_, rfl, k⟩
    · have k := kb q
      refine z_aload_n 0 dX11_sheaf_27 rfl rfl (Nat.le_of_ble_eq_true rfl) rfl ?_
      refine z_iconst dX11_sheaf_28 rfl ?_
      refine z_callVi vX11_refused kX11_84 dX11_sheaf_29 rfl (zRo_d d) (as := [vi 1]) (rest := []) (Nat.le_of_ble_eq_true rfl) rfl rfl (zCi_mono (fun x11 h12 k => ?_) k)
      obtain ⟨r9, k⟩ := k
      refine z_i2l dX11_sheaf_32 r9 rfl ?_
      exact z_lreturn rfl dX11_sheaf_33 ⟨_, rfl, k⟩
theorem eX11_sheaf {G : zG} {d : Nat} {K : Int → zH → Prop} {l1 : Int} {l2 : Int} {h : zH} (k : tX11_sheaf_0 G d K l1 l2 h) : zCl G (d + 1) mX11_sheaf [vr 11 0, vi l1, vi l2] h K := z_entry (by decide +kernel) (Nat.le_of_ble_eq_true rfl) rfl k
def tX11_useless_0 (G : zG) (d : Nat) (K : Int → zH → Prop) (l1 : Int) (h : zH) : Prop := zTl G (d + 1) mX11_useless K 0 [some (vr 11 0), some (vi l1)] [] h
theorem bX11_useless_0 {G : zG} {d : Nat} {K : Int → zH → Prop} {l1 : Int} {h : zH} (k : zCb G d mX11_isMachine [vr 11 0, vi l1] h (fun x1 h2 => (x1 = true → ((0 : Int) ≤ l1 ∧ l1 < 10) ∧ zCl G d mX4_uselessStates [vr 4 (h2 3 l1)] h2 (fun x4 h5 => zCl G d mX11_grantedLong [vr 11 0, vl x4] h5 (fun x6 h7 => K x6 h7))) ∧ (x1 = false → zCi G d mX11_refused [vr 11 0, vi 1] h2 (fun x8 h9 => zR x8 ∧ K x8 h9)))) : tX11_useless_0 G d K l1 h := by
  unfold tX11_useless_0
  refine z_aload_n 0 dX11_useless_0 rfl rfl (Nat.le_of_ble_eq_true rfl) rfl ?_
  refine z_iload_n 1 dX11_useless_1 rfl rfl rfl ?_
  refine z_callVb vX11_isMachine kX11_152 dX11_useless_2 rfl (zRo_d d) (as := [vi l1]) (rest := []) (Nat.le_of_ble_eq_true rfl) rfl rfl (zCb_mono (fun x1 h2 k => ?_) k)
  obtain ⟨ka, kb⟩ := k
  refine z_ifb_ne (tgt := 15) dX11_useless_5 rfl rfl ⟨fun q => ?_, fun q => ?_⟩
  · have k := ka q
    refine z_aload_n 0 dX11_useless_15 rfl rfl (Nat.le_of_ble_eq_true rfl) rfl ?_
    refine z_aload_n 0 dX11_useless_16 rfl rfl (Nat.le_of_ble_eq_true rfl) rfl ?_
    refine z_getF 11 17 (x := 3) fX11_19 rfl dX11_useless_17 rfl rfl ?_
    refine z_iload_n 1 dX11_useless_20 rfl rfl rfl ?_
    obtain ⟨i9, k⟩ := k
    refine z_aald17 (x := (h2 3 l1)) dX11_useless_21 (by rw [zl_3]; exact i9) rfl rfl ?_
    refine z_w (fun w3 => ?_)
    refine z_callVl vX4_uselessStates kX11_213 dX11_useless_22 rfl (zRo_d d) (as := []) (rest := [vr 11 0]) (Nat.le_of_ble_eq_true rfl) rfl rfl (zCl_mono (fun x4 h5 k => ?_) k)
    refine z_callVl vX11_grantedLong kX11_190 dX11_useless_25 rfl (zRo_d d) (as := [vl x4]) (rest := []) (Nat.le_of_ble_eq_true rfl) rfl rfl (zCl_mono (fun x6 h7 k => ?_) k)
    exact z_lreturn rfl dX11_useless_28 ⟨_, rfl, k⟩
  · have k := kb q
    refine z_aload_n 0 dX11_useless_8 rfl rfl (Nat.le_of_ble_eq_true rfl) rfl ?_
    refine z_iconst dX11_useless_9 rfl ?_
    refine z_callVi vX11_refused kX11_84 dX11_useless_10 rfl (zRo_d d) (as := [vi 1]) (rest := []) (Nat.le_of_ble_eq_true rfl) rfl rfl (zCi_mono (fun x8 h9 k => ?_) k)
    obtain ⟨r9, k⟩ := k
    refine z_i2l dX11_useless_13 r9 rfl ?_
    exact z_lreturn rfl dX11_useless_14 ⟨_, rfl, k⟩
theorem eX11_useless {G : zG} {d : Nat} {K : Int → zH → Prop} {l1 : Int} {h : zH} (k : tX11_useless_0 G d K l1 h) : zCl G (d + 1) mX11_useless [vr 11 0, vi l1] h K := z_entry (by decide +kernel) (Nat.le_of_ble_eq_true rfl) rfl k
def tX11_terms_0 (G : zG) (d : Nat) (K : Int → zH → Prop) (l1 : Int) (l2 : Int) (h : zH) : Prop := zTi G (d + 1) mX11_terms K 0 [some (vr 11 0), some (vi l1), some (vi l2)] [] h
theorem bX11_terms_0 {G : zG} {d : Nat} {K : Int → zH → Prop} {l1 : Int} {l2 : Int} {h : zH} (k : zCb G d mX11_isMachine [vr 11 0, vi l1] h (fun x1 h2 => (x1 = false → zCi G d mX11_refused [vr 11 0, vi 1] h2 (fun x3 h4 => K x3 h4)) ∧ (x1 = true → ((0 : Int) ≤ l1 ∧ l1 < 10) ∧ zCb G d mX11_isIn [vi l2, vi (h2 (h2 3 l1) 7)] h2 (fun x6 h7 => (x6 = true → ((0 : Int) ≤ l1 ∧ l1 < 10) ∧ zCv G d mX5_group [vr 5 244, vr 4 (h7 3 l1), vi l2] h7 (fun h10 => zCi G d mX11_granted [vr 11 0, vi (h10 244 2)] h10 (fun x11 h12 => K x11 h12))) ∧ (x6 = false → zCi G d mX11_refused [vr 11 0, vi 1] h7 (fun x13 h14 => K x13 h14)))))) : tX11_terms_0 G d K l1 l2 h := by
  unfold tX11_terms_0
  refine z_aload_n 0 dX11_terms_0 rfl rfl (Nat.le_of_ble_eq_true rfl) rfl ?_
  refine z_iload_n 1 dX11_terms_1 rfl rfl rfl ?_
  refine z_callVb vX11_isMachine kX11_152 dX11_terms_2 rfl (zRo_d d) (as := [vi l1]) (rest := []) (Nat.le_of_ble_eq_true rfl) rfl rfl (zCb_mono (fun x1 h2 k => ?_) k)
  obtain ⟨ka, kb⟩ := k
  refine z_ifb_eq (tgt := 24) dX11_terms_5 rfl rfl ⟨fun q => ?_, fun q => ?_⟩
  · have k := ka q
    refine z_aload_n 0 dX11_terms_24 rfl rfl (Nat.le_of_ble_eq_true rfl) rfl ?_
    refine z_iconst dX11_terms_25 rfl ?_
    refine z_callVi vX11_refused kX11_84 dX11_terms_26 rfl (zRo_d d) (as := [vi 1]) (rest := []) (Nat.le_of_ble_eq_true rfl) rfl rfl (zCi_mono (fun x3 h4 k => ?_) k)
    exact z_ireturn rfl dX11_terms_29 ⟨_, rfl, k⟩
  · have k := kb q
    refine z_iload_n 2 dX11_terms_8 rfl rfl rfl ?_
    refine z_aload_n 0 dX11_terms_9 rfl rfl (Nat.le_of_ble_eq_true rfl) rfl ?_
    refine z_getF 11 17 (x := 3) fX11_19 rfl dX11_terms_10 rfl rfl ?_
    refine z_iload_n 1 dX11_terms_13 rfl rfl rfl ?_
    obtain ⟨i9, k⟩ := k
    refine z_aald17 (x := (h2 3 l1)) dX11_terms_14 (by rw [zl_3]; exact i9) rfl rfl ?_
    refine z_w (fun w5 => ?_)
    refine z_getI 4 (x := (h2 (h2 3 l1) 7)) fX11_217 rfl dX11_terms_15 rfl rfl ?_
    refine z_callSb sX11_isIn kX11_133 dX11_terms_18 rfl (zRo_d d) (as := [vi l2, vi (h2 (h2 3 l1) 7)]) (rest := []) (Nat.le_of_ble_eq_true rfl) rfl rfl (zCb_mono (fun x6 h7 k => ?_) k)
    obtain ⟨ka, kb⟩ := k
    refine z_ifb_ne (tgt := 30) dX11_terms_21 rfl rfl ⟨fun q => ?_, fun q => ?_⟩
    · have k := ka q
      refine z_aload_n 0 dX11_terms_30 rfl rfl (Nat.le_of_ble_eq_true rfl) rfl ?_
      refine z_getF 11 5 (x := 244) fX11_56 rfl dX11_terms_31 rfl rfl ?_
      refine z_aload_n 0 dX11_terms_34 rfl rfl (Nat.le_of_ble_eq_true rfl) rfl ?_
      refine z_getF 11 17 (x := 3) fX11_19 rfl dX11_terms_35 rfl rfl ?_
      refine z_iload_n 1 dX11_terms_38 rfl rfl rfl ?_
      obtain ⟨i9, k⟩ := k
      refine z_aald17 (x := (h7 3 l1)) dX11_terms_39 (by rw [zl_3]; exact i9) rfl rfl ?_
      refine z_w (fun w8 => ?_)
      refine z_iload_n 2 dX11_terms_40 rfl rfl rfl ?_
      refine z_callVv vX5_group kX11_220 dX11_terms_41 rfl (zRo_d d) (as := [vr 4 (h7 3 l1), vi l2]) (rest := []) (Nat.le_of_ble_eq_true rfl) rfl rfl (zCv_mono (fun h10 k => ?_) k)
      refine z_aload_n 0 dX11_terms_44 rfl rfl (Nat.le_of_ble_eq_true rfl) rfl ?_
      refine z_aload_n 0 dX11_terms_45 rfl rfl (Nat.le_of_ble_eq_true rfl) rfl ?_
      refine z_getF 11 5 (x := 244) fX11_56 rfl dX11_terms_46 rfl rfl ?_
      refine z_getI 5 (x := (h10 244 2)) fX11_224 rfl dX11_terms_49 rfl rfl ?_
      refine z_callVi vX11_granted kX11_116 dX11_terms_52 rfl (zRo_d d) (as := [vi (h10 244 2)]) (rest := []) (Nat.le_of_ble_eq_true rfl) rfl rfl (zCi_mono (fun x11 h12 k => ?_) k)
      exact z_ireturn rfl dX11_terms_55 ⟨_, rfl, k⟩
    · have k := kb q
      refine z_aload_n 0 dX11_terms_24 rfl rfl (Nat.le_of_ble_eq_true rfl) rfl ?_
      refine z_iconst dX11_terms_25 rfl ?_
      refine z_callVi vX11_refused kX11_84 dX11_terms_26 rfl (zRo_d d) (as := [vi 1]) (rest := []) (Nat.le_of_ble_eq_true rfl) rfl rfl (zCi_mono (fun x13 h14 k => ?_) k)
      exact z_ireturn rfl dX11_terms_29 ⟨_, rfl, k⟩
theorem eX11_terms {G : zG} {d : Nat} {K : Int → zH → Prop} {l1 : Int} {l2 : Int} {h : zH} (k : tX11_terms_0 G d K l1 l2 h) : zCi G (d + 1) mX11_terms [vr 11 0, vi l1, vi l2] h K := z_entry (by decide +kernel) (Nat.le_of_ble_eq_true rfl) rfl k
def tX11_term_0 (G : zG) (d : Nat) (K : Int → zH → Prop) (l1 : Int) (l2 : Int) (l3 : Int) (l4 : Int) (h : zH) : Prop := zTi G (d + 1) mX11_term K 0 [some (vr 11 0), some (vi l1), some (vi l2), some (vi l3), some (vi l4), none] [] h
theorem bX11_term_0 {G : zG} {d : Nat} {K : Int → zH → Prop} {l1 : Int} {l2 : Int} {l3 : Int} {l4 : Int} {h : zH} (k : zCb G d mX11_isMachine [vr 11 0, vi l1] h (fun x1 h2 => (x1 = false → zCi G d mX11_refused [vr 11 0, vi 1] h2 (fun x3 h4 => K x3 h4)) ∧ (x1 = true → ((0 : Int) ≤ l1 ∧ l1 < 10) ∧ zCb G d mX11_isIn [vi l2, vi (h2 (h2 3 l1) 7)] h2 (fun x6 h7 => (x6 = false → zCi G d mX11_refused [vr 11 0, vi 1] h7 (fun x8 h9 => K x8 h9)) ∧ (x6 = true → zCb G d mX11_isIn [vi l4, vi 3] h7 (fun x10 h11 => (x10 = true → ((0 : Int) ≤ l1 ∧ l1 < 10) ∧ zCv G d mX5_group [vr 5 244, vr 4 (h11 3 l1), vi l2] h11 (fun h14 => zCb G d mX11_isIn [vi l3, vi (h14 244 2)] h14 (fun x15 h16 => (x15 = true → ((0 : Int) ≤ l1 ∧ l1 < 10) ∧ zCi G d mX5_leaderOf [vr 5 244, vr 4 (h16 3 l1), vi l3] h16 (fun x18 h19 => zR l4 ∧ (l4 = 0 → ((0 : Int) ≤ l1 ∧ l1 < 10) ∧ ((0 : Int) ≤ x18 ∧ x18 < 128) ∧ zCi G d mX11_granted [vr 11 0, vi (h19 ((h19 3 l1) + 6) x18)] h19 (fun x21 h22 => K x21 h22)) ∧ (l4 = 1 → ((0 : Int) ≤ l1 ∧ l1 < 10) ∧ zCi G d mX5_amountOf [vr 5 244, vr 4 (h19 3 l1), vi l3] h19 (fun x24 h25 => zCi G d mX11_granted [vr 11 0, vi x24] h25 (fun x26 h27 => K x26 h27))) ∧ (¬ l4 = 0 ∧ ¬ l4 = 1 → ((0 : Int) ≤ l1 ∧ l1 < 10) ∧ zCi G d mX4_edgesWith [vr 4 (h19 3 l1), vi l2, vi x18] h19 (fun x29 h30 => zCi G d mX11_granted [vr 11 0, vi x29] h30 (fun x31 h32 => K x31 h32))))) ∧ (x15 = false → zCi G d mX11_refused [vr 11 0, vi 1] h16 (fun x33 h34 => K x33 h34))))) ∧ (x10 = false → zCi G d mX11_refused [vr 11 0, vi 1] h11 (fun x35 h36 => K x35 h36)))))))) : tX11_term_0 G d K l1 l2 l3 l4 h := by
  unfold tX11_term_0
  refine z_aload_n 0 dX11_term_0 rfl rfl (Nat.le_of_ble_eq_true rfl) rfl ?_
  refine z_iload_n 1 dX11_term_1 rfl rfl rfl ?_
  refine z_callVb vX11_isMachine kX11_152 dX11_term_2 rfl (zRo_d d) (as := [vi l1]) (rest := []) (Nat.le_of_ble_eq_true rfl) rfl rfl (zCb_mono (fun x1 h2 k => ?_) k)
  obtain ⟨ka, kb⟩ := k
  refine z_ifb_eq (tgt := 33) dX11_term_5 rfl rfl ⟨fun q => ?_, fun q => ?_⟩
  · have k := ka q
    refine z_aload_n 0 dX11_term_33 rfl rfl (Nat.le_of_ble_eq_true rfl) rfl ?_
    refine z_iconst dX11_term_34 rfl ?_
    refine z_callVi vX11_refused kX11_84 dX11_term_35 rfl (zRo_d d) (as := [vi 1]) (rest := []) (Nat.le_of_ble_eq_true rfl) rfl rfl (zCi_mono (fun x3 h4 k => ?_) k)
    exact z_ireturn rfl dX11_term_38 ⟨_, rfl, k⟩
  · have k := kb q
    refine z_iload_n 2 dX11_term_8 rfl rfl rfl ?_
    refine z_aload_n 0 dX11_term_9 rfl rfl (Nat.le_of_ble_eq_true rfl) rfl ?_
    refine z_getF 11 17 (x := 3) fX11_19 rfl dX11_term_10 rfl rfl ?_
    refine z_iload_n 1 dX11_term_13 rfl rfl rfl ?_
    obtain ⟨i9, k⟩ := k
    refine z_aald17 (x := (h2 3 l1)) dX11_term_14 (by rw [zl_3]; exact i9) rfl rfl ?_
    refine z_w (fun w5 => ?_)
    refine z_getI 4 (x := (h2 (h2 3 l1) 7)) fX11_217 rfl dX11_term_15 rfl rfl ?_
    refine z_callSb sX11_isIn kX11_133 dX11_term_18 rfl (zRo_d d) (as := [vi l2, vi (h2 (h2 3 l1) 7)]) (rest := []) (Nat.le_of_ble_eq_true rfl) rfl rfl (zCb_mono (fun x6 h7 k => ?_) k)
    obtain ⟨ka, kb⟩ := k
    refine z_ifb_eq (tgt := 33) dX11_term_21 rfl rfl ⟨fun q => ?_, fun q => ?_⟩
    · have k := ka q
      refine z_aload_n 0 dX11_term_33 rfl rfl (Nat.le_of_ble_eq_true rfl) rfl ?_
      refine z_iconst dX11_term_34 rfl ?_
      refine z_callVi vX11_refused kX11_84 dX11_term_35 rfl (zRo_d d) (as := [vi 1]) (rest := []) (Nat.le_of_ble_eq_true rfl) rfl rfl (zCi_mono (fun x8 h9 k => ?_) k)
      exact z_ireturn rfl dX11_term_38 ⟨_, rfl, k⟩
    · have k := kb q
      refine z_iload dX11_term_24 rfl rfl ?_
      refine z_iconst dX11_term_26 rfl ?_
      refine z_callSb sX11_isIn kX11_133 dX11_term_27 rfl (zRo_d d) (as := [vi l4, vi 3]) (rest := []) (Nat.le_of_ble_eq_true rfl) rfl rfl (zCb_mono (fun x10 h11 k => ?_) k)
      obtain ⟨ka, kb⟩ := k
      refine z_ifb_ne (tgt := 39) dX11_term_30 rfl rfl ⟨fun q => ?_, fun q => ?_⟩
      · have k := ka q
        refine z_aload_n 0 dX11_term_39 rfl rfl (Nat.le_of_ble_eq_true rfl) rfl ?_
        refine z_getF 11 5 (x := 244) fX11_56 rfl dX11_term_40 rfl rfl ?_
        refine z_aload_n 0 dX11_term_43 rfl rfl (Nat.le_of_ble_eq_true rfl) rfl ?_
        refine z_getF 11 17 (x := 3) fX11_19 rfl dX11_term_44 rfl rfl ?_
        refine z_iload_n 1 dX11_term_47 rfl rfl rfl ?_
        obtain ⟨i9, k⟩ := k
        refine z_aald17 (x := (h11 3 l1)) dX11_term_48 (by rw [zl_3]; exact i9) rfl rfl ?_
        refine z_w (fun w12 => ?_)
        refine z_iload_n 2 dX11_term_49 rfl rfl rfl ?_
        refine z_callVv vX5_group kX11_220 dX11_term_50 rfl (zRo_d d) (as := [vr 4 (h11 3 l1), vi l2]) (rest := []) (Nat.le_of_ble_eq_true rfl) rfl rfl (zCv_mono (fun h14 k => ?_) k)
        refine z_iload_n 3 dX11_term_53 rfl rfl rfl ?_
        refine z_aload_n 0 dX11_term_54 rfl rfl (Nat.le_of_ble_eq_true rfl) rfl ?_
        refine z_getF 11 5 (x := 244) fX11_56 rfl dX11_term_55 rfl rfl ?_
        refine z_getI 5 (x := (h14 244 2)) fX11_224 rfl dX11_term_58 rfl rfl ?_
        refine z_callSb sX11_isIn kX11_133 dX11_term_61 rfl (zRo_d d) (as := [vi l3, vi (h14 244 2)]) (rest := []) (Nat.le_of_ble_eq_true rfl) rfl rfl (zCb_mono (fun x15 h16 k => ?_) k)
        obtain ⟨ka, kb⟩ := k
        refine z_ifb_ne (tgt := 73) dX11_term_64 rfl rfl ⟨fun q => ?_, fun q => ?_⟩
        · have k := ka q
          refine z_aload_n 0 dX11_term_73 rfl rfl (Nat.le_of_ble_eq_true rfl) rfl ?_
          refine z_getF 11 5 (x := 244) fX11_56 rfl dX11_term_74 rfl rfl ?_
          refine z_aload_n 0 dX11_term_77 rfl rfl (Nat.le_of_ble_eq_true rfl) rfl ?_
          refine z_getF 11 17 (x := 3) fX11_19 rfl dX11_term_78 rfl rfl ?_
          refine z_iload_n 1 dX11_term_81 rfl rfl rfl ?_
          obtain ⟨i9, k⟩ := k
          refine z_aald17 (x := (h16 3 l1)) dX11_term_82 (by rw [zl_3]; exact i9) rfl rfl ?_
          refine z_w (fun w17 => ?_)
          refine z_iload_n 3 dX11_term_83 rfl rfl rfl ?_
          refine z_callVi vX5_leaderOf kX11_227 dX11_term_84 rfl (zRo_d d) (as := [vr 4 (h16 3 l1), vi l3]) (rest := []) (Nat.le_of_ble_eq_true rfl) rfl rfl (zCi_mono (fun x18 h19 k => ?_) k)
          refine z_istore dX11_term_87 (Nat.le_of_ble_eq_true rfl) (L' := [some (vr 11 0), some (vi l1), some (vi l2), some (vi l3), some (vi l4), some (vi x18)]) rfl rfl ?_
          refine z_iload dX11_term_89 rfl rfl ?_
          obtain ⟨r1, k_0, k_1, kd⟩ := k
          by_cases n0 : l4 = 0
          · refine z_lookup (tgt := 116) dX11_term_91 r1 rfl (by rw [n0]; rfl) ?_
            have k := k_0 n0
            refine z_aload_n 0 dX11_term_116 rfl rfl (Nat.le_of_ble_eq_true rfl) rfl ?_
            refine z_aload_n 0 dX11_term_117 rfl rfl (Nat.le_of_ble_eq_true rfl) rfl ?_
            refine z_getF 11 17 (x := 3) fX11_19 rfl dX11_term_118 rfl rfl ?_
            refine z_iload_n 1 dX11_term_121 rfl rfl rfl ?_
            obtain ⟨i9, k⟩ := k
            refine z_aald17 (x := (h19 3 l1)) dX11_term_122 (by rw [zl_3]; exact i9) rfl rfl ?_
            refine z_w (fun w20 => ?_)
            refine z_getF 4 13 (x := ((h19 3 l1) + 6)) fX11_197 rfl dX11_term_123 (by omega) rfl ?_
            refine z_iload dX11_term_126 rfl rfl ?_
            obtain ⟨i9, k⟩ := k
            refine z_iald (x := (h19 ((h19 3 l1) + 6) x18)) dX11_term_128 (by rw [zl4_6 w20]; exact i9) rfl rfl ?_
            refine z_callVi vX11_granted kX11_116 dX11_term_129 rfl (zRo_d d) (as := [vi (h19 ((h19 3 l1) + 6) x18)]) (rest := []) (Nat.le_of_ble_eq_true rfl) rfl rfl (zCi_mono (fun x21 h22 k => ?_) k)
            exact z_ireturn rfl dX11_term_132 ⟨_, rfl, k⟩
          · by_cases n1 : l4 = 1
            · refine z_lookup (tgt := 133) dX11_term_91 r1 rfl (by rw [n1]; rfl) ?_
              have k := k_1 n1
              refine z_aload_n 0 dX11_term_133 rfl rfl (Nat.le_of_ble_eq_true rfl) rfl ?_
              refine z_aload_n 0 dX11_term_134 rfl rfl (Nat.le_of_ble_eq_true rfl) rfl ?_
              refine z_getF 11 5 (x := 244) fX11_56 rfl dX11_term_135 rfl rfl ?_
              refine z_aload_n 0 dX11_term_138 rfl rfl (Nat.le_of_ble_eq_true rfl) rfl ?_
              refine z_getF 11 17 (x := 3) fX11_19 rfl dX11_term_139 rfl rfl ?_
              refine z_iload_n 1 dX11_term_142 rfl rfl rfl ?_
              obtain ⟨i9, k⟩ := k
              refine z_aald17 (x := (h19 3 l1)) dX11_term_143 (by rw [zl_3]; exact i9) rfl rfl ?_
              refine z_w (fun w23 => ?_)
              refine z_iload_n 3 dX11_term_144 rfl rfl rfl ?_
              refine z_callVi vX5_amountOf kX11_231 dX11_term_145 rfl (zRo_d d) (as := [vr 4 (h19 3 l1), vi l3]) (rest := [vr 11 0]) (Nat.le_of_ble_eq_true rfl) rfl rfl (zCi_mono (fun x24 h25 k => ?_) k)
              refine z_callVi vX11_granted kX11_116 dX11_term_148 rfl (zRo_d d) (as := [vi x24]) (rest := []) (Nat.le_of_ble_eq_true rfl) rfl rfl (zCi_mono (fun x26 h27 k => ?_) k)
              exact z_ireturn rfl dX11_term_151 ⟨_, rfl, k⟩
            · refine z_lookup (tgt := 152) dX11_term_91 r1 rfl (by simp [Op.lookupswitch.offset, show ¬ (0 : Int) = l4 from fun z => n0 z.symm, show ¬ (1 : Int) = l4 from fun z => n1 z.symm]) ?_
              have k := kd ⟨n0, n1⟩
              refine z_aload_n 0 dX11_term_152 rfl rfl (Nat.le_of_ble_eq_true rfl) rfl ?_
              refine z_aload_n 0 dX11_term_153 rfl rfl (Nat.le_of_ble_eq_true rfl) rfl ?_
              refine z_getF 11 17 (x := 3) fX11_19 rfl dX11_term_154 rfl rfl ?_
              refine z_iload_n 1 dX11_term_157 rfl rfl rfl ?_
              obtain ⟨i9, k⟩ := k
              refine z_aald17 (x := (h19 3 l1)) dX11_term_158 (by rw [zl_3]; exact i9) rfl rfl ?_
              refine z_w (fun w28 => ?_)
              refine z_iload_n 2 dX11_term_159 rfl rfl rfl ?_
              refine z_iload dX11_term_160 rfl rfl ?_
              refine z_callVi vX4_edgesWith kX11_234 dX11_term_162 rfl (zRo_d d) (as := [vi l2, vi x18]) (rest := [vr 11 0]) (Nat.le_of_ble_eq_true rfl) rfl rfl (zCi_mono (fun x29 h30 k => ?_) k)
              refine z_callVi vX11_granted kX11_116 dX11_term_165 rfl (zRo_d d) (as := [vi x29]) (rest := []) (Nat.le_of_ble_eq_true rfl) rfl rfl (zCi_mono (fun x31 h32 k => ?_) k)
              exact z_ireturn rfl dX11_term_168 ⟨_, rfl, k⟩
        · have k := kb q
          refine z_aload_n 0 dX11_term_67 rfl rfl (Nat.le_of_ble_eq_true rfl) rfl ?_
          refine z_iconst dX11_term_68 rfl ?_
          refine z_callVi vX11_refused kX11_84 dX11_term_69 rfl (zRo_d d) (as := [vi 1]) (rest := []) (Nat.le_of_ble_eq_true rfl) rfl rfl (zCi_mono (fun x33 h34 k => ?_) k)
          exact z_ireturn rfl dX11_term_72 ⟨_, rfl, k⟩
      · have k := kb q
        refine z_aload_n 0 dX11_term_33 rfl rfl (Nat.le_of_ble_eq_true rfl) rfl ?_
        refine z_iconst dX11_term_34 rfl ?_
        refine z_callVi vX11_refused kX11_84 dX11_term_35 rfl (zRo_d d) (as := [vi 1]) (rest := []) (Nat.le_of_ble_eq_true rfl) rfl rfl (zCi_mono (fun x35 h36 k => ?_) k)
        exact z_ireturn rfl dX11_term_38 ⟨_, rfl, k⟩
theorem eX11_term {G : zG} {d : Nat} {K : Int → zH → Prop} {l1 : Int} {l2 : Int} {l3 : Int} {l4 : Int} {h : zH} (k : tX11_term_0 G d K l1 l2 l3 l4 h) : zCi G (d + 1) mX11_term [vr 11 0, vi l1, vi l2, vi l3, vi l4] h K := z_entry (by decide +kernel) (Nat.le_of_ble_eq_true rfl) rfl k
def tX11_go_0 (G : zG) (d : Nat) (K : Int → zH → Prop) (l1 : Int) (l2 : Int) (l3 : Int) (h : zH) : Prop := zTi G (d + 1) mX11_go K 0 [some (vr 11 0), some (vi l1), some (vi l2), some (vi l3)] [] h
theorem bX11_go_0 {G : zG} {d : Nat} {K : Int → zH → Prop} {l1 : Int} {l2 : Int} {l3 : Int} {h : zH} (k : zCb G d mX11_isClass [vr 11 0, vi l1, vi l2] h (fun x1 h2 => (x1 = true → zCb G d mX11_isIn [vi l3, vi 65536] h2 (fun x3 h4 => (x3 = true → ((0 : Int) ≤ l1 ∧ l1 < 10) ∧ ((0 : Int) ≤ l1 ∧ l1 < 10) ∧ zCi G d mX4_blockOf [vr 4 (h4 3 l1), vi l3] h4 (fun x7 h8 => zCi G d mX7_classStep [vr 7 ((h4 3 l1) + 7), vi l2, vi x7] h8 (fun x9 h10 => zCi G d mX11_granted [vr 11 0, vi x9] h10 (fun x11 h12 => K x11 h12)))) ∧ (x3 = false → zCi G d mX11_refused [vr 11 0, vi 2] h4 (fun x13 h14 => K x13 h14)))) ∧ (x1 = false → zCi G d mX11_refused [vr 11 0, vi 1] h2 (fun x15 h16 => K x15 h16)))) : tX11_go_0 G d K l1 l2 l3 h := by
  unfold tX11_go_0
  refine z_aload_n 0 dX11_go_0 rfl rfl (Nat.le_of_ble_eq_true rfl) rfl ?_
  refine z_iload_n 1 dX11_go_1 rfl rfl rfl ?_
  refine z_iload_n 2 dX11_go_2 rfl rfl rfl ?_
  refine z_callVb vX11_isClass kX11_238 dX11_go_3 rfl (zRo_d d) (as := [vi l1, vi l2]) (rest := []) (Nat.le_of_ble_eq_true rfl) rfl rfl (zCb_mono (fun x1 h2 k => ?_) k)
  obtain ⟨ka, kb⟩ := k
  refine z_ifb_ne (tgt := 15) dX11_go_6 rfl rfl ⟨fun q => ?_, fun q => ?_⟩
  · have k := ka q
    refine z_iload_n 3 dX11_go_15 rfl rfl rfl ?_
    refine z_ldc (x := 65536) cX11_144 rfl dX11_go_16 rfl ?_
    refine z_callSb sX11_isIn kX11_133 dX11_go_18 rfl (zRo_d d) (as := [vi l3, vi 65536]) (rest := []) (Nat.le_of_ble_eq_true rfl) rfl rfl (zCb_mono (fun x3 h4 k => ?_) k)
    obtain ⟨ka, kb⟩ := k
    refine z_ifb_ne (tgt := 30) dX11_go_21 rfl rfl ⟨fun q => ?_, fun q => ?_⟩
    · have k := ka q
      refine z_aload_n 0 dX11_go_30 rfl rfl (Nat.le_of_ble_eq_true rfl) rfl ?_
      refine z_aload_n 0 dX11_go_31 rfl rfl (Nat.le_of_ble_eq_true rfl) rfl ?_
      refine z_getF 11 17 (x := 3) fX11_19 rfl dX11_go_32 rfl rfl ?_
      refine z_iload_n 1 dX11_go_35 rfl rfl rfl ?_
      obtain ⟨i9, k⟩ := k
      refine z_aald17 (x := (h4 3 l1)) dX11_go_36 (by rw [zl_3]; exact i9) rfl rfl ?_
      refine z_w (fun w5 => ?_)
      refine z_getF 4 7 (x := ((h4 3 l1) + 7)) fX11_200 rfl dX11_go_37 (by omega) rfl ?_
      refine z_iload_n 2 dX11_go_40 rfl rfl rfl ?_
      refine z_aload_n 0 dX11_go_41 rfl rfl (Nat.le_of_ble_eq_true rfl) rfl ?_
      refine z_getF 11 17 (x := 3) fX11_19 rfl dX11_go_42 rfl rfl ?_
      refine z_iload_n 1 dX11_go_45 rfl rfl rfl ?_
      obtain ⟨i9, k⟩ := k
      refine z_aald17 (x := (h4 3 l1)) dX11_go_46 (by rw [zl_3]; exact i9) rfl rfl ?_
      refine z_w (fun w6 => ?_)
      refine z_iload_n 3 dX11_go_47 rfl rfl rfl ?_
      refine z_callVi vX4_blockOf kX11_241 dX11_go_48 rfl (zRo_d d) (as := [vi l3]) (rest := [vi l2, vr 7 ((h4 3 l1) + 7), vr 11 0]) (Nat.le_of_ble_eq_true rfl) rfl rfl (zCi_mono (fun x7 h8 k => ?_) k)
      refine z_callVi vX7_classStep kX11_244 dX11_go_51 rfl (zRo_d d) (as := [vi l2, vi x7]) (rest := [vr 11 0]) (Nat.le_of_ble_eq_true rfl) rfl rfl (zCi_mono (fun x9 h10 k => ?_) k)
      refine z_callVi vX11_granted kX11_116 dX11_go_54 rfl (zRo_d d) (as := [vi x9]) (rest := []) (Nat.le_of_ble_eq_true rfl) rfl rfl (zCi_mono (fun x11 h12 k => ?_) k)
      exact z_ireturn rfl dX11_go_57 ⟨_, rfl, k⟩
    · have k := kb q
      refine z_aload_n 0 dX11_go_24 rfl rfl (Nat.le_of_ble_eq_true rfl) rfl ?_
      refine z_iconst dX11_go_25 rfl ?_
      refine z_callVi vX11_refused kX11_84 dX11_go_26 rfl (zRo_d d) (as := [vi 2]) (rest := []) (Nat.le_of_ble_eq_true rfl) rfl rfl (zCi_mono (fun x13 h14 k => ?_) k)
      exact z_ireturn rfl dX11_go_29 ⟨_, rfl, k⟩
  · have k := kb q
    refine z_aload_n 0 dX11_go_9 rfl rfl (Nat.le_of_ble_eq_true rfl) rfl ?_
    refine z_iconst dX11_go_10 rfl ?_
    refine z_callVi vX11_refused kX11_84 dX11_go_11 rfl (zRo_d d) (as := [vi 1]) (rest := []) (Nat.le_of_ble_eq_true rfl) rfl rfl (zCi_mono (fun x15 h16 k => ?_) k)
    exact z_ireturn rfl dX11_go_14 ⟨_, rfl, k⟩
theorem eX11_go {G : zG} {d : Nat} {K : Int → zH → Prop} {l1 : Int} {l2 : Int} {l3 : Int} {h : zH} (k : tX11_go_0 G d K l1 l2 l3 h) : zCi G (d + 1) mX11_go [vr 11 0, vi l1, vi l2, vi l3] h K := z_entry (by decide +kernel) (Nat.le_of_ble_eq_true rfl) rfl k
def tX11_takes_0 (G : zG) (d : Nat) (K : Int → zH → Prop) (l1 : Int) (l2 : Int) (h : zH) : Prop := zTi G (d + 1) mX11_takes K 0 [some (vr 11 0), some (vi l1), some (vi l2)] [] h
theorem bX11_takes_0 {G : zG} {d : Nat} {K : Int → zH → Prop} {l1 : Int} {l2 : Int} {h : zH} (k : zCb G d mX11_isClass [vr 11 0, vi l1, vi l2] h (fun x1 h2 => (x1 = true → ((0 : Int) ≤ l1 ∧ l1 < 10) ∧ zCb G d mX7_classTakes [vr 7 ((h2 3 l1) + 7), vi l2] h2 (fun x4 h5 => (x4 = false → zCi G d mX11_granted [vr 11 0, vi 0] h5 (fun x6 h7 => K x6 h7)) ∧ (x4 = true → zCi G d mX11_granted [vr 11 0, vi 1] h5 (fun x8 h9 => K x8 h9)))) ∧ (x1 = false → zCi G d mX11_refused [vr 11 0, vi 1] h2 (fun x10 h11 => K x10 h11)))) : tX11_takes_0 G d K l1 l2 h := by
  unfold tX11_takes_0
  refine z_aload_n 0 dX11_takes_0 rfl rfl (Nat.le_of_ble_eq_true rfl) rfl ?_
  refine z_iload_n 1 dX11_takes_1 rfl rfl rfl ?_
  refine z_iload_n 2 dX11_takes_2 rfl rfl rfl ?_
  refine z_callVb vX11_isClass kX11_238 dX11_takes_3 rfl (zRo_d d) (as := [vi l1, vi l2]) (rest := []) (Nat.le_of_ble_eq_true rfl) rfl rfl (zCb_mono (fun x1 h2 k => ?_) k)
  obtain ⟨ka, kb⟩ := k
  refine z_ifb_ne (tgt := 15) dX11_takes_6 rfl rfl ⟨fun q => ?_, fun q => ?_⟩
  · have k := ka q
    refine z_aload_n 0 dX11_takes_15 rfl rfl (Nat.le_of_ble_eq_true rfl) rfl ?_
    refine z_aload_n 0 dX11_takes_16 rfl rfl (Nat.le_of_ble_eq_true rfl) rfl ?_
    refine z_getF 11 17 (x := 3) fX11_19 rfl dX11_takes_17 rfl rfl ?_
    refine z_iload_n 1 dX11_takes_20 rfl rfl rfl ?_
    obtain ⟨i9, k⟩ := k
    refine z_aald17 (x := (h2 3 l1)) dX11_takes_21 (by rw [zl_3]; exact i9) rfl rfl ?_
    refine z_w (fun w3 => ?_)
    refine z_getF 4 7 (x := ((h2 3 l1) + 7)) fX11_200 rfl dX11_takes_22 (by omega) rfl ?_
    refine z_iload_n 2 dX11_takes_25 rfl rfl rfl ?_
    refine z_callVb vX7_classTakes kX11_247 dX11_takes_26 rfl (zRo_d d) (as := [vi l2]) (rest := [vr 11 0]) (Nat.le_of_ble_eq_true rfl) rfl rfl (zCb_mono (fun x4 h5 k => ?_) k)
    obtain ⟨ka, kb⟩ := k
    refine z_ifb_eq (tgt := 36) dX11_takes_29 rfl rfl ⟨fun q => ?_, fun q => ?_⟩
    · have k := ka q
      refine z_iconst dX11_takes_36 rfl ?_
      refine z_callVi vX11_granted kX11_116 dX11_takes_37 rfl (zRo_d d) (as := [vi 0]) (rest := []) (Nat.le_of_ble_eq_true rfl) rfl rfl (zCi_mono (fun x6 h7 k => ?_) k)
      exact z_ireturn rfl dX11_takes_40 ⟨_, rfl, k⟩
    · have k := kb q
      refine z_iconst dX11_takes_32 rfl ?_
      refine z_goto (tgt := 37) dX11_takes_33 rfl ?_
      refine z_callVi vX11_granted kX11_116 dX11_takes_37 rfl (zRo_d d) (as := [vi 1]) (rest := []) (Nat.le_of_ble_eq_true rfl) rfl rfl (zCi_mono (fun x8 h9 k => ?_) k)
      exact z_ireturn rfl dX11_takes_40 ⟨_, rfl, k⟩
  · have k := kb q
    refine z_aload_n 0 dX11_takes_9 rfl rfl (Nat.le_of_ble_eq_true rfl) rfl ?_
    refine z_iconst dX11_takes_10 rfl ?_
    refine z_callVi vX11_refused kX11_84 dX11_takes_11 rfl (zRo_d d) (as := [vi 1]) (rest := []) (Nat.le_of_ble_eq_true rfl) rfl rfl (zCi_mono (fun x10 h11 k => ?_) k)
    exact z_ireturn rfl dX11_takes_14 ⟨_, rfl, k⟩
theorem eX11_takes {G : zG} {d : Nat} {K : Int → zH → Prop} {l1 : Int} {l2 : Int} {h : zH} (k : tX11_takes_0 G d K l1 l2 h) : zCi G (d + 1) mX11_takes [vr 11 0, vi l1, vi l2] h K := z_entry (by decide +kernel) (Nat.le_of_ble_eq_true rfl) rfl k
def tX11_dead_0 (G : zG) (d : Nat) (K : Int → zH → Prop) (l1 : Int) (h : zH) : Prop := zTi G (d + 1) mX11_dead K 0 [some (vr 11 0), some (vi l1)] [] h
theorem bX11_dead_0 {G : zG} {d : Nat} {K : Int → zH → Prop} {l1 : Int} {h : zH} (k : zCb G d mX11_isMachine [vr 11 0, vi l1] h (fun x1 h2 => (x1 = true → ((0 : Int) ≤ l1 ∧ l1 < 10) ∧ zCi G d mX7_deadClass [vr 7 ((h2 3 l1) + 7)] h2 (fun x4 h5 => zCi G d mX11_granted [vr 11 0, vi x4] h5 (fun x6 h7 => K x6 h7))) ∧ (x1 = false → zCi G d mX11_refused [vr 11 0, vi 1] h2 (fun x8 h9 => K x8 h9)))) : tX11_dead_0 G d K l1 h := by
  unfold tX11_dead_0
  refine z_aload_n 0 dX11_dead_0 rfl rfl (Nat.le_of_ble_eq_true rfl) rfl ?_
  refine z_iload_n 1 dX11_dead_1 rfl rfl rfl ?_
  refine z_callVb vX11_isMachine kX11_152 dX11_dead_2 rfl (zRo_d d) (as := [vi l1]) (rest := []) (Nat.le_of_ble_eq_true rfl) rfl rfl (zCb_mono (fun x1 h2 k => ?_) k)
  obtain ⟨ka, kb⟩ := k
  refine z_ifb_ne (tgt := 14) dX11_dead_5 rfl rfl ⟨fun q => ?_, fun q => ?_⟩
  · have k := ka q
    refine z_aload_n 0 dX11_dead_14 rfl rfl (Nat.le_of_ble_eq_true rfl) rfl ?_
    refine z_aload_n 0 dX11_dead_15 rfl rfl (Nat.le_of_ble_eq_true rfl) rfl ?_
    refine z_getF 11 17 (x := 3) fX11_19 rfl dX11_dead_16 rfl rfl ?_
    refine z_iload_n 1 dX11_dead_19 rfl rfl rfl ?_
    obtain ⟨i9, k⟩ := k
    refine z_aald17 (x := (h2 3 l1)) dX11_dead_20 (by rw [zl_3]; exact i9) rfl rfl ?_
    refine z_w (fun w3 => ?_)
    refine z_getF 4 7 (x := ((h2 3 l1) + 7)) fX11_200 rfl dX11_dead_21 (by omega) rfl ?_
    refine z_callVi vX7_deadClass kX11_250 dX11_dead_24 rfl (zRo_d d) (as := []) (rest := [vr 11 0]) (Nat.le_of_ble_eq_true rfl) rfl rfl (zCi_mono (fun x4 h5 k => ?_) k)
    refine z_callVi vX11_granted kX11_116 dX11_dead_27 rfl (zRo_d d) (as := [vi x4]) (rest := []) (Nat.le_of_ble_eq_true rfl) rfl rfl (zCi_mono (fun x6 h7 k => ?_) k)
    exact z_ireturn rfl dX11_dead_30 ⟨_, rfl, k⟩
  · have k := kb q
    refine z_aload_n 0 dX11_dead_8 rfl rfl (Nat.le_of_ble_eq_true rfl) rfl ?_
    refine z_iconst dX11_dead_9 rfl ?_
    refine z_callVi vX11_refused kX11_84 dX11_dead_10 rfl (zRo_d d) (as := [vi 1]) (rest := []) (Nat.le_of_ble_eq_true rfl) rfl rfl (zCi_mono (fun x8 h9 k => ?_) k)
    exact z_ireturn rfl dX11_dead_13 ⟨_, rfl, k⟩
theorem eX11_dead {G : zG} {d : Nat} {K : Int → zH → Prop} {l1 : Int} {h : zH} (k : tX11_dead_0 G d K l1 h) : zCi G (d + 1) mX11_dead [vr 11 0, vi l1] h K := z_entry (by decide +kernel) (Nat.le_of_ble_eq_true rfl) rfl k
def tX11_first_0 (G : zG) (d : Nat) (K : Int → zH → Prop) (l1 : Int) (l2 : Int) (h : zH) : Prop := zTi G (d + 1) mX11_first K 0 [some (vr 11 0), some (vi l1), some (vi l2), none] [] h
theorem bX11_first_0 {G : zG} {d : Nat} {K : Int → zH → Prop} {l1 : Int} {l2 : Int} {h : zH} (k : zCb G d mX11_isClass [vr 11 0, vi l1, vi l2] h (fun x1 h2 => (x1 = true → ((0 : Int) ≤ l1 ∧ l1 < 10) ∧ ((0 : Int) ≤ l2 ∧ l2 < 40) ∧ ((0 : Int) ≤ (h2 ((h2 3 l1) + 16) l2) ∧ (h2 ((h2 3 l1) + 16) l2) < 40) ∧ zCi G d mX11_granted [vr 11 0, vi (h2 ((h2 3 l1) + 12) (h2 ((h2 3 l1) + 16) l2))] h2 (fun x4 h5 => K x4 h5)) ∧ (x1 = false → zCi G d mX11_refused [vr 11 0, vi 1] h2 (fun x6 h7 => K x6 h7)))) : tX11_first_0 G d K l1 l2 h := by
  unfold tX11_first_0
  refine z_aload_n 0 dX11_first_0 rfl rfl (Nat.le_of_ble_eq_true rfl) rfl ?_
  refine z_iload_n 1 dX11_first_1 rfl rfl rfl ?_
  refine z_iload_n 2 dX11_first_2 rfl rfl rfl ?_
  refine z_callVb vX11_isClass kX11_238 dX11_first_3 rfl (zRo_d d) (as := [vi l1, vi l2]) (rest := []) (Nat.le_of_ble_eq_true rfl) rfl rfl (zCb_mono (fun x1 h2 k => ?_) k)
  obtain ⟨ka, kb⟩ := k
  refine z_ifb_ne (tgt := 15) dX11_first_6 rfl rfl ⟨fun q => ?_, fun q => ?_⟩
  · have k := ka q
    refine z_aload_n 0 dX11_first_15 rfl rfl (Nat.le_of_ble_eq_true rfl) rfl ?_
    refine z_getF 11 17 (x := 3) fX11_19 rfl dX11_first_16 rfl rfl ?_
    refine z_iload_n 1 dX11_first_19 rfl rfl rfl ?_
    obtain ⟨i9, k⟩ := k
    refine z_aald17 (x := (h2 3 l1)) dX11_first_20 (by rw [zl_3]; exact i9) rfl rfl ?_
    refine z_w (fun w3 => ?_)
    refine z_getF 4 7 (x := ((h2 3 l1) + 7)) fX11_200 rfl dX11_first_21 (by omega) rfl ?_
    refine z_astore_n 3 dX11_first_24 rfl (Nat.le_of_ble_eq_true rfl) (Nat.le_of_ble_eq_true rfl) (L' := [some (vr 11 0), some (vi l1), some (vi l2), some (vr 7 ((h2 3 l1) + 7))]) rfl rfl ?_
    refine z_aload_n 0 dX11_first_25 rfl rfl (Nat.le_of_ble_eq_true rfl) rfl ?_
    refine z_aload_n 3 dX11_first_26 rfl rfl (Nat.le_of_ble_eq_true rfl) rfl ?_
    refine z_getF 7 13 (x := ((h2 3 l1) + 12)) fX11_253 rfl dX11_first_27 (by omega) rfl ?_
    refine z_aload_n 3 dX11_first_30 rfl rfl (Nat.le_of_ble_eq_true rfl) rfl ?_
    refine z_getF 7 13 (x := ((h2 3 l1) + 16)) fX11_256 rfl dX11_first_31 (by omega) rfl ?_
    refine z_iload_n 2 dX11_first_34 rfl rfl rfl ?_
    obtain ⟨i9, k⟩ := k
    refine z_iald (x := (h2 ((h2 3 l1) + 16) l2)) dX11_first_35 (by rw [zl4_16 w3]; exact i9) rfl rfl ?_
    obtain ⟨i9, k⟩ := k
    refine z_iald (x := (h2 ((h2 3 l1) + 12) (h2 ((h2 3 l1) + 16) l2))) dX11_first_36 (by rw [zl4_12 w3]; exact i9) rfl rfl ?_
    refine z_callVi vX11_granted kX11_116 dX11_first_37 rfl (zRo_d d) (as := [vi (h2 ((h2 3 l1) + 12) (h2 ((h2 3 l1) + 16) l2))]) (rest := []) (Nat.le_of_ble_eq_true rfl) rfl rfl (zCi_mono (fun x4 h5 k => ?_) k)
    exact z_ireturn rfl dX11_first_40 ⟨_, rfl, k⟩
  · have k := kb q
    refine z_aload_n 0 dX11_first_9 rfl rfl (Nat.le_of_ble_eq_true rfl) rfl ?_
    refine z_iconst dX11_first_10 rfl ?_
    refine z_callVi vX11_refused kX11_84 dX11_first_11 rfl (zRo_d d) (as := [vi 1]) (rest := []) (Nat.le_of_ble_eq_true rfl) rfl rfl (zCi_mono (fun x6 h7 k => ?_) k)
    exact z_ireturn rfl dX11_first_14 ⟨_, rfl, k⟩
theorem eX11_first {G : zG} {d : Nat} {K : Int → zH → Prop} {l1 : Int} {l2 : Int} {h : zH} (k : tX11_first_0 G d K l1 l2 h) : zCi G (d + 1) mX11_first [vr 11 0, vi l1, vi l2] h K := z_entry (by decide +kernel) (Nat.le_of_ble_eq_true rfl) rfl k
def tX11_firstLetter_0 (G : zG) (d : Nat) (K : Int → zH → Prop) (l1 : Int) (l2 : Int) (l3 : Int) (h : zH) : Prop := zTi G (d + 1) mX11_firstLetter K 0 [some (vr 11 0), some (vi l1), some (vi l2), some (vi l3), none, none] [] h
theorem bX11_firstLetter_0 {G : zG} {d : Nat} {K : Int → zH → Prop} {l1 : Int} {l2 : Int} {l3 : Int} {h : zH} (k : zCb G d mX11_isClass [vr 11 0, vi l1, vi l2] h (fun x1 h2 => (x1 = true → ((0 : Int) ≤ l1 ∧ l1 < 10) ∧ ((0 : Int) ≤ l2 ∧ l2 < 40) ∧ ((0 : Int) ≤ (h2 ((h2 3 l1) + 16) l2) ∧ (h2 ((h2 3 l1) + 16) l2) < 40) ∧ zCb G d mX11_isIn [vi l3, vi (h2 ((h2 3 l1) + 12) (h2 ((h2 3 l1) + 16) l2))] h2 (fun x4 h5 => (x4 = true → ((0 : Int) ≤ l1 ∧ l1 < 10) ∧ zCi G d mX7_blockOnWay [vr 7 ((h2 3 l1) + 7), vi (h2 ((h2 3 l1) + 16) l2), vi l3] h5 (fun x7 h8 => ((0 : Int) ≤ x7 ∧ x7 < 128) ∧ zCi G d mX11_granted [vr 11 0, vi (h8 ((h5 3 l1) + 6) x7)] h8 (fun x9 h10 => K x9 h10))) ∧ (x4 = false → zCi G d mX11_refused [vr 11 0, vi 1] h5 (fun x11 h12 => K x11 h12)))) ∧ (x1 = false → zCi G d mX11_refused [vr 11 0, vi 1] h2 (fun x13 h14 => K x13 h14)))) : tX11_firstLetter_0 G d K l1 l2 l3 h := by
  unfold tX11_firstLetter_0
  refine z_aload_n 0 dX11_firstLetter_0 rfl rfl (Nat.le_of_ble_eq_true rfl) rfl ?_
  refine z_iload_n 1 dX11_firstLetter_1 rfl rfl rfl ?_
  refine z_iload_n 2 dX11_firstLetter_2 rfl rfl rfl ?_
  refine z_callVb vX11_isClass kX11_238 dX11_firstLetter_3 rfl (zRo_d d) (as := [vi l1, vi l2]) (rest := []) (Nat.le_of_ble_eq_true rfl) rfl rfl (zCb_mono (fun x1 h2 k => ?_) k)
  obtain ⟨ka, kb⟩ := k
  refine z_ifb_ne (tgt := 15) dX11_firstLetter_6 rfl rfl ⟨fun q => ?_, fun q => ?_⟩
  · have k := ka q
    refine z_aload_n 0 dX11_firstLetter_15 rfl rfl (Nat.le_of_ble_eq_true rfl) rfl ?_
    refine z_getF 11 17 (x := 3) fX11_19 rfl dX11_firstLetter_16 rfl rfl ?_
    refine z_iload_n 1 dX11_firstLetter_19 rfl rfl rfl ?_
    obtain ⟨i9, k⟩ := k
    refine z_aald17 (x := (h2 3 l1)) dX11_firstLetter_20 (by rw [zl_3]; exact i9) rfl rfl ?_
    refine z_w (fun w3 => ?_)
    refine z_getF 4 7 (x := ((h2 3 l1) + 7)) fX11_200 rfl dX11_firstLetter_21 (by omega) rfl ?_
    refine z_astore dX11_firstLetter_24 (Nat.le_of_ble_eq_true rfl) (Nat.le_of_ble_eq_true rfl) (L' := [some (vr 11 0), some (vi l1), some (vi l2), some (vi l3), some (vr 7 ((h2 3 l1) + 7)), none]) rfl rfl ?_
    refine z_aload dX11_firstLetter_26 rfl (Nat.le_of_ble_eq_true rfl) rfl ?_
    refine z_getF 7 13 (x := ((h2 3 l1) + 16)) fX11_256 rfl dX11_firstLetter_28 (by omega) rfl ?_
    refine z_iload_n 2 dX11_firstLetter_31 rfl rfl rfl ?_
    obtain ⟨i9, k⟩ := k
    refine z_iald (x := (h2 ((h2 3 l1) + 16) l2)) dX11_firstLetter_32 (by rw [zl4_16 w3]; exact i9) rfl rfl ?_
    refine z_istore dX11_firstLetter_33 (Nat.le_of_ble_eq_true rfl) (L' := [some (vr 11 0), some (vi l1), some (vi l2), some (vi l3), some (vr 7 ((h2 3 l1) + 7)), some (vi (h2 ((h2 3 l1) + 16) l2))]) rfl rfl ?_
    refine z_iload_n 3 dX11_firstLetter_35 rfl rfl rfl ?_
    refine z_aload dX11_firstLetter_36 rfl (Nat.le_of_ble_eq_true rfl) rfl ?_
    refine z_getF 7 13 (x := ((h2 3 l1) + 12)) fX11_253 rfl dX11_firstLetter_38 (by omega) rfl ?_
    refine z_iload dX11_firstLetter_41 rfl rfl ?_
    obtain ⟨i9, k⟩ := k
    refine z_iald (x := (h2 ((h2 3 l1) + 12) (h2 ((h2 3 l1) + 16) l2))) dX11_firstLetter_43 (by rw [zl4_12 w3]; exact i9) rfl rfl ?_
    refine z_callSb sX11_isIn kX11_133 dX11_firstLetter_44 rfl (zRo_d d) (as := [vi l3, vi (h2 ((h2 3 l1) + 12) (h2 ((h2 3 l1) + 16) l2))]) (rest := []) (Nat.le_of_ble_eq_true rfl) rfl rfl (zCb_mono (fun x4 h5 k => ?_) k)
    obtain ⟨ka, kb⟩ := k
    refine z_ifb_ne (tgt := 56) dX11_firstLetter_47 rfl rfl ⟨fun q => ?_, fun q => ?_⟩
    · have k := ka q
      refine z_aload_n 0 dX11_firstLetter_56 rfl rfl (Nat.le_of_ble_eq_true rfl) rfl ?_
      refine z_aload_n 0 dX11_firstLetter_57 rfl rfl (Nat.le_of_ble_eq_true rfl) rfl ?_
      refine z_getF 11 17 (x := 3) fX11_19 rfl dX11_firstLetter_58 rfl rfl ?_
      refine z_iload_n 1 dX11_firstLetter_61 rfl rfl rfl ?_
      obtain ⟨i9, k⟩ := k
      refine z_aald17 (x := (h5 3 l1)) dX11_firstLetter_62 (by rw [zl_3]; exact i9) rfl rfl ?_
      refine z_w (fun w6 => ?_)
      refine z_getF 4 13 (x := ((h5 3 l1) + 6)) fX11_197 rfl dX11_firstLetter_63 (by omega) rfl ?_
      refine z_aload dX11_firstLetter_66 rfl (Nat.le_of_ble_eq_true rfl) rfl ?_
      refine z_iload dX11_firstLetter_68 rfl rfl ?_
      refine z_iload_n 3 dX11_firstLetter_70 rfl rfl rfl ?_
      refine z_callVi vX7_blockOnWay kX11_259 dX11_firstLetter_71 rfl (zRo_d d) (as := [vi (h2 ((h2 3 l1) + 16) l2), vi l3]) (rest := [vr 13 ((h5 3 l1) + 6), vr 11 0]) (Nat.le_of_ble_eq_true rfl) rfl rfl (zCi_mono (fun x7 h8 k => ?_) k)
      obtain ⟨i9, k⟩ := k
      refine z_iald (x := (h8 ((h5 3 l1) + 6) x7)) dX11_firstLetter_74 (by rw [zl4_6 w6]; exact i9) rfl rfl ?_
      refine z_callVi vX11_granted kX11_116 dX11_firstLetter_75 rfl (zRo_d d) (as := [vi (h8 ((h5 3 l1) + 6) x7)]) (rest := []) (Nat.le_of_ble_eq_true rfl) rfl rfl (zCi_mono (fun x9 h10 k => ?_) k)
      exact z_ireturn rfl dX11_firstLetter_78 ⟨_, rfl, k⟩
    · have k := kb q
      refine z_aload_n 0 dX11_firstLetter_50 rfl rfl (Nat.le_of_ble_eq_true rfl) rfl ?_
      refine z_iconst dX11_firstLetter_51 rfl ?_
      refine z_callVi vX11_refused kX11_84 dX11_firstLetter_52 rfl (zRo_d d) (as := [vi 1]) (rest := []) (Nat.le_of_ble_eq_true rfl) rfl rfl (zCi_mono (fun x11 h12 k => ?_) k)
      exact z_ireturn rfl dX11_firstLetter_55 ⟨_, rfl, k⟩
  · have k := kb q
    refine z_aload_n 0 dX11_firstLetter_9 rfl rfl (Nat.le_of_ble_eq_true rfl) rfl ?_
    refine z_iconst dX11_firstLetter_10 rfl ?_
    refine z_callVi vX11_refused kX11_84 dX11_firstLetter_11 rfl (zRo_d d) (as := [vi 1]) (rest := []) (Nat.le_of_ble_eq_true rfl) rfl rfl (zCi_mono (fun x13 h14 k => ?_) k)
    exact z_ireturn rfl dX11_firstLetter_14 ⟨_, rfl, k⟩
theorem eX11_firstLetter {G : zG} {d : Nat} {K : Int → zH → Prop} {l1 : Int} {l2 : Int} {l3 : Int} {h : zH} (k : tX11_firstLetter_0 G d K l1 l2 l3 h) : zCi G (d + 1) mX11_firstLetter [vr 11 0, vi l1, vi l2, vi l3] h K := z_entry (by decide +kernel) (Nat.le_of_ble_eq_true rfl) rfl k
def tX11_parting_0 (G : zG) (d : Nat) (K : Int → zH → Prop) (l1 : Int) (l2 : Int) (l3 : Int) (h : zH) : Prop := zTi G (d + 1) mX11_parting K 0 [some (vr 11 0), some (vi l1), some (vi l2), some (vi l3)] [] h
theorem bX11_parting_0 {G : zG} {d : Nat} {K : Int → zH → Prop} {l1 : Int} {l2 : Int} {l3 : Int} {h : zH} (k : zCb G d mX11_isClass [vr 11 0, vi l1, vi l2] h (fun x1 h2 => (x1 = false → zCi G d mX11_refused [vr 11 0, vi 1] h2 (fun x3 h4 => K x3 h4)) ∧ (x1 = true → zCb G d mX11_isClass [vr 11 0, vi l1, vi l3] h2 (fun x5 h6 => (x5 = true → zR l2 ∧ zR l3 ∧ (¬ l2 = l3 → ((0 : Int) ≤ l1 ∧ l1 < 10) ∧ zCi G d mX7_classesApart [vr 7 ((h6 3 l1) + 7), vi l2, vi l3] h6 (fun x8 h9 => zCi G d mX11_granted [vr 11 0, vi x8] h9 (fun x10 h11 => K x10 h11))) ∧ (l2 = l3 → zCi G d mX11_granted [vr 11 0, vi (-2)] h6 (fun x12 h13 => K x12 h13))) ∧ (x5 = false → zCi G d mX11_refused [vr 11 0, vi 1] h6 (fun x14 h15 => K x14 h15)))))) : tX11_parting_0 G d K l1 l2 l3 h := by
  unfold tX11_parting_0
  refine z_aload_n 0 dX11_parting_0 rfl rfl (Nat.le_of_ble_eq_true rfl) rfl ?_
  refine z_iload_n 1 dX11_parting_1 rfl rfl rfl ?_
  refine z_iload_n 2 dX11_parting_2 rfl rfl rfl ?_
  refine z_callVb vX11_isClass kX11_238 dX11_parting_3 rfl (zRo_d d) (as := [vi l1, vi l2]) (rest := []) (Nat.le_of_ble_eq_true rfl) rfl rfl (zCb_mono (fun x1 h2 k => ?_) k)
  obtain ⟨ka, kb⟩ := k
  refine z_ifb_eq (tgt := 18) dX11_parting_6 rfl rfl ⟨fun q => ?_, fun q => ?_⟩
  · have k := ka q
    refine z_aload_n 0 dX11_parting_18 rfl rfl (Nat.le_of_ble_eq_true rfl) rfl ?_
    refine z_iconst dX11_parting_19 rfl ?_
    refine z_callVi vX11_refused kX11_84 dX11_parting_20 rfl (zRo_d d) (as := [vi 1]) (rest := []) (Nat.le_of_ble_eq_true rfl) rfl rfl (zCi_mono (fun x3 h4 k => ?_) k)
    exact z_ireturn rfl dX11_parting_23 ⟨_, rfl, k⟩
  · have k := kb q
    refine z_aload_n 0 dX11_parting_9 rfl rfl (Nat.le_of_ble_eq_true rfl) rfl ?_
    refine z_iload_n 1 dX11_parting_10 rfl rfl rfl ?_
    refine z_iload_n 3 dX11_parting_11 rfl rfl rfl ?_
    refine z_callVb vX11_isClass kX11_238 dX11_parting_12 rfl (zRo_d d) (as := [vi l1, vi l3]) (rest := []) (Nat.le_of_ble_eq_true rfl) rfl rfl (zCb_mono (fun x5 h6 k => ?_) k)
    obtain ⟨ka, kb⟩ := k
    refine z_ifb_ne (tgt := 24) dX11_parting_15 rfl rfl ⟨fun q => ?_, fun q => ?_⟩
    · have k := ka q
      refine z_aload_n 0 dX11_parting_24 rfl rfl (Nat.le_of_ble_eq_true rfl) rfl ?_
      refine z_iload_n 2 dX11_parting_25 rfl rfl rfl ?_
      refine z_iload_n 3 dX11_parting_26 rfl rfl rfl ?_
      obtain ⟨r1, r2, ka, kb⟩ := k
      refine z_icmp_ne (tgt := 35) dX11_parting_27 rfl r1 r2 rfl ⟨fun q => ?_, fun q => ?_⟩
      · have k := ka q
        refine z_aload_n 0 dX11_parting_35 rfl rfl (Nat.le_of_ble_eq_true rfl) rfl ?_
        refine z_getF 11 17 (x := 3) fX11_19 rfl dX11_parting_36 rfl rfl ?_
        refine z_iload_n 1 dX11_parting_39 rfl rfl rfl ?_
        obtain ⟨i9, k⟩ := k
        refine z_aald17 (x := (h6 3 l1)) dX11_parting_40 (by rw [zl_3]; exact i9) rfl rfl ?_
        refine z_w (fun w7 => ?_)
        refine z_getF 4 7 (x := ((h6 3 l1) + 7)) fX11_200 rfl dX11_parting_41 (by omega) rfl ?_
        refine z_iload_n 2 dX11_parting_44 rfl rfl rfl ?_
        refine z_iload_n 3 dX11_parting_45 rfl rfl rfl ?_
        refine z_callVi vX7_classesApart kX11_262 dX11_parting_46 rfl (zRo_d d) (as := [vi l2, vi l3]) (rest := [vr 11 0]) (Nat.le_of_ble_eq_true rfl) rfl rfl (zCi_mono (fun x8 h9 k => ?_) k)
        refine z_callVi vX11_granted kX11_116 dX11_parting_49 rfl (zRo_d d) (as := [vi x8]) (rest := []) (Nat.le_of_ble_eq_true rfl) rfl rfl (zCi_mono (fun x10 h11 k => ?_) k)
        exact z_ireturn rfl dX11_parting_52 ⟨_, rfl, k⟩
      · have k := kb q
        refine z_bipush dX11_parting_30 rfl rfl ?_
        refine z_goto (tgt := 49) dX11_parting_32 rfl ?_
        refine z_callVi vX11_granted kX11_116 dX11_parting_49 rfl (zRo_d d) (as := [vi (-2)]) (rest := []) (Nat.le_of_ble_eq_true rfl) rfl rfl (zCi_mono (fun x12 h13 k => ?_) k)
        exact z_ireturn rfl dX11_parting_52 ⟨_, rfl, k⟩
    · have k := kb q
      refine z_aload_n 0 dX11_parting_18 rfl rfl (Nat.le_of_ble_eq_true rfl) rfl ?_
      refine z_iconst dX11_parting_19 rfl ?_
      refine z_callVi vX11_refused kX11_84 dX11_parting_20 rfl (zRo_d d) (as := [vi 1]) (rest := []) (Nat.le_of_ble_eq_true rfl) rfl rfl (zCi_mono (fun x14 h15 k => ?_) k)
      exact z_ireturn rfl dX11_parting_23 ⟨_, rfl, k⟩
theorem eX11_parting {G : zG} {d : Nat} {K : Int → zH → Prop} {l1 : Int} {l2 : Int} {l3 : Int} {h : zH} (k : tX11_parting_0 G d K l1 l2 l3 h) : zCi G (d + 1) mX11_parting [vr 11 0, vi l1, vi l2, vi l3] h K := z_entry (by decide +kernel) (Nat.le_of_ble_eq_true rfl) rfl k
def tX11_partingLetter_0 (G : zG) (d : Nat) (K : Int → zH → Prop) (l1 : Int) (l2 : Int) (l3 : Int) (l4 : Int) (h : zH) : Prop := zTi G (d + 1) mX11_partingLetter K 0 [some (vr 11 0), some (vi l1), some (vi l2), some (vi l3), some (vi l4)] [] h
theorem bX11_partingLetter_0 {G : zG} {d : Nat} {K : Int → zH → Prop} {l1 : Int} {l2 : Int} {l3 : Int} {l4 : Int} {h : zH} (k : zCb G d mX11_isClass [vr 11 0, vi l1, vi l2] h (fun x1 h2 => (x1 = false → zCi G d mX11_refused [vr 11 0, vi 1] h2 (fun x3 h4 => K x3 h4)) ∧ (x1 = true → zCb G d mX11_isClass [vr 11 0, vi l1, vi l3] h2 (fun x5 h6 => (x5 = false → zCi G d mX11_refused [vr 11 0, vi 1] h6 (fun x7 h8 => K x7 h8)) ∧ (x5 = true → zR l2 ∧ zR l3 ∧ (l2 = l3 → zCi G d mX11_refused [vr 11 0, vi 1] h6 (fun x9 h10 => K x9 h10)) ∧ (¬ l2 = l3 → ((0 : Int) ≤ l1 ∧ l1 < 10) ∧ zCi G d mX7_classesApart [vr 7 ((h6 3 l1) + 7), vi l2, vi l3] h6 (fun x12 h13 => zCb G d mX11_isIn [vi l4, vi x12] h13 (fun x14 h15 => (x14 = true → ((0 : Int) ≤ l1 ∧ l1 < 10) ∧ ((0 : Int) ≤ l1 ∧ l1 < 10) ∧ zCi G d mX7_partingBlock [vr 7 ((h15 3 l1) + 7), vi l2, vi l3, vi l4] h15 (fun x18 h19 => ((0 : Int) ≤ x18 ∧ x18 < 128) ∧ zCi G d mX11_granted [vr 11 0, vi (h19 ((h15 3 l1) + 6) x18)] h19 (fun x20 h21 => K x20 h21))) ∧ (x14 = false → zCi G d mX11_refused [vr 11 0, vi 1] h15 (fun x22 h23 => K x22 h23)))))))))) : tX11_partingLetter_0 G d K l1 l2 l3 l4 h := by
  unfold tX11_partingLetter_0
  refine z_aload_n 0 dX11_partingLetter_0 rfl rfl (Nat.le_of_ble_eq_true rfl) rfl ?_
  refine z_iload_n 1 dX11_partingLetter_1 rfl rfl rfl ?_
  refine z_iload_n 2 dX11_partingLetter_2 rfl rfl rfl ?_
  refine z_callVb vX11_isClass kX11_238 dX11_partingLetter_3 rfl (zRo_d d) (as := [vi l1, vi l2]) (rest := []) (Nat.le_of_ble_eq_true rfl) rfl rfl (zCb_mono (fun x1 h2 k => ?_) k)
  obtain ⟨ka, kb⟩ := k
  refine z_ifb_eq (tgt := 45) dX11_partingLetter_6 rfl rfl ⟨fun q => ?_, fun q => ?_⟩
  · have k := ka q
    refine z_aload_n 0 dX11_partingLetter_45 rfl rfl (Nat.le_of_ble_eq_true rfl) rfl ?_
    refine z_iconst dX11_partingLetter_46 rfl ?_
    refine z_callVi vX11_refused kX11_84 dX11_partingLetter_47 rfl (zRo_d d) (as := [vi 1]) (rest := []) (Nat.le_of_ble_eq_true rfl) rfl rfl (zCi_mono (fun x3 h4 k => ?_) k)
    exact z_ireturn rfl dX11_partingLetter_50 ⟨_, rfl, k⟩
  · have k := kb q
    refine z_aload_n 0 dX11_partingLetter_9 rfl rfl (Nat.le_of_ble_eq_true rfl) rfl ?_
    refine z_iload_n 1 dX11_partingLetter_10 rfl rfl rfl ?_
    refine z_iload_n 3 dX11_partingLetter_11 rfl rfl rfl ?_
    refine z_callVb vX11_isClass kX11_238 dX11_partingLetter_12 rfl (zRo_d d) (as := [vi l1, vi l3]) (rest := []) (Nat.le_of_ble_eq_true rfl) rfl rfl (zCb_mono (fun x5 h6 k => ?_) k)
    obtain ⟨ka, kb⟩ := k
    refine z_ifb_eq (tgt := 45) dX11_partingLetter_15 rfl rfl ⟨fun q => ?_, fun q => ?_⟩
    · have k := ka q
      refine z_aload_n 0 dX11_partingLetter_45 rfl rfl (Nat.le_of_ble_eq_true rfl) rfl ?_
      refine z_iconst dX11_partingLetter_46 rfl ?_
      refine z_callVi vX11_refused kX11_84 dX11_partingLetter_47 rfl (zRo_d d) (as := [vi 1]) (rest := []) (Nat.le_of_ble_eq_true rfl) rfl rfl (zCi_mono (fun x7 h8 k => ?_) k)
      exact z_ireturn rfl dX11_partingLetter_50 ⟨_, rfl, k⟩
    · have k := kb q
      refine z_iload_n 2 dX11_partingLetter_18 rfl rfl rfl ?_
      refine z_iload_n 3 dX11_partingLetter_19 rfl rfl rfl ?_
      obtain ⟨r1, r2, ka, kb⟩ := k
      refine z_icmp_eq (tgt := 45) dX11_partingLetter_20 rfl r1 r2 rfl ⟨fun q => ?_, fun q => ?_⟩
      · have k := ka q
        refine z_aload_n 0 dX11_partingLetter_45 rfl rfl (Nat.le_of_ble_eq_true rfl) rfl ?_
        refine z_iconst dX11_partingLetter_46 rfl ?_
        refine z_callVi vX11_refused kX11_84 dX11_partingLetter_47 rfl (zRo_d d) (as := [vi 1]) (rest := []) (Nat.le_of_ble_eq_true rfl) rfl rfl (zCi_mono (fun x9 h10 k => ?_) k)
        exact z_ireturn rfl dX11_partingLetter_50 ⟨_, rfl, k⟩
      · have k := kb q
        refine z_iload dX11_partingLetter_23 rfl rfl ?_
        refine z_aload_n 0 dX11_partingLetter_25 rfl rfl (Nat.le_of_ble_eq_true rfl) rfl ?_
        refine z_getF 11 17 (x := 3) fX11_19 rfl dX11_partingLetter_26 rfl rfl ?_
        refine z_iload_n 1 dX11_partingLetter_29 rfl rfl rfl ?_
        obtain ⟨i9, k⟩ := k
        refine z_aald17 (x := (h6 3 l1)) dX11_partingLetter_30 (by rw [zl_3]; exact i9) rfl rfl ?_
        refine z_w (fun w11 => ?_)
        refine z_getF 4 7 (x := ((h6 3 l1) + 7)) fX11_200 rfl dX11_partingLetter_31 (by omega) rfl ?_
        refine z_iload_n 2 dX11_partingLetter_34 rfl rfl rfl ?_
        refine z_iload_n 3 dX11_partingLetter_35 rfl rfl rfl ?_
        refine z_callVi vX7_classesApart kX11_262 dX11_partingLetter_36 rfl (zRo_d d) (as := [vi l2, vi l3]) (rest := [vi l4]) (Nat.le_of_ble_eq_true rfl) rfl rfl (zCi_mono (fun x12 h13 k => ?_) k)
        refine z_callSb sX11_isIn kX11_133 dX11_partingLetter_39 rfl (zRo_d d) (as := [vi l4, vi x12]) (rest := []) (Nat.le_of_ble_eq_true rfl) rfl rfl (zCb_mono (fun x14 h15 k => ?_) k)
        obtain ⟨ka, kb⟩ := k
        refine z_ifb_ne (tgt := 51) dX11_partingLetter_42 rfl rfl ⟨fun q => ?_, fun q => ?_⟩
        · have k := ka q
          refine z_aload_n 0 dX11_partingLetter_51 rfl rfl (Nat.le_of_ble_eq_true rfl) rfl ?_
          refine z_aload_n 0 dX11_partingLetter_52 rfl rfl (Nat.le_of_ble_eq_true rfl) rfl ?_
          refine z_getF 11 17 (x := 3) fX11_19 rfl dX11_partingLetter_53 rfl rfl ?_
          refine z_iload_n 1 dX11_partingLetter_56 rfl rfl rfl ?_
          obtain ⟨i9, k⟩ := k
          refine z_aald17 (x := (h15 3 l1)) dX11_partingLetter_57 (by rw [zl_3]; exact i9) rfl rfl ?_
          refine z_w (fun w16 => ?_)
          refine z_getF 4 13 (x := ((h15 3 l1) + 6)) fX11_197 rfl dX11_partingLetter_58 (by omega) rfl ?_
          refine z_aload_n 0 dX11_partingLetter_61 rfl rfl (Nat.le_of_ble_eq_true rfl) rfl ?_
          refine z_getF 11 17 (x := 3) fX11_19 rfl dX11_partingLetter_62 rfl rfl ?_
          refine z_iload_n 1 dX11_partingLetter_65 rfl rfl rfl ?_
          obtain ⟨i9, k⟩ := k
          refine z_aald17 (x := (h15 3 l1)) dX11_partingLetter_66 (by rw [zl_3]; exact i9) rfl rfl ?_
          refine z_w (fun w17 => ?_)
          refine z_getF 4 7 (x := ((h15 3 l1) + 7)) fX11_200 rfl dX11_partingLetter_67 (by omega) rfl ?_
          refine z_iload_n 2 dX11_partingLetter_70 rfl rfl rfl ?_
          refine z_iload_n 3 dX11_partingLetter_71 rfl rfl rfl ?_
          refine z_iload dX11_partingLetter_72 rfl rfl ?_
          refine z_callVi vX7_partingBlock kX11_265 dX11_partingLetter_74 rfl (zRo_d d) (as := [vi l2, vi l3, vi l4]) (rest := [vr 13 ((h15 3 l1) + 6), vr 11 0]) (Nat.le_of_ble_eq_true rfl) rfl rfl (zCi_mono (fun x18 h19 k => ?_) k)
          obtain ⟨i9, k⟩ := k
          refine z_iald (x := (h19 ((h15 3 l1) + 6) x18)) dX11_partingLetter_77 (by rw [zl4_6 w17]; exact i9) rfl rfl ?_
          refine z_callVi vX11_granted kX11_116 dX11_partingLetter_78 rfl (zRo_d d) (as := [vi (h19 ((h15 3 l1) + 6) x18)]) (rest := []) (Nat.le_of_ble_eq_true rfl) rfl rfl (zCi_mono (fun x20 h21 k => ?_) k)
          exact z_ireturn rfl dX11_partingLetter_81 ⟨_, rfl, k⟩
        · have k := kb q
          refine z_aload_n 0 dX11_partingLetter_45 rfl rfl (Nat.le_of_ble_eq_true rfl) rfl ?_
          refine z_iconst dX11_partingLetter_46 rfl ?_
          refine z_callVi vX11_refused kX11_84 dX11_partingLetter_47 rfl (zRo_d d) (as := [vi 1]) (rest := []) (Nat.le_of_ble_eq_true rfl) rfl rfl (zCi_mono (fun x22 h23 k => ?_) k)
          exact z_ireturn rfl dX11_partingLetter_50 ⟨_, rfl, k⟩
theorem eX11_partingLetter {G : zG} {d : Nat} {K : Int → zH → Prop} {l1 : Int} {l2 : Int} {l3 : Int} {l4 : Int} {h : zH} (k : tX11_partingLetter_0 G d K l1 l2 l3 l4 h) : zCi G (d + 1) mX11_partingLetter [vr 11 0, vi l1, vi l2, vi l3, vi l4] h K := z_entry (by decide +kernel) (Nat.le_of_ble_eq_true rfl) rfl k
def tX11_rounds_0 (G : zG) (d : Nat) (K : Int → zH → Prop) (l1 : Int) (h : zH) : Prop := zTi G (d + 1) mX11_rounds K 0 [some (vr 11 0), some (vi l1)] [] h
theorem bX11_rounds_0 {G : zG} {d : Nat} {K : Int → zH → Prop} {l1 : Int} {h : zH} (k : zCb G d mX11_isMachine [vr 11 0, vi l1] h (fun x1 h2 => (x1 = true → ((0 : Int) ≤ l1 ∧ l1 < 10) ∧ zCi G d mX11_granted [vr 11 0, vi (h2 ((h2 3 l1) + 7) 15)] h2 (fun x4 h5 => K x4 h5)) ∧ (x1 = false → zCi G d mX11_refused [vr 11 0, vi 1] h2 (fun x6 h7 => K x6 h7)))) : tX11_rounds_0 G d K l1 h := by
  unfold tX11_rounds_0
  refine z_aload_n 0 dX11_rounds_0 rfl rfl (Nat.le_of_ble_eq_true rfl) rfl ?_
  refine z_iload_n 1 dX11_rounds_1 rfl rfl rfl ?_
  refine z_callVb vX11_isMachine kX11_152 dX11_rounds_2 rfl (zRo_d d) (as := [vi l1]) (rest := []) (Nat.le_of_ble_eq_true rfl) rfl rfl (zCb_mono (fun x1 h2 k => ?_) k)
  obtain ⟨ka, kb⟩ := k
  refine z_ifb_ne (tgt := 14) dX11_rounds_5 rfl rfl ⟨fun q => ?_, fun q => ?_⟩
  · have k := ka q
    refine z_aload_n 0 dX11_rounds_14 rfl rfl (Nat.le_of_ble_eq_true rfl) rfl ?_
    refine z_aload_n 0 dX11_rounds_15 rfl rfl (Nat.le_of_ble_eq_true rfl) rfl ?_
    refine z_getF 11 17 (x := 3) fX11_19 rfl dX11_rounds_16 rfl rfl ?_
    refine z_iload_n 1 dX11_rounds_19 rfl rfl rfl ?_
    obtain ⟨i9, k⟩ := k
    refine z_aald17 (x := (h2 3 l1)) dX11_rounds_20 (by rw [zl_3]; exact i9) rfl rfl ?_
    refine z_w (fun w3 => ?_)
    refine z_getF 4 7 (x := ((h2 3 l1) + 7)) fX11_200 rfl dX11_rounds_21 (by omega) rfl ?_
    refine z_getI 7 (x := (h2 ((h2 3 l1) + 7) 15)) fX11_268 rfl dX11_rounds_24 rfl rfl ?_
    refine z_callVi vX11_granted kX11_116 dX11_rounds_27 rfl (zRo_d d) (as := [vi (h2 ((h2 3 l1) + 7) 15)]) (rest := []) (Nat.le_of_ble_eq_true rfl) rfl rfl (zCi_mono (fun x4 h5 k => ?_) k)
    exact z_ireturn rfl dX11_rounds_30 ⟨_, rfl, k⟩
  · have k := kb q
    refine z_aload_n 0 dX11_rounds_8 rfl rfl (Nat.le_of_ble_eq_true rfl) rfl ?_
    refine z_iconst dX11_rounds_9 rfl ?_
    refine z_callVi vX11_refused kX11_84 dX11_rounds_10 rfl (zRo_d d) (as := [vi 1]) (rest := []) (Nat.le_of_ble_eq_true rfl) rfl rfl (zCi_mono (fun x6 h7 k => ?_) k)
    exact z_ireturn rfl dX11_rounds_13 ⟨_, rfl, k⟩
theorem eX11_rounds {G : zG} {d : Nat} {K : Int → zH → Prop} {l1 : Int} {h : zH} (k : tX11_rounds_0 G d K l1 h) : zCi G (d + 1) mX11_rounds [vr 11 0, vi l1] h K := z_entry (by decide +kernel) (Nat.le_of_ble_eq_true rfl) rfl k
def tX11_word_0 (G : zG) (d : Nat) (K : Int → zH → Prop) (l1 : Int) (l2 : Int) (l3 : Int) (l4 : Int) (l5 : Int) (h : zH) : Prop := zTi G (d + 1) mX11_word K 0 [some (vr 11 0), some (vi l1), some (vi l2), some (vi l3), some (vi l4), some (vi l5), none] [] h
def tX11_word_28 (G : zG) (d : Nat) (K : Int → zH → Prop) (l1 : Int) (l2 : Int) (l3 : Int) (l4 : Int) (l5 : Int) (h : zH) : Prop := zTi G (d + 1) mX11_word K 28 [some (vr 11 0), some (vi l1), some (vi l2), some (vi l3), some (vi l4), some (vi l5), none] [] h
def tX11_word_42 (G : zG) (d : Nat) (K : Int → zH → Prop) (l1 : Int) (l2 : Int) (l3 : Int) (l4 : Int) (l5 : Int) (h : zH) : Prop := zTi G (d + 1) mX11_word K 42 [some (vr 11 0), some (vi l1), some (vi l2), some (vi l3), some (vi l4), some (vi l5), none] [] h
def tX11_word_57 (G : zG) (d : Nat) (K : Int → zH → Prop) (l1 : Int) (l2 : Int) (l3 : Int) (l4 : Int) (l5 : Int) (h : zH) : Prop := zTi G (d + 1) mX11_word K 57 [some (vr 11 0), some (vi l1), some (vi l2), some (vi l3), some (vi l4), some (vi l5), none] [] h
def tX11_word_72 (G : zG) (d : Nat) (K : Int → zH → Prop) (l1 : Int) (l2 : Int) (l3 : Int) (l4 : Int) (l5 : Int) (h : zH) : Prop := zTi G (d + 1) mX11_word K 72 [some (vr 11 0), some (vi l1), some (vi l2), some (vi l3), some (vi l4), some (vi l5), none] [] h
def tX11_word_76 (G : zG) (d : Nat) (K : Int → zH → Prop) (l1 : Int) (l2 : Int) (l3 : Int) (l4 : Int) (l5 : Int) (h : zH) : Prop := zTi G (d + 1) mX11_word K 76 [some (vr 11 0), some (vi l1), some (vi l2), some (vi l3), some (vi l4), some (vi l5), none] [] h
theorem bX11_word_0 {G : zG} {d : Nat} {K : Int → zH → Prop} {l1 : Int} {l2 : Int} {l3 : Int} {l4 : Int} {l5 : Int} {h : zH} (k : zCb G d mX11_isIn [vi l1, vi 5] h (fun x1 h2 => (x1 = true → zR l1 ∧ (l1 < 1 → tX11_word_28 G d K l1 l2 l3 l4 l5 h2) ∧ (¬ l1 < 1 → zCb G d mX11_isIn [vi l2, vi 65536] h2 (fun x3 h4 => (x3 = false → tX11_word_76 G d K l1 l2 l3 l4 l5 h4) ∧ (x3 = true → tX11_word_28 G d K l1 l2 l3 l4 l5 h4)))) ∧ (x1 = false → zCi G d mX11_refused [vr 11 0, vi 2] h2 (fun x5 h6 => K x5 h6)))) : tX11_word_0 G d K l1 l2 l3 l4 l5 h := by
  unfold tX11_word_0
  refine z_iload_n 1 dX11_word_0 rfl rfl rfl ?_
  refine z_iconst dX11_word_1 rfl ?_
  refine z_callSb sX11_isIn kX11_133 dX11_word_2 rfl (zRo_d d) (as := [vi l1, vi 5]) (rest := []) (Nat.le_of_ble_eq_true rfl) rfl rfl (zCb_mono (fun x1 h2 k => ?_) k)
  obtain ⟨ka, kb⟩ := k
  refine z_ifb_ne (tgt := 14) dX11_word_5 rfl rfl ⟨fun q => ?_, fun q => ?_⟩
  · have k := ka q
    refine z_iload_n 1 dX11_word_14 rfl rfl rfl ?_
    refine z_iconst dX11_word_15 rfl ?_
    obtain ⟨r1, ka, kb⟩ := k
    refine z_icmp_lt (tgt := 28) dX11_word_16 rfl r1 ⟨by decide, by decide⟩ rfl ⟨fun q => ?_, fun q => ?_⟩
    · have k := ka q
      exact z_sub (L' := [some (vr 11 0), some (vi l1), some (vi l2), some (vi l3), some (vi l4), some (vi l5), none]) (And.intro rfl (And.intro rfl (And.intro rfl (And.intro rfl (And.intro rfl (And.intro rfl trivial)))))) k
    · have k := kb q
      refine z_iload_n 2 dX11_word_19 rfl rfl rfl ?_
      refine z_ldc (x := 65536) cX11_144 rfl dX11_word_20 rfl ?_
      refine z_callSb sX11_isIn kX11_133 dX11_word_22 rfl (zRo_d d) (as := [vi l2, vi 65536]) (rest := []) (Nat.le_of_ble_eq_true rfl) rfl rfl (zCb_mono (fun x3 h4 k => ?_) k)
      obtain ⟨ka, kb⟩ := k
      refine z_ifb_eq (tgt := 76) dX11_word_25 rfl rfl ⟨fun q => ?_, fun q => ?_⟩
      · have k := ka q
        exact z_sub (L' := [some (vr 11 0), some (vi l1), some (vi l2), some (vi l3), some (vi l4), some (vi l5), none]) (And.intro rfl (And.intro rfl (And.intro rfl (And.intro rfl (And.intro rfl (And.intro rfl trivial)))))) k
      · have k := kb q
        exact z_sub (L' := [some (vr 11 0), some (vi l1), some (vi l2), some (vi l3), some (vi l4), some (vi l5), none]) (And.intro rfl (And.intro rfl (And.intro rfl (And.intro rfl (And.intro rfl (And.intro rfl trivial)))))) k
  · have k := kb q
    refine z_aload_n 0 dX11_word_8 rfl rfl (Nat.le_of_ble_eq_true rfl) rfl ?_
    refine z_iconst dX11_word_9 rfl ?_
    refine z_callVi vX11_refused kX11_84 dX11_word_10 rfl (zRo_d d) (as := [vi 2]) (rest := []) (Nat.le_of_ble_eq_true rfl) rfl rfl (zCi_mono (fun x5 h6 k => ?_) k)
    exact z_ireturn rfl dX11_word_13 ⟨_, rfl, k⟩
theorem bX11_word_28 {G : zG} {d : Nat} {K : Int → zH → Prop} {l1 : Int} {l2 : Int} {l3 : Int} {l4 : Int} {l5 : Int} {h : zH} (k : zR l1 ∧ (l1 < 2 → tX11_word_42 G d K l1 l2 l3 l4 l5 h) ∧ (¬ l1 < 2 → zCb G d mX11_isIn [vi l3, vi 65536] h (fun x1 h2 => (x1 = false → tX11_word_76 G d K l1 l2 l3 l4 l5 h2) ∧ (x1 = true → tX11_word_42 G d K l1 l2 l3 l4 l5 h2)))) : tX11_word_28 G d K l1 l2 l3 l4 l5 h := by
  unfold tX11_word_28
  refine z_iload_n 1 dX11_word_28 rfl rfl rfl ?_
  refine z_iconst dX11_word_29 rfl ?_
  obtain ⟨r1, ka, kb⟩ := k
  refine z_icmp_lt (tgt := 42) dX11_word_30 rfl r1 ⟨by decide, by decide⟩ rfl ⟨fun q => ?_, fun q => ?_⟩
  · have k := ka q
    exact z_sub (L' := [some (vr 11 0), some (vi l1), some (vi l2), some (vi l3), some (vi l4), some (vi l5), none]) (And.intro rfl (And.intro rfl (And.intro rfl (And.intro rfl (And.intro rfl (And.intro rfl trivial)))))) k
  · have k := kb q
    refine z_iload_n 3 dX11_word_33 rfl rfl rfl ?_
    refine z_ldc (x := 65536) cX11_144 rfl dX11_word_34 rfl ?_
    refine z_callSb sX11_isIn kX11_133 dX11_word_36 rfl (zRo_d d) (as := [vi l3, vi 65536]) (rest := []) (Nat.le_of_ble_eq_true rfl) rfl rfl (zCb_mono (fun x1 h2 k => ?_) k)
    obtain ⟨ka, kb⟩ := k
    refine z_ifb_eq (tgt := 76) dX11_word_39 rfl rfl ⟨fun q => ?_, fun q => ?_⟩
    · have k := ka q
      exact z_sub (L' := [some (vr 11 0), some (vi l1), some (vi l2), some (vi l3), some (vi l4), some (vi l5), none]) (And.intro rfl (And.intro rfl (And.intro rfl (And.intro rfl (And.intro rfl (And.intro rfl trivial)))))) k
    · have k := kb q
      exact z_sub (L' := [some (vr 11 0), some (vi l1), some (vi l2), some (vi l3), some (vi l4), some (vi l5), none]) (And.intro rfl (And.intro rfl (And.intro rfl (And.intro rfl (And.intro rfl (And.intro rfl trivial)))))) k
theorem bX11_word_42 {G : zG} {d : Nat} {K : Int → zH → Prop} {l1 : Int} {l2 : Int} {l3 : Int} {l4 : Int} {l5 : Int} {h : zH} (k : zR l1 ∧ (l1 < 3 → tX11_word_57 G d K l1 l2 l3 l4 l5 h) ∧ (¬ l1 < 3 → zCb G d mX11_isIn [vi l4, vi 65536] h (fun x1 h2 => (x1 = false → tX11_word_76 G d K l1 l2 l3 l4 l5 h2) ∧ (x1 = true → tX11_word_57 G d K l1 l2 l3 l4 l5 h2)))) : tX11_word_42 G d K l1 l2 l3 l4 l5 h := by
  unfold tX11_word_42
  refine z_iload_n 1 dX11_word_42 rfl rfl rfl ?_
  refine z_iconst dX11_word_43 rfl ?_
  obtain ⟨r1, ka, kb⟩ := k
  refine z_icmp_lt (tgt := 57) dX11_word_44 rfl r1 ⟨by decide, by decide⟩ rfl ⟨fun q => ?_, fun q => ?_⟩
  · have k := ka q
    exact z_sub (L' := [some (vr 11 0), some (vi l1), some (vi l2), some (vi l3), some (vi l4), some (vi l5), none]) (And.intro rfl (And.intro rfl (And.intro rfl (And.intro rfl (And.intro rfl (And.intro rfl trivial)))))) k
  · have k := kb q
    refine z_iload dX11_word_47 rfl rfl ?_
    refine z_ldc (x := 65536) cX11_144 rfl dX11_word_49 rfl ?_
    refine z_callSb sX11_isIn kX11_133 dX11_word_51 rfl (zRo_d d) (as := [vi l4, vi 65536]) (rest := []) (Nat.le_of_ble_eq_true rfl) rfl rfl (zCb_mono (fun x1 h2 k => ?_) k)
    obtain ⟨ka, kb⟩ := k
    refine z_ifb_eq (tgt := 76) dX11_word_54 rfl rfl ⟨fun q => ?_, fun q => ?_⟩
    · have k := ka q
      exact z_sub (L' := [some (vr 11 0), some (vi l1), some (vi l2), some (vi l3), some (vi l4), some (vi l5), none]) (And.intro rfl (And.intro rfl (And.intro rfl (And.intro rfl (And.intro rfl (And.intro rfl trivial)))))) k
    · have k := kb q
      exact z_sub (L' := [some (vr 11 0), some (vi l1), some (vi l2), some (vi l3), some (vi l4), some (vi l5), none]) (And.intro rfl (And.intro rfl (And.intro rfl (And.intro rfl (And.intro rfl (And.intro rfl trivial)))))) k
theorem bX11_word_57 {G : zG} {d : Nat} {K : Int → zH → Prop} {l1 : Int} {l2 : Int} {l3 : Int} {l4 : Int} {l5 : Int} {h : zH} (k : zR l1 ∧ (l1 < 4 → tX11_word_72 G d K l1 l2 l3 l4 l5 h) ∧ (¬ l1 < 4 → zCb G d mX11_isIn [vi l5, vi 65536] h (fun x1 h2 => (x1 = false → tX11_word_76 G d K l1 l2 l3 l4 l5 h2) ∧ (x1 = true → tX11_word_72 G d K l1 l2 l3 l4 l5 h2)))) : tX11_word_57 G d K l1 l2 l3 l4 l5 h := by
  unfold tX11_word_57
  refine z_iload_n 1 dX11_word_57 rfl rfl rfl ?_
  refine z_iconst dX11_word_58 rfl ?_
  obtain ⟨r1, ka, kb⟩ := k
  refine z_icmp_lt (tgt := 72) dX11_word_59 rfl r1 ⟨by decide, by decide⟩ rfl ⟨fun q => ?_, fun q => ?_⟩
  · have k := ka q
    exact z_sub (L' := [some (vr 11 0), some (vi l1), some (vi l2), some (vi l3), some (vi l4), some (vi l5), none]) (And.intro rfl (And.intro rfl (And.intro rfl (And.intro rfl (And.intro rfl (And.intro rfl trivial)))))) k
  · have k := kb q
    refine z_iload dX11_word_62 rfl rfl ?_
    refine z_ldc (x := 65536) cX11_144 rfl dX11_word_64 rfl ?_
    refine z_callSb sX11_isIn kX11_133 dX11_word_66 rfl (zRo_d d) (as := [vi l5, vi 65536]) (rest := []) (Nat.le_of_ble_eq_true rfl) rfl rfl (zCb_mono (fun x1 h2 k => ?_) k)
    obtain ⟨ka, kb⟩ := k
    refine z_ifb_eq (tgt := 76) dX11_word_69 rfl rfl ⟨fun q => ?_, fun q => ?_⟩
    · have k := ka q
      exact z_sub (L' := [some (vr 11 0), some (vi l1), some (vi l2), some (vi l3), some (vi l4), some (vi l5), none]) (And.intro rfl (And.intro rfl (And.intro rfl (And.intro rfl (And.intro rfl (And.intro rfl trivial)))))) k
    · have k := kb q
      exact z_sub (L' := [some (vr 11 0), some (vi l1), some (vi l2), some (vi l3), some (vi l4), some (vi l5), none]) (And.intro rfl (And.intro rfl (And.intro rfl (And.intro rfl (And.intro rfl (And.intro rfl trivial)))))) k
theorem bX11_word_72 {G : zG} {d : Nat} {K : Int → zH → Prop} {l1 : Int} {l2 : Int} {l3 : Int} {l4 : Int} {l5 : Int} {h : zH} (k : zCi G d mX11_granted [vr 11 0, vi l1] (zup (zup (zup (zup (zup h 2 0 l2) 2 1 l3) 2 2 l4) 2 3 l5) 0 11 l1) (fun x1 h2 => K x1 h2)) : tX11_word_72 G d K l1 l2 l3 l4 l5 h := by
  unfold tX11_word_72
  refine z_iconst dX11_word_72 rfl ?_
  refine z_goto (tgt := 77) dX11_word_73 rfl ?_
  refine z_istore dX11_word_77 (Nat.le_of_ble_eq_true rfl) (L' := [some (vr 11 0), some (vi l1), some (vi l2), some (vi l3), some (vi l4), some (vi l5), some (vi 1)]) rfl rfl ?_
  refine z_iload dX11_word_79 rfl rfl ?_
  refine z_if_ne (tgt := 90) dX11_word_81 rfl ⟨by decide, by decide⟩ rfl ⟨fun _ => ?_, fun q => absurd q (by decide)⟩
  refine z_aload_n 0 dX11_word_90 rfl rfl (Nat.le_of_ble_eq_true rfl) rfl ?_
  refine z_getF 11 13 (x := 2) fX11_13 rfl dX11_word_91 rfl rfl ?_
  refine z_iconst dX11_word_94 rfl ?_
  refine z_iload_n 2 dX11_word_95 rfl rfl rfl ?_
  refine z_iast dX11_word_96 (by rw [zl_2]; decide) rfl ?_
  refine z_aload_n 0 dX11_word_97 rfl rfl (Nat.le_of_ble_eq_true rfl) rfl ?_
  refine z_getF 11 13 (x := 2) fX11_13 rfl dX11_word_98 rfl rfl ?_
  refine z_iconst dX11_word_101 rfl ?_
  refine z_iload_n 3 dX11_word_102 rfl rfl rfl ?_
  refine z_iast dX11_word_103 (by rw [zl_2]; decide) rfl ?_
  refine z_aload_n 0 dX11_word_104 rfl rfl (Nat.le_of_ble_eq_true rfl) rfl ?_
  refine z_getF 11 13 (x := 2) fX11_13 rfl dX11_word_105 rfl rfl ?_
  refine z_iconst dX11_word_108 rfl ?_
  refine z_iload dX11_word_109 rfl rfl ?_
  refine z_iast dX11_word_111 (by rw [zl_2]; decide) rfl ?_
  refine z_aload_n 0 dX11_word_112 rfl rfl (Nat.le_of_ble_eq_true rfl) rfl ?_
  refine z_getF 11 13 (x := 2) fX11_13 rfl dX11_word_113 rfl rfl ?_
  refine z_iconst dX11_word_116 rfl ?_
  refine z_iload dX11_word_117 rfl rfl ?_
  refine z_iast dX11_word_119 (by rw [zl_2]; decide) rfl ?_
  refine z_aload_n 0 dX11_word_120 rfl rfl (Nat.le_of_ble_eq_true rfl) rfl ?_
  refine z_iload_n 1 dX11_word_121 rfl rfl rfl ?_
  refine z_putI 11 gX11_271 dX11_word_122 rfl ?_
  refine z_aload_n 0 dX11_word_125 rfl rfl (Nat.le_of_ble_eq_true rfl) rfl ?_
  refine z_iload_n 1 dX11_word_126 rfl rfl rfl ?_
  refine z_callVi vX11_granted kX11_116 dX11_word_127 rfl (zRo_d d) (as := [vi l1]) (rest := []) (Nat.le_of_ble_eq_true rfl) rfl rfl (zCi_mono (fun x1 h2 k => ?_) k)
  exact z_ireturn rfl dX11_word_130 ⟨_, rfl, k⟩
theorem bX11_word_76 {G : zG} {d : Nat} {K : Int → zH → Prop} {l1 : Int} {l2 : Int} {l3 : Int} {l4 : Int} {l5 : Int} {h : zH} (k : zCi G d mX11_refused [vr 11 0, vi 2] h (fun x1 h2 => K x1 h2)) : tX11_word_76 G d K l1 l2 l3 l4 l5 h := by
  unfold tX11_word_76
  refine z_iconst dX11_word_76 rfl ?_
  refine z_istore dX11_word_77 (Nat.le_of_ble_eq_true rfl) (L' := [some (vr 11 0), some (vi l1), some (vi l2), some (vi l3), some (vi l4), some (vi l5), some (vi 0)]) rfl rfl ?_
  refine z_iload dX11_word_79 rfl rfl ?_
  refine z_if_ne (tgt := 90) dX11_word_81 rfl ⟨by decide, by decide⟩ rfl ⟨fun q => absurd q (by decide), fun _ => ?_⟩
  refine z_aload_n 0 dX11_word_84 rfl rfl (Nat.le_of_ble_eq_true rfl) rfl ?_
  refine z_iconst dX11_word_85 rfl ?_
  refine z_callVi vX11_refused kX11_84 dX11_word_86 rfl (zRo_d d) (as := [vi 2]) (rest := []) (Nat.le_of_ble_eq_true rfl) rfl rfl (zCi_mono (fun x1 h2 k => ?_) k)
  exact z_ireturn rfl dX11_word_89 ⟨_, rfl, k⟩
theorem eX11_word {G : zG} {d : Nat} {K : Int → zH → Prop} {l1 : Int} {l2 : Int} {l3 : Int} {l4 : Int} {l5 : Int} {h : zH} (k : tX11_word_0 G d K l1 l2 l3 l4 l5 h) : zCi G (d + 1) mX11_word [vr 11 0, vi l1, vi l2, vi l3, vi l4, vi l5] h K := z_entry (by decide +kernel) (Nat.le_of_ble_eq_true rfl) rfl k
def tX11_more_0 (G : zG) (d : Nat) (K : Int → zH → Prop) (l1 : Int) (h : zH) : Prop := zTi G (d + 1) mX11_more K 0 [some (vr 11 0), some (vi l1)] [] h
theorem bX11_more_0 {G : zG} {d : Nat} {K : Int → zH → Prop} {l1 : Int} {h : zH} (k : zCb G d mX11_isIn [vi l1, vi 65536] h (fun x1 h2 => (x1 = true → zR (h2 0 11) ∧ ((h2 0 11) < 16 → ((0 : Int) ≤ (h2 0 11) ∧ (h2 0 11) < 16) ∧ zCi G d mX11_granted [vr 11 0, vi ((h2 0 11) + 1)] (zup (zup h2 2 (h2 0 11) l1) 0 11 ((h2 0 11) + 1)) (fun x3 h4 => K x3 h4)) ∧ (¬ (h2 0 11) < 16 → zCi G d mX11_refused [vr 11 0, vi 3] h2 (fun x5 h6 => K x5 h6))) ∧ (x1 = false → zCi G d mX11_refused [vr 11 0, vi 2] h2 (fun x7 h8 => K x7 h8)))) : tX11_more_0 G d K l1 h := by
  unfold tX11_more_0
  refine z_iload_n 1 dX11_more_0 rfl rfl rfl ?_
  refine z_ldc (x := 65536) cX11_144 rfl dX11_more_1 rfl ?_
  refine z_callSb sX11_isIn kX11_133 dX11_more_3 rfl (zRo_d d) (as := [vi l1, vi 65536]) (rest := []) (Nat.le_of_ble_eq_true rfl) rfl rfl (zCb_mono (fun x1 h2 k => ?_) k)
  obtain ⟨ka, kb⟩ := k
  refine z_ifb_ne (tgt := 15) dX11_more_6 rfl rfl ⟨fun q => ?_, fun q => ?_⟩
  · have k := ka q
    refine z_aload_n 0 dX11_more_15 rfl rfl (Nat.le_of_ble_eq_true rfl) rfl ?_
    refine z_getI 11 (x := (h2 0 11)) fX11_271 rfl dX11_more_16 rfl rfl ?_
    refine z_bipush dX11_more_19 rfl rfl ?_
    obtain ⟨r1, ka, kb⟩ := k
    refine z_icmp_lt (tgt := 30) dX11_more_21 rfl r1 ⟨by decide, by decide⟩ rfl ⟨fun q => ?_, fun q => ?_⟩
    · have k := ka q
      refine z_aload_n 0 dX11_more_30 rfl rfl (Nat.le_of_ble_eq_true rfl) rfl ?_
      refine z_getF 11 13 (x := 2) fX11_13 rfl dX11_more_31 rfl rfl ?_
      refine z_aload_n 0 dX11_more_34 rfl rfl (Nat.le_of_ble_eq_true rfl) rfl ?_
      refine z_getI 11 (x := (h2 0 11)) fX11_271 rfl dX11_more_35 rfl rfl ?_
      refine z_iload_n 1 dX11_more_38 rfl rfl rfl ?_
      obtain ⟨i9, k⟩ := k
      refine z_iast dX11_more_39 (by rw [zl_2]; exact i9) rfl ?_
      refine z_aload_n 0 dX11_more_40 rfl rfl (Nat.le_of_ble_eq_true rfl) rfl ?_
      refine z_dup dX11_more_41 (fun q => by cases q) rfl ?_
      refine z_getI 11 (x := (h2 0 11)) fX11_271 rfl dX11_more_42 (by simp [zup]) rfl ?_
      refine z_iconst dX11_more_45 rfl ?_
      refine z_iadd dX11_more_46 rfl ?_
      refine z_putI 11 gX11_271 dX11_more_47 rfl ?_
      refine z_aload_n 0 dX11_more_50 rfl rfl (Nat.le_of_ble_eq_true rfl) rfl ?_
      refine z_aload_n 0 dX11_more_51 rfl rfl (Nat.le_of_ble_eq_true rfl) rfl ?_
      refine z_getI 11 (x := ((h2 0 11) + 1)) fX11_271 rfl dX11_more_52 (by simp [zup]) rfl ?_
      refine z_callVi vX11_granted kX11_116 dX11_more_55 rfl (zRo_d d) (as := [vi ((h2 0 11) + 1)]) (rest := []) (Nat.le_of_ble_eq_true rfl) rfl rfl (zCi_mono (fun x3 h4 k => ?_) k)
      exact z_ireturn rfl dX11_more_58 ⟨_, rfl, k⟩
    · have k := kb q
      refine z_aload_n 0 dX11_more_24 rfl rfl (Nat.le_of_ble_eq_true rfl) rfl ?_
      refine z_iconst dX11_more_25 rfl ?_
      refine z_callVi vX11_refused kX11_84 dX11_more_26 rfl (zRo_d d) (as := [vi 3]) (rest := []) (Nat.le_of_ble_eq_true rfl) rfl rfl (zCi_mono (fun x5 h6 k => ?_) k)
      exact z_ireturn rfl dX11_more_29 ⟨_, rfl, k⟩
  · have k := kb q
    refine z_aload_n 0 dX11_more_9 rfl rfl (Nat.le_of_ble_eq_true rfl) rfl ?_
    refine z_iconst dX11_more_10 rfl ?_
    refine z_callVi vX11_refused kX11_84 dX11_more_11 rfl (zRo_d d) (as := [vi 2]) (rest := []) (Nat.le_of_ble_eq_true rfl) rfl rfl (zCi_mono (fun x7 h8 k => ?_) k)
    exact z_ireturn rfl dX11_more_14 ⟨_, rfl, k⟩
theorem eX11_more {G : zG} {d : Nat} {K : Int → zH → Prop} {l1 : Int} {h : zH} (k : tX11_more_0 G d K l1 h) : zCi G (d + 1) mX11_more [vr 11 0, vi l1] h K := z_entry (by decide +kernel) (Nat.le_of_ble_eq_true rfl) rfl k
def tX11_taken_0 (G : zG) (d : Nat) (K : Int → zH → Prop) (l1 : Int) (h : zH) : Prop := zTi G (d + 1) mX11_taken K 0 [some (vr 11 0), some (vi l1)] [] h
theorem bX11_taken_0 {G : zG} {d : Nat} {K : Int → zH → Prop} {l1 : Int} {h : zH} (k : zCb G d mX11_isMachine [vr 11 0, vi l1] h (fun x1 h2 => (x1 = true → ((0 : Int) ≤ l1 ∧ l1 < 10) ∧ ((0 : Int) ≤ l1 ∧ l1 < 10) ∧ zCi G d mX11_sheafOfWord [vr 11 0, vr 4 (h2 3 l1)] h2 (fun x5 h6 => zCb G d mX7_sheafTakes [vr 7 ((h2 3 l1) + 7), vi x5] h6 (fun x7 h8 => (x7 = false → zCi G d mX11_granted [vr 11 0, vi 0] h8 (fun x9 h10 => K x9 h10)) ∧ (x7 = true → zCi G d mX11_granted [vr 11 0, vi 1] h8 (fun x11 h12 => K x11 h12))))) ∧ (x1 = false → zCi G d mX11_refused [vr 11 0, vi 1] h2 (fun x13 h14 => K x13 h14)))) : tX11_taken_0 G d K l1 h := by
  unfold tX11_taken_0
  refine z_aload_n 0 dX11_taken_0 rfl rfl (Nat.le_of_ble_eq_true rfl) rfl ?_
  refine z_iload_n 1 dX11_taken_1 rfl rfl rfl ?_
  refine z_callVb vX11_isMachine kX11_152 dX11_taken_2 rfl (zRo_d d) (as := [vi l1]) (rest := []) (Nat.le_of_ble_eq_true rfl) rfl rfl (zCb_mono (fun x1 h2 k => ?_) k)
  obtain ⟨ka, kb⟩ := k
  refine z_ifb_ne (tgt := 14) dX11_taken_5 rfl rfl ⟨fun q => ?_, fun q => ?_⟩
  · have k := ka q
    refine z_aload_n 0 dX11_taken_14 rfl rfl (Nat.le_of_ble_eq_true rfl) rfl ?_
    refine z_aload_n 0 dX11_taken_15 rfl rfl (Nat.le_of_ble_eq_true rfl) rfl ?_
    refine z_getF 11 17 (x := 3) fX11_19 rfl dX11_taken_16 rfl rfl ?_
    refine z_iload_n 1 dX11_taken_19 rfl rfl rfl ?_
    obtain ⟨i9, k⟩ := k
    refine z_aald17 (x := (h2 3 l1)) dX11_taken_20 (by rw [zl_3]; exact i9) rfl rfl ?_
    refine z_w (fun w3 => ?_)
    refine z_getF 4 7 (x := ((h2 3 l1) + 7)) fX11_200 rfl dX11_taken_21 (by omega) rfl ?_
    refine z_aload_n 0 dX11_taken_24 rfl rfl (Nat.le_of_ble_eq_true rfl) rfl ?_
    refine z_aload_n 0 dX11_taken_25 rfl rfl (Nat.le_of_ble_eq_true rfl) rfl ?_
    refine z_getF 11 17 (x := 3) fX11_19 rfl dX11_taken_26 rfl rfl ?_
    refine z_iload_n 1 dX11_taken_29 rfl rfl rfl ?_
    obtain ⟨i9, k⟩ := k
    refine z_aald17 (x := (h2 3 l1)) dX11_taken_30 (by rw [zl_3]; exact i9) rfl rfl ?_
    refine z_w (fun w4 => ?_)
    refine z_callVi vX11_sheafOfWord kX11_274 dX11_taken_31 rfl (zRo_d d) (as := [vr 4 (h2 3 l1)]) (rest := [vr 7 ((h2 3 l1) + 7), vr 11 0]) (Nat.le_of_ble_eq_true rfl) rfl rfl (zCi_mono (fun x5 h6 k => ?_) k)
    refine z_callVb vX7_sheafTakes kX11_278 dX11_taken_34 rfl (zRo_d d) (as := [vi x5]) (rest := [vr 11 0]) (Nat.le_of_ble_eq_true rfl) rfl rfl (zCb_mono (fun x7 h8 k => ?_) k)
    obtain ⟨ka, kb⟩ := k
    refine z_ifb_eq (tgt := 44) dX11_taken_37 rfl rfl ⟨fun q => ?_, fun q => ?_⟩
    · have k := ka q
      refine z_iconst dX11_taken_44 rfl ?_
      refine z_callVi vX11_granted kX11_116 dX11_taken_45 rfl (zRo_d d) (as := [vi 0]) (rest := []) (Nat.le_of_ble_eq_true rfl) rfl rfl (zCi_mono (fun x9 h10 k => ?_) k)
      exact z_ireturn rfl dX11_taken_48 ⟨_, rfl, k⟩
    · have k := kb q
      refine z_iconst dX11_taken_40 rfl ?_
      refine z_goto (tgt := 45) dX11_taken_41 rfl ?_
      refine z_callVi vX11_granted kX11_116 dX11_taken_45 rfl (zRo_d d) (as := [vi 1]) (rest := []) (Nat.le_of_ble_eq_true rfl) rfl rfl (zCi_mono (fun x11 h12 k => ?_) k)
      exact z_ireturn rfl dX11_taken_48 ⟨_, rfl, k⟩
  · have k := kb q
    refine z_aload_n 0 dX11_taken_8 rfl rfl (Nat.le_of_ble_eq_true rfl) rfl ?_
    refine z_iconst dX11_taken_9 rfl ?_
    refine z_callVi vX11_refused kX11_84 dX11_taken_10 rfl (zRo_d d) (as := [vi 1]) (rest := []) (Nat.le_of_ble_eq_true rfl) rfl rfl (zCi_mono (fun x13 h14 k => ?_) k)
    exact z_ireturn rfl dX11_taken_13 ⟨_, rfl, k⟩
theorem eX11_taken {G : zG} {d : Nat} {K : Int → zH → Prop} {l1 : Int} {h : zH} (k : tX11_taken_0 G d K l1 h) : zCi G (d + 1) mX11_taken [vr 11 0, vi l1] h K := z_entry (by decide +kernel) (Nat.le_of_ble_eq_true rfl) rfl k
def tX11_leads_0 (G : zG) (d : Nat) (K : Int → zH → Prop) (l1 : Int) (h : zH) : Prop := zTl G (d + 1) mX11_leads K 0 [some (vr 11 0), some (vi l1)] [] h
theorem bX11_leads_0 {G : zG} {d : Nat} {K : Int → zH → Prop} {l1 : Int} {h : zH} (k : zCb G d mX11_isMachine [vr 11 0, vi l1] h (fun x1 h2 => (x1 = true → ((0 : Int) ≤ l1 ∧ l1 < 10) ∧ ((0 : Int) ≤ l1 ∧ l1 < 10) ∧ zCi G d mX11_sheafOfWord [vr 11 0, vr 4 (h2 3 l1)] h2 (fun x5 h6 => ((0 : Int) ≤ x5 ∧ x5 < 40) ∧ zCl G d mX11_grantedLong [vr 11 0, vl (h6 ((h2 3 l1) + 8) x5)] h6 (fun x7 h8 => K x7 h8))) ∧ (x1 = false → zCi G d mX11_refused [vr 11 0, vi 1] h2 (fun x9 h10 => zR x9 ∧ K x9 h10)))) : tX11_leads_0 G d K l1 h := by
  unfold tX11_leads_0
  refine z_aload_n 0 dX11_leads_0 rfl rfl (Nat.le_of_ble_eq_true rfl) rfl ?_
  refine z_iload_n 1 dX11_leads_1 rfl rfl rfl ?_
  refine z_callVb vX11_isMachine kX11_152 dX11_leads_2 rfl (zRo_d d) (as := [vi l1]) (rest := []) (Nat.le_of_ble_eq_true rfl) rfl rfl (zCb_mono (fun x1 h2 k => ?_) k)
  obtain ⟨ka, kb⟩ := k
  refine z_ifb_ne (tgt := 15) dX11_leads_5 rfl rfl ⟨fun q => ?_, fun q => ?_⟩
  · have k := ka q
    refine z_aload_n 0 dX11_leads_15 rfl rfl (Nat.le_of_ble_eq_true rfl) rfl ?_
    refine z_aload_n 0 dX11_leads_16 rfl rfl (Nat.le_of_ble_eq_true rfl) rfl ?_
    refine z_getF 11 17 (x := 3) fX11_19 rfl dX11_leads_17 rfl rfl ?_
    refine z_iload_n 1 dX11_leads_20 rfl rfl rfl ?_
    obtain ⟨i9, k⟩ := k
    refine z_aald17 (x := (h2 3 l1)) dX11_leads_21 (by rw [zl_3]; exact i9) rfl rfl ?_
    refine z_w (fun w3 => ?_)
    refine z_getF 4 7 (x := ((h2 3 l1) + 7)) fX11_200 rfl dX11_leads_22 (by omega) rfl ?_
    refine z_getF 7 14 (x := ((h2 3 l1) + 8)) fX11_209 rfl dX11_leads_25 (by omega) rfl ?_
    refine z_aload_n 0 dX11_leads_28 rfl rfl (Nat.le_of_ble_eq_true rfl) rfl ?_
    refine z_aload_n 0 dX11_leads_29 rfl rfl (Nat.le_of_ble_eq_true rfl) rfl ?_
    refine z_getF 11 17 (x := 3) fX11_19 rfl dX11_leads_30 rfl rfl ?_
    refine z_iload_n 1 dX11_leads_33 rfl rfl rfl ?_
    obtain ⟨i9, k⟩ := k
    refine z_aald17 (x := (h2 3 l1)) dX11_leads_34 (by rw [zl_3]; exact i9) rfl rfl ?_
    refine z_w (fun w4 => ?_)
    refine z_callVi vX11_sheafOfWord kX11_274 dX11_leads_35 rfl (zRo_d d) (as := [vr 4 (h2 3 l1)]) (rest := [vr 14 ((h2 3 l1) + 8), vr 11 0]) (Nat.le_of_ble_eq_true rfl) rfl rfl (zCi_mono (fun x5 h6 k => ?_) k)
    obtain ⟨i9, k⟩ := k
    refine z_lald (x := (h6 ((h2 3 l1) + 8) x5)) dX11_leads_38 (by rw [zl4_8 w4]; exact i9) rfl rfl ?_
    refine z_callVl vX11_grantedLong kX11_190 dX11_leads_39 rfl (zRo_d d) (as := [vl (h6 ((h2 3 l1) + 8) x5)]) (rest := []) (Nat.le_of_ble_eq_true rfl) rfl rfl (zCl_mono (fun x7 h8 k => ?_) k)
    exact z_lreturn rfl dX11_leads_42 ⟨_, rfl, k⟩
  · have k := kb q
    refine z_aload_n 0 dX11_leads_8 rfl rfl (Nat.le_of_ble_eq_true rfl) rfl ?_
    refine z_iconst dX11_leads_9 rfl ?_
    refine z_callVi vX11_refused kX11_84 dX11_leads_10 rfl (zRo_d d) (as := [vi 1]) (rest := []) (Nat.le_of_ble_eq_true rfl) rfl rfl (zCi_mono (fun x9 h10 k => ?_) k)
    obtain ⟨r9, k⟩ := k
    refine z_i2l dX11_leads_13 r9 rfl ?_
    exact z_lreturn rfl dX11_leads_14 ⟨_, rfl, k⟩
theorem eX11_leads {G : zG} {d : Nat} {K : Int → zH → Prop} {l1 : Int} {h : zH} (k : tX11_leads_0 G d K l1 h) : zCl G (d + 1) mX11_leads [vr 11 0, vi l1] h K := z_entry (by decide +kernel) (Nat.le_of_ble_eq_true rfl) rfl k
def tX11_classOf_0 (G : zG) (d : Nat) (K : Int → zH → Prop) (l1 : Int) (h : zH) : Prop := zTi G (d + 1) mX11_classOf K 0 [some (vr 11 0), some (vi l1)] [] h
theorem bX11_classOf_0 {G : zG} {d : Nat} {K : Int → zH → Prop} {l1 : Int} {h : zH} (k : zCb G d mX11_isMachine [vr 11 0, vi l1] h (fun x1 h2 => (x1 = true → ((0 : Int) ≤ l1 ∧ l1 < 10) ∧ ((0 : Int) ≤ l1 ∧ l1 < 10) ∧ zCi G d mX11_sheafOfWord [vr 11 0, vr 4 (h2 3 l1)] h2 (fun x5 h6 => ((0 : Int) ≤ x5 ∧ x5 < 40) ∧ zCi G d mX11_granted [vr 11 0, vi (h6 ((h2 3 l1) + 15) x5)] h6 (fun x7 h8 => K x7 h8))) ∧ (x1 = false → zCi G d mX11_refused [vr 11 0, vi 1] h2 (fun x9 h10 => K x9 h10)))) : tX11_classOf_0 G d K l1 h := by
  unfold tX11_classOf_0
  refine z_aload_n 0 dX11_classOf_0 rfl rfl (Nat.le_of_ble_eq_true rfl) rfl ?_
  refine z_iload_n 1 dX11_classOf_1 rfl rfl rfl ?_
  refine z_callVb vX11_isMachine kX11_152 dX11_classOf_2 rfl (zRo_d d) (as := [vi l1]) (rest := []) (Nat.le_of_ble_eq_true rfl) rfl rfl (zCb_mono (fun x1 h2 k => ?_) k)
  obtain ⟨ka, kb⟩ := k
  refine z_ifb_ne (tgt := 14) dX11_classOf_5 rfl rfl ⟨fun q => ?_, fun q => ?_⟩
  · have k := ka q
    refine z_aload_n 0 dX11_classOf_14 rfl rfl (Nat.le_of_ble_eq_true rfl) rfl ?_
    refine z_aload_n 0 dX11_classOf_15 rfl rfl (Nat.le_of_ble_eq_true rfl) rfl ?_
    refine z_getF 11 17 (x := 3) fX11_19 rfl dX11_classOf_16 rfl rfl ?_
    refine z_iload_n 1 dX11_classOf_19 rfl rfl rfl ?_
    obtain ⟨i9, k⟩ := k
    refine z_aald17 (x := (h2 3 l1)) dX11_classOf_20 (by rw [zl_3]; exact i9) rfl rfl ?_
    refine z_w (fun w3 => ?_)
    refine z_getF 4 7 (x := ((h2 3 l1) + 7)) fX11_200 rfl dX11_classOf_21 (by omega) rfl ?_
    refine z_getF 7 13 (x := ((h2 3 l1) + 15)) fX11_281 rfl dX11_classOf_24 (by omega) rfl ?_
    refine z_aload_n 0 dX11_classOf_27 rfl rfl (Nat.le_of_ble_eq_true rfl) rfl ?_
    refine z_aload_n 0 dX11_classOf_28 rfl rfl (Nat.le_of_ble_eq_true rfl) rfl ?_
    refine z_getF 11 17 (x := 3) fX11_19 rfl dX11_classOf_29 rfl rfl ?_
    refine z_iload_n 1 dX11_classOf_32 rfl rfl rfl ?_
    obtain ⟨i9, k⟩ := k
    refine z_aald17 (x := (h2 3 l1)) dX11_classOf_33 (by rw [zl_3]; exact i9) rfl rfl ?_
    refine z_w (fun w4 => ?_)
    refine z_callVi vX11_sheafOfWord kX11_274 dX11_classOf_34 rfl (zRo_d d) (as := [vr 4 (h2 3 l1)]) (rest := [vr 13 ((h2 3 l1) + 15), vr 11 0]) (Nat.le_of_ble_eq_true rfl) rfl rfl (zCi_mono (fun x5 h6 k => ?_) k)
    obtain ⟨i9, k⟩ := k
    refine z_iald (x := (h6 ((h2 3 l1) + 15) x5)) dX11_classOf_37 (by rw [zl4_15 w4]; exact i9) rfl rfl ?_
    refine z_callVi vX11_granted kX11_116 dX11_classOf_38 rfl (zRo_d d) (as := [vi (h6 ((h2 3 l1) + 15) x5)]) (rest := []) (Nat.le_of_ble_eq_true rfl) rfl rfl (zCi_mono (fun x7 h8 k => ?_) k)
    exact z_ireturn rfl dX11_classOf_41 ⟨_, rfl, k⟩
  · have k := kb q
    refine z_aload_n 0 dX11_classOf_8 rfl rfl (Nat.le_of_ble_eq_true rfl) rfl ?_
    refine z_iconst dX11_classOf_9 rfl ?_
    refine z_callVi vX11_refused kX11_84 dX11_classOf_10 rfl (zRo_d d) (as := [vi 1]) (rest := []) (Nat.le_of_ble_eq_true rfl) rfl rfl (zCi_mono (fun x9 h10 k => ?_) k)
    exact z_ireturn rfl dX11_classOf_13 ⟨_, rfl, k⟩
theorem eX11_classOf {G : zG} {d : Nat} {K : Int → zH → Prop} {l1 : Int} {h : zH} (k : tX11_classOf_0 G d K l1 h) : zCi G (d + 1) mX11_classOf [vr 11 0, vi l1] h K := z_entry (by decide +kernel) (Nat.le_of_ble_eq_true rfl) rfl k
def tX11_place_0 (G : zG) (d : Nat) (K : Int → zH → Prop) (l1 : Int) (h : zH) : Prop := zTl G (d + 1) mX11_place K 0 [some (vr 11 0), some (vi l1)] [] h
theorem bX11_place_0 {G : zG} {d : Nat} {K : Int → zH → Prop} {l1 : Int} {h : zH} (k : zCb G d mX11_isMachine [vr 11 0, vi l1] h (fun x1 h2 => (x1 = true → zR (h2 0 11) ∧ ((h2 0 11) ≤ 3 → ((0 : Int) ≤ l1 ∧ l1 < 10) ∧ zCv G d mX1_fill [vr 1 242, vr 4 (h2 3 l1), vi (h2 0 11)] h2 (fun h5 => ((0 : Int) ≤ l1 ∧ l1 < 10) ∧ zCl G d mX1_aheadOf [vr 1 242, vr 4 (h5 3 l1), vr 13 2, vi (h5 0 11)] h5 (fun x7 h8 => zCl G d mX11_grantedLong [vr 11 0, vl x7] h8 (fun x9 h10 => K x9 h10)))) ∧ (¬ (h2 0 11) ≤ 3 → zCi G d mX11_refused [vr 11 0, vi 5] h2 (fun x11 h12 => zR x11 ∧ K x11 h12))) ∧ (x1 = false → zCi G d mX11_refused [vr 11 0, vi 1] h2 (fun x13 h14 => zR x13 ∧ K x13 h14)))) : tX11_place_0 G d K l1 h := by
  unfold tX11_place_0
  refine z_aload_n 0 dX11_place_0 rfl rfl (Nat.le_of_ble_eq_true rfl) rfl ?_
  refine z_iload_n 1 dX11_place_1 rfl rfl rfl ?_
  refine z_callVb vX11_isMachine kX11_152 dX11_place_2 rfl (zRo_d d) (as := [vi l1]) (rest := []) (Nat.le_of_ble_eq_true rfl) rfl rfl (zCb_mono (fun x1 h2 k => ?_) k)
  obtain ⟨ka, kb⟩ := k
  refine z_ifb_ne (tgt := 15) dX11_place_5 rfl rfl ⟨fun q => ?_, fun q => ?_⟩
  · have k := ka q
    refine z_aload_n 0 dX11_place_15 rfl rfl (Nat.le_of_ble_eq_true rfl) rfl ?_
    refine z_getI 11 (x := (h2 0 11)) fX11_271 rfl dX11_place_16 rfl rfl ?_
    refine z_iconst dX11_place_19 rfl ?_
    obtain ⟨r1, ka, kb⟩ := k
    refine z_icmp_le (tgt := 30) dX11_place_20 rfl r1 ⟨by decide, by decide⟩ rfl ⟨fun q => ?_, fun q => ?_⟩
    · have k := ka q
      refine z_aload_n 0 dX11_place_30 rfl rfl (Nat.le_of_ble_eq_true rfl) rfl ?_
      refine z_getF 11 1 (x := 242) fX11_49 rfl dX11_place_31 rfl rfl ?_
      refine z_aload_n 0 dX11_place_34 rfl rfl (Nat.le_of_ble_eq_true rfl) rfl ?_
      refine z_getF 11 17 (x := 3) fX11_19 rfl dX11_place_35 rfl rfl ?_
      refine z_iload_n 1 dX11_place_38 rfl rfl rfl ?_
      obtain ⟨i9, k⟩ := k
      refine z_aald17 (x := (h2 3 l1)) dX11_place_39 (by rw [zl_3]; exact i9) rfl rfl ?_
      refine z_w (fun w3 => ?_)
      refine z_aload_n 0 dX11_place_40 rfl rfl (Nat.le_of_ble_eq_true rfl) rfl ?_
      refine z_getI 11 (x := (h2 0 11)) fX11_271 rfl dX11_place_41 rfl rfl ?_
      refine z_callVv vX1_fill kX11_284 dX11_place_44 rfl (zRo_d d) (as := [vr 4 (h2 3 l1), vi (h2 0 11)]) (rest := []) (Nat.le_of_ble_eq_true rfl) rfl rfl (zCv_mono (fun h5 k => ?_) k)
      refine z_aload_n 0 dX11_place_47 rfl rfl (Nat.le_of_ble_eq_true rfl) rfl ?_
      refine z_aload_n 0 dX11_place_48 rfl rfl (Nat.le_of_ble_eq_true rfl) rfl ?_
      refine z_getF 11 1 (x := 242) fX11_49 rfl dX11_place_49 rfl rfl ?_
      refine z_aload_n 0 dX11_place_52 rfl rfl (Nat.le_of_ble_eq_true rfl) rfl ?_
      refine z_getF 11 17 (x := 3) fX11_19 rfl dX11_place_53 rfl rfl ?_
      refine z_iload_n 1 dX11_place_56 rfl rfl rfl ?_
      obtain ⟨i9, k⟩ := k
      refine z_aald17 (x := (h5 3 l1)) dX11_place_57 (by rw [zl_3]; exact i9) rfl rfl ?_
      refine z_w (fun w6 => ?_)
      refine z_aload_n 0 dX11_place_58 rfl rfl (Nat.le_of_ble_eq_true rfl) rfl ?_
      refine z_getF 11 13 (x := 2) fX11_13 rfl dX11_place_59 rfl rfl ?_
      refine z_aload_n 0 dX11_place_62 rfl rfl (Nat.le_of_ble_eq_true rfl) rfl ?_
      refine z_getI 11 (x := (h5 0 11)) fX11_271 rfl dX11_place_63 rfl rfl ?_
      refine z_callVl vX1_aheadOf kX11_287 dX11_place_66 rfl (zRo_d d) (as := [vr 4 (h5 3 l1), vr 13 2, vi (h5 0 11)]) (rest := [vr 11 0]) (Nat.le_of_ble_eq_true rfl) rfl rfl (zCl_mono (fun x7 h8 k => ?_) k)
      refine z_callVl vX11_grantedLong kX11_190 dX11_place_69 rfl (zRo_d d) (as := [vl x7]) (rest := []) (Nat.le_of_ble_eq_true rfl) rfl rfl (zCl_mono (fun x9 h10 k => ?_) k)
      exact z_lreturn rfl dX11_place_72 ⟨_, rfl, k⟩
    · have k := kb q
      refine z_aload_n 0 dX11_place_23 rfl rfl (Nat.le_of_ble_eq_true rfl) rfl ?_
      refine z_iconst dX11_place_24 rfl ?_
      refine z_callVi vX11_refused kX11_84 dX11_place_25 rfl (zRo_d d) (as := [vi 5]) (rest := []) (Nat.le_of_ble_eq_true rfl) rfl rfl (zCi_mono (fun x11 h12 k => ?_) k)
      obtain ⟨r9, k⟩ := k
      refine z_i2l dX11_place_28 r9 rfl ?_
      exact z_lreturn rfl dX11_place_29 ⟨_, rfl, k⟩
  · have k := kb q
    refine z_aload_n 0 dX11_place_8 rfl rfl (Nat.le_of_ble_eq_true rfl) rfl ?_
    refine z_iconst dX11_place_9 rfl ?_
    refine z_callVi vX11_refused kX11_84 dX11_place_10 rfl (zRo_d d) (as := [vi 1]) (rest := []) (Nat.le_of_ble_eq_true rfl) rfl rfl (zCi_mono (fun x13 h14 k => ?_) k)
    obtain ⟨r9, k⟩ := k
    refine z_i2l dX11_place_13 r9 rfl ?_
    exact z_lreturn rfl dX11_place_14 ⟨_, rfl, k⟩
theorem eX11_place {G : zG} {d : Nat} {K : Int → zH → Prop} {l1 : Int} {h : zH} (k : tX11_place_0 G d K l1 h) : zCl G (d + 1) mX11_place [vr 11 0, vi l1] h K := z_entry (by decide +kernel) (Nat.le_of_ble_eq_true rfl) rfl k
def tX11_count_0 (G : zG) (d : Nat) (K : Int → zH → Prop) (l1 : Int) (l2 : Int) (h : zH) : Prop := zTl G (d + 1) mX11_count K 0 [some (vr 11 0), some (vi l1), some (vi l2)] [] h
theorem bX11_count_0 {G : zG} {d : Nat} {K : Int → zH → Prop} {l1 : Int} {l2 : Int} {h : zH} (k : zCb G d mX11_isMachine [vr 11 0, vi l1] h (fun x1 h2 => (x1 = true → zCb G d mX11_isIn [vi l2, vi 4] h2 (fun x3 h4 => (x3 = true → ((0 : Int) ≤ l1 ∧ l1 < 10) ∧ zCv G d mX1_fill [vr 1 242, vr 4 (h4 3 l1), vi l2] h4 (fun h7 => zCl G d mX1_behindSheaf [vr 1 242, vi l2, vi 0] h7 (fun x8 h9 => zCl G d mX11_grantedLong [vr 11 0, vl x8] h9 (fun x10 h11 => K x10 h11)))) ∧ (x3 = false → zCi G d mX11_refused [vr 11 0, vi 2] h4 (fun x12 h13 => zR x12 ∧ K x12 h13)))) ∧ (x1 = false → zCi G d mX11_refused [vr 11 0, vi 1] h2 (fun x14 h15 => zR x14 ∧ K x14 h15)))) : tX11_count_0 G d K l1 l2 h := by
  unfold tX11_count_0
  refine z_aload_n 0 dX11_count_0 rfl rfl (Nat.le_of_ble_eq_true rfl) rfl ?_
  refine z_iload_n 1 dX11_count_1 rfl rfl rfl ?_
  refine z_callVb vX11_isMachine kX11_152 dX11_count_2 rfl (zRo_d d) (as := [vi l1]) (rest := []) (Nat.le_of_ble_eq_true rfl) rfl rfl (zCb_mono (fun x1 h2 k => ?_) k)
  obtain ⟨ka, kb⟩ := k
  refine z_ifb_ne (tgt := 15) dX11_count_5 rfl rfl ⟨fun q => ?_, fun q => ?_⟩
  · have k := ka q
    refine z_iload_n 2 dX11_count_15 rfl rfl rfl ?_
    refine z_iconst dX11_count_16 rfl ?_
    refine z_callSb sX11_isIn kX11_133 dX11_count_17 rfl (zRo_d d) (as := [vi l2, vi 4]) (rest := []) (Nat.le_of_ble_eq_true rfl) rfl rfl (zCb_mono (fun x3 h4 k => ?_) k)
    obtain ⟨ka, kb⟩ := k
    refine z_ifb_ne (tgt := 30) dX11_count_20 rfl rfl ⟨fun q => ?_, fun q => ?_⟩
    · have k := ka q
      refine z_aload_n 0 dX11_count_30 rfl rfl (Nat.le_of_ble_eq_true rfl) rfl ?_
      refine z_getF 11 1 (x := 242) fX11_49 rfl dX11_count_31 rfl rfl ?_
      refine z_aload_n 0 dX11_count_34 rfl rfl (Nat.le_of_ble_eq_true rfl) rfl ?_
      refine z_getF 11 17 (x := 3) fX11_19 rfl dX11_count_35 rfl rfl ?_
      refine z_iload_n 1 dX11_count_38 rfl rfl rfl ?_
      obtain ⟨i9, k⟩ := k
      refine z_aald17 (x := (h4 3 l1)) dX11_count_39 (by rw [zl_3]; exact i9) rfl rfl ?_
      refine z_w (fun w5 => ?_)
      refine z_iload_n 2 dX11_count_40 rfl rfl rfl ?_
      refine z_callVv vX1_fill kX11_284 dX11_count_41 rfl (zRo_d d) (as := [vr 4 (h4 3 l1), vi l2]) (rest := []) (Nat.le_of_ble_eq_true rfl) rfl rfl (zCv_mono (fun h7 k => ?_) k)
      refine z_aload_n 0 dX11_count_44 rfl rfl (Nat.le_of_ble_eq_true rfl) rfl ?_
      refine z_aload_n 0 dX11_count_45 rfl rfl (Nat.le_of_ble_eq_true rfl) rfl ?_
      refine z_getF 11 1 (x := 242) fX11_49 rfl dX11_count_46 rfl rfl ?_
      refine z_iload_n 2 dX11_count_49 rfl rfl rfl ?_
      refine z_iconst dX11_count_50 rfl ?_
      refine z_callVl vX1_behindSheaf kX11_291 dX11_count_51 rfl (zRo_d d) (as := [vi l2, vi 0]) (rest := [vr 11 0]) (Nat.le_of_ble_eq_true rfl) rfl rfl (zCl_mono (fun x8 h9 k => ?_) k)
      refine z_callVl vX11_grantedLong kX11_190 dX11_count_54 rfl (zRo_d d) (as := [vl x8]) (rest := []) (Nat.le_of_ble_eq_true rfl) rfl rfl (zCl_mono (fun x10 h11 k => ?_) k)
      exact z_lreturn rfl dX11_count_57 ⟨_, rfl, k⟩
    · have k := kb q
      refine z_aload_n 0 dX11_count_23 rfl rfl (Nat.le_of_ble_eq_true rfl) rfl ?_
      refine z_iconst dX11_count_24 rfl ?_
      refine z_callVi vX11_refused kX11_84 dX11_count_25 rfl (zRo_d d) (as := [vi 2]) (rest := []) (Nat.le_of_ble_eq_true rfl) rfl rfl (zCi_mono (fun x12 h13 k => ?_) k)
      obtain ⟨r9, k⟩ := k
      refine z_i2l dX11_count_28 r9 rfl ?_
      exact z_lreturn rfl dX11_count_29 ⟨_, rfl, k⟩
  · have k := kb q
    refine z_aload_n 0 dX11_count_8 rfl rfl (Nat.le_of_ble_eq_true rfl) rfl ?_
    refine z_iconst dX11_count_9 rfl ?_
    refine z_callVi vX11_refused kX11_84 dX11_count_10 rfl (zRo_d d) (as := [vi 1]) (rest := []) (Nat.le_of_ble_eq_true rfl) rfl rfl (zCi_mono (fun x14 h15 k => ?_) k)
    obtain ⟨r9, k⟩ := k
    refine z_i2l dX11_count_13 r9 rfl ?_
    exact z_lreturn rfl dX11_count_14 ⟨_, rfl, k⟩
theorem eX11_count {G : zG} {d : Nat} {K : Int → zH → Prop} {l1 : Int} {l2 : Int} {h : zH} (k : tX11_count_0 G d K l1 l2 h) : zCl G (d + 1) mX11_count [vr 11 0, vi l1, vi l2] h K := z_entry (by decide +kernel) (Nat.le_of_ble_eq_true rfl) rfl k
def tX11_at_0 (G : zG) (d : Nat) (K : Int → zH → Prop) (l1 : Int) (l2 : Int) (l3 : Int) (l5 : Int) (h : zH) : Prop := zTi G (d + 1) mX11_at K 0 [some (vr 11 0), some (vi l1), some (vi l2), some (vl l3), none, some (vi l5)] [] h
theorem bX11_at_0 {G : zG} {d : Nat} {K : Int → zH → Prop} {l1 : Int} {l2 : Int} {l3 : Int} {l5 : Int} {h : zH} (k : zCb G d mX11_isMachine [vr 11 0, vi l1] h (fun x1 h2 => (x1 = true → zR l2 ∧ (l2 < 1 → zCi G d mX11_refused [vr 11 0, vi 2] h2 (fun x3 h4 => K x3 h4)) ∧ (¬ l2 < 1 → zR l2 ∧ (l2 ≤ 3 → ((0 : Int) ≤ l1 ∧ l1 < 10) ∧ zCv G d mX1_fill [vr 1 242, vr 4 (h2 3 l1), vi l2] h2 (fun h7 => ((zcmp l3 0) < 0 → zCi G d mX11_refused [vr 11 0, vi 1] h7 (fun x8 h9 => K x8 h9)) ∧ (¬ (zcmp l3 0) < 0 → zCl G d mX1_behindSheaf [vr 1 242, vi l2, vi 0] h7 (fun x10 h11 => (0 ≤ (zcmp l3 x10) → zCi G d mX11_refused [vr 11 0, vi 1] h11 (fun x12 h13 => K x12 h13)) ∧ (¬ 0 ≤ (zcmp l3 x10) → zCb G d mX11_isIn [vi l5, vi l2] h11 (fun x14 h15 => (x14 = true → ((0 : Int) ≤ l1 ∧ l1 < 10) ∧ zCi G d mX1_letterOfKth [vr 1 242, vr 4 (h15 3 l1), vi l2, vl l3, vi l5] h15 (fun x17 h18 => zCi G d mX11_granted [vr 11 0, vi x17] h18 (fun x19 h20 => K x19 h20))) ∧ (x14 = false → zCi G d mX11_refused [vr 11 0, vi 1] h15 (fun x21 h22 => K x21 h22)))))))) ∧ (¬ l2 ≤ 3 → zCi G d mX11_refused [vr 11 0, vi 2] h2 (fun x23 h24 => K x23 h24)))) ∧ (x1 = false → zCi G d mX11_refused [vr 11 0, vi 1] h2 (fun x25 h26 => K x25 h26)))) : tX11_at_0 G d K l1 l2 l3 l5 h := by
  unfold tX11_at_0
  refine z_aload_n 0 dX11_at_0 rfl rfl (Nat.le_of_ble_eq_true rfl) rfl ?_
  refine z_iload_n 1 dX11_at_1 rfl rfl rfl ?_
  refine z_callVb vX11_isMachine kX11_152 dX11_at_2 rfl (zRo_d d) (as := [vi l1]) (rest := []) (Nat.le_of_ble_eq_true rfl) rfl rfl (zCb_mono (fun x1 h2 k => ?_) k)
  obtain ⟨ka, kb⟩ := k
  refine z_ifb_ne (tgt := 14) dX11_at_5 rfl rfl ⟨fun q => ?_, fun q => ?_⟩
  · have k := ka q
    refine z_iload_n 2 dX11_at_14 rfl rfl rfl ?_
    refine z_iconst dX11_at_15 rfl ?_
    obtain ⟨r1, ka, kb⟩ := k
    refine z_icmp_lt (tgt := 24) dX11_at_16 rfl r1 ⟨by decide, by decide⟩ rfl ⟨fun q => ?_, fun q => ?_⟩
    · have k := ka q
      refine z_aload_n 0 dX11_at_24 rfl rfl (Nat.le_of_ble_eq_true rfl) rfl ?_
      refine z_iconst dX11_at_25 rfl ?_
      refine z_callVi vX11_refused kX11_84 dX11_at_26 rfl (zRo_d d) (as := [vi 2]) (rest := []) (Nat.le_of_ble_eq_true rfl) rfl rfl (zCi_mono (fun x3 h4 k => ?_) k)
      exact z_ireturn rfl dX11_at_29 ⟨_, rfl, k⟩
    · have k := kb q
      refine z_iload_n 2 dX11_at_19 rfl rfl rfl ?_
      refine z_iconst dX11_at_20 rfl ?_
      obtain ⟨r1, ka, kb⟩ := k
      refine z_icmp_le (tgt := 30) dX11_at_21 rfl r1 ⟨by decide, by decide⟩ rfl ⟨fun q => ?_, fun q => ?_⟩
      · have k := ka q
        refine z_aload_n 0 dX11_at_30 rfl rfl (Nat.le_of_ble_eq_true rfl) rfl ?_
        refine z_getF 11 1 (x := 242) fX11_49 rfl dX11_at_31 rfl rfl ?_
        refine z_aload_n 0 dX11_at_34 rfl rfl (Nat.le_of_ble_eq_true rfl) rfl ?_
        refine z_getF 11 17 (x := 3) fX11_19 rfl dX11_at_35 rfl rfl ?_
        refine z_iload_n 1 dX11_at_38 rfl rfl rfl ?_
        obtain ⟨i9, k⟩ := k
        refine z_aald17 (x := (h2 3 l1)) dX11_at_39 (by rw [zl_3]; exact i9) rfl rfl ?_
        refine z_w (fun w5 => ?_)
        refine z_iload_n 2 dX11_at_40 rfl rfl rfl ?_
        refine z_callVv vX1_fill kX11_284 dX11_at_41 rfl (zRo_d d) (as := [vr 4 (h2 3 l1), vi l2]) (rest := []) (Nat.le_of_ble_eq_true rfl) rfl rfl (zCv_mono (fun h7 k => ?_) k)
        refine z_lload_n 3 dX11_at_44 rfl rfl rfl ?_
        refine z_lconst (x := 0) dX11_at_45 rfl rfl ?_
        refine z_lcmp dX11_at_46 rfl ?_
        obtain ⟨ka, kb⟩ := k
        refine z_if_lt (tgt := 73) dX11_at_47 rfl (zcmp_R _ _) rfl ⟨fun q => ?_, fun q => ?_⟩
        · have k := ka q
          refine z_aload_n 0 dX11_at_73 rfl rfl (Nat.le_of_ble_eq_true rfl) rfl ?_
          refine z_iconst dX11_at_74 rfl ?_
          refine z_callVi vX11_refused kX11_84 dX11_at_75 rfl (zRo_d d) (as := [vi 1]) (rest := []) (Nat.le_of_ble_eq_true rfl) rfl rfl (zCi_mono (fun x8 h9 k => ?_) k)
          exact z_ireturn rfl dX11_at_78 ⟨_, rfl, k⟩
        · have k := kb q
          refine z_lload_n 3 dX11_at_50 rfl rfl rfl ?_
          refine z_aload_n 0 dX11_at_51 rfl rfl (Nat.le_of_ble_eq_true rfl) rfl ?_
          refine z_getF 11 1 (x := 242) fX11_49 rfl dX11_at_52 rfl rfl ?_
          refine z_iload_n 2 dX11_at_55 rfl rfl rfl ?_
          refine z_iconst dX11_at_56 rfl ?_
          refine z_callVl vX1_behindSheaf kX11_291 dX11_at_57 rfl (zRo_d d) (as := [vi l2, vi 0]) (rest := [vl l3]) (Nat.le_of_ble_eq_true rfl) rfl rfl (zCl_mono (fun x10 h11 k => ?_) k)
          refine z_lcmp dX11_at_60 rfl ?_
          obtain ⟨ka, kb⟩ := k
          refine z_if_ge (tgt := 73) dX11_at_61 rfl (zcmp_R _ _) rfl ⟨fun q => ?_, fun q => ?_⟩
          · have k := ka q
            refine z_aload_n 0 dX11_at_73 rfl rfl (Nat.le_of_ble_eq_true rfl) rfl ?_
            refine z_iconst dX11_at_74 rfl ?_
            refine z_callVi vX11_refused kX11_84 dX11_at_75 rfl (zRo_d d) (as := [vi 1]) (rest := []) (Nat.le_of_ble_eq_true rfl) rfl rfl (zCi_mono (fun x12 h13 k => ?_) k)
            exact z_ireturn rfl dX11_at_78 ⟨_, rfl, k⟩
          · have k := kb q
            refine z_iload dX11_at_64 rfl rfl ?_
            refine z_iload_n 2 dX11_at_66 rfl rfl rfl ?_
            refine z_callSb sX11_isIn kX11_133 dX11_at_67 rfl (zRo_d d) (as := [vi l5, vi l2]) (rest := []) (Nat.le_of_ble_eq_true rfl) rfl rfl (zCb_mono (fun x14 h15 k => ?_) k)
            obtain ⟨ka, kb⟩ := k
            refine z_ifb_ne (tgt := 79) dX11_at_70 rfl rfl ⟨fun q => ?_, fun q => ?_⟩
            · have k := ka q
              refine z_aload_n 0 dX11_at_79 rfl rfl (Nat.le_of_ble_eq_true rfl) rfl ?_
              refine z_aload_n 0 dX11_at_80 rfl rfl (Nat.le_of_ble_eq_true rfl) rfl ?_
              refine z_getF 11 1 (x := 242) fX11_49 rfl dX11_at_81 rfl rfl ?_
              refine z_aload_n 0 dX11_at_84 rfl rfl (Nat.le_of_ble_eq_true rfl) rfl ?_
              refine z_getF 11 17 (x := 3) fX11_19 rfl dX11_at_85 rfl rfl ?_
              refine z_iload_n 1 dX11_at_88 rfl rfl rfl ?_
              obtain ⟨i9, k⟩ := k
              refine z_aald17 (x := (h15 3 l1)) dX11_at_89 (by rw [zl_3]; exact i9) rfl rfl ?_
              refine z_w (fun w16 => ?_)
              refine z_iload_n 2 dX11_at_90 rfl rfl rfl ?_
              refine z_lload_n 3 dX11_at_91 rfl rfl rfl ?_
              refine z_iload dX11_at_92 rfl rfl ?_
              refine z_callVi vX1_letterOfKth kX11_295 dX11_at_94 rfl (zRo_d d) (as := [vr 4 (h15 3 l1), vi l2, vl l3, vi l5]) (rest := [vr 11 0]) (Nat.le_of_ble_eq_true rfl) rfl rfl (zCi_mono (fun x17 h18 k => ?_) k)
              refine z_callVi vX11_granted kX11_116 dX11_at_97 rfl (zRo_d d) (as := [vi x17]) (rest := []) (Nat.le_of_ble_eq_true rfl) rfl rfl (zCi_mono (fun x19 h20 k => ?_) k)
              exact z_ireturn rfl dX11_at_100 ⟨_, rfl, k⟩
            · have k := kb q
              refine z_aload_n 0 dX11_at_73 rfl rfl (Nat.le_of_ble_eq_true rfl) rfl ?_
              refine z_iconst dX11_at_74 rfl ?_
              refine z_callVi vX11_refused kX11_84 dX11_at_75 rfl (zRo_d d) (as := [vi 1]) (rest := []) (Nat.le_of_ble_eq_true rfl) rfl rfl (zCi_mono (fun x21 h22 k => ?_) k)
              exact z_ireturn rfl dX11_at_78 ⟨_, rfl, k⟩
      · have k := kb q
        refine z_aload_n 0 dX11_at_24 rfl rfl (Nat.le_of_ble_eq_true rfl) rfl ?_
        refine z_iconst dX11_at_25 rfl ?_
        refine z_callVi vX11_refused kX11_84 dX11_at_26 rfl (zRo_d d) (as := [vi 2]) (rest := []) (Nat.le_of_ble_eq_true rfl) rfl rfl (zCi_mono (fun x23 h24 k => ?_) k)
        exact z_ireturn rfl dX11_at_29 ⟨_, rfl, k⟩
  · have k := kb q
    refine z_aload_n 0 dX11_at_8 rfl rfl (Nat.le_of_ble_eq_true rfl) rfl ?_
    refine z_iconst dX11_at_9 rfl ?_
    refine z_callVi vX11_refused kX11_84 dX11_at_10 rfl (zRo_d d) (as := [vi 1]) (rest := []) (Nat.le_of_ble_eq_true rfl) rfl rfl (zCi_mono (fun x25 h26 k => ?_) k)
    exact z_ireturn rfl dX11_at_13 ⟨_, rfl, k⟩
theorem eX11_at {G : zG} {d : Nat} {K : Int → zH → Prop} {l1 : Int} {l2 : Int} {l3 : Int} {l5 : Int} {h : zH} (k : tX11_at_0 G d K l1 l2 l3 l5 h) : zCi G (d + 1) mX11_at [vr 11 0, vi l1, vi l2, vl l3, vi l5] h K := z_entry (by decide +kernel) (Nat.le_of_ble_eq_true rfl) rfl k
def tX11_longest_0 (G : zG) (d : Nat) (K : Int → zH → Prop) (l1 : Int) (h : zH) : Prop := zTi G (d + 1) mX11_longest K 0 [some (vr 11 0), some (vi l1)] [] h
theorem bX11_longest_0 {G : zG} {d : Nat} {K : Int → zH → Prop} {l1 : Int} {h : zH} (k : zCb G d mX11_isMachine [vr 11 0, vi l1] h (fun x1 h2 => (x1 = true → ((0 : Int) ≤ l1 ∧ l1 < 10) ∧ zCi G d mX7_longestTaken [vr 7 ((h2 3 l1) + 7)] h2 (fun x4 h5 => zCi G d mX11_granted [vr 11 0, vi x4] h5 (fun x6 h7 => K x6 h7))) ∧ (x1 = false → zCi G d mX11_refused [vr 11 0, vi 1] h2 (fun x8 h9 => K x8 h9)))) : tX11_longest_0 G d K l1 h := by
  unfold tX11_longest_0
  refine z_aload_n 0 dX11_longest_0 rfl rfl (Nat.le_of_ble_eq_true rfl) rfl ?_
  refine z_iload_n 1 dX11_longest_1 rfl rfl rfl ?_
  refine z_callVb vX11_isMachine kX11_152 dX11_longest_2 rfl (zRo_d d) (as := [vi l1]) (rest := []) (Nat.le_of_ble_eq_true rfl) rfl rfl (zCb_mono (fun x1 h2 k => ?_) k)
  obtain ⟨ka, kb⟩ := k
  refine z_ifb_ne (tgt := 14) dX11_longest_5 rfl rfl ⟨fun q => ?_, fun q => ?_⟩
  · have k := ka q
    refine z_aload_n 0 dX11_longest_14 rfl rfl (Nat.le_of_ble_eq_true rfl) rfl ?_
    refine z_aload_n 0 dX11_longest_15 rfl rfl (Nat.le_of_ble_eq_true rfl) rfl ?_
    refine z_getF 11 17 (x := 3) fX11_19 rfl dX11_longest_16 rfl rfl ?_
    refine z_iload_n 1 dX11_longest_19 rfl rfl rfl ?_
    obtain ⟨i9, k⟩ := k
    refine z_aald17 (x := (h2 3 l1)) dX11_longest_20 (by rw [zl_3]; exact i9) rfl rfl ?_
    refine z_w (fun w3 => ?_)
    refine z_getF 4 7 (x := ((h2 3 l1) + 7)) fX11_200 rfl dX11_longest_21 (by omega) rfl ?_
    refine z_callVi vX7_longestTaken kX11_299 dX11_longest_24 rfl (zRo_d d) (as := []) (rest := [vr 11 0]) (Nat.le_of_ble_eq_true rfl) rfl rfl (zCi_mono (fun x4 h5 k => ?_) k)
    refine z_callVi vX11_granted kX11_116 dX11_longest_27 rfl (zRo_d d) (as := [vi x4]) (rest := []) (Nat.le_of_ble_eq_true rfl) rfl rfl (zCi_mono (fun x6 h7 k => ?_) k)
    exact z_ireturn rfl dX11_longest_30 ⟨_, rfl, k⟩
  · have k := kb q
    refine z_aload_n 0 dX11_longest_8 rfl rfl (Nat.le_of_ble_eq_true rfl) rfl ?_
    refine z_iconst dX11_longest_9 rfl ?_
    refine z_callVi vX11_refused kX11_84 dX11_longest_10 rfl (zRo_d d) (as := [vi 1]) (rest := []) (Nat.le_of_ble_eq_true rfl) rfl rfl (zCi_mono (fun x8 h9 k => ?_) k)
    exact z_ireturn rfl dX11_longest_13 ⟨_, rfl, k⟩
theorem eX11_longest {G : zG} {d : Nat} {K : Int → zH → Prop} {l1 : Int} {h : zH} (k : tX11_longest_0 G d K l1 h) : zCi G (d + 1) mX11_longest [vr 11 0, vi l1] h K := z_entry (by decide +kernel) (Nat.le_of_ble_eq_true rfl) rfl k
def tX11_found_0 (G : zG) (d : Nat) (K : Int → zH → Prop) (l1 : Int) (l2 : Int) (l3 : Int) (h : zH) : Prop := zTi G (d + 1) mX11_found K 0 [some (vr 11 0), some (vi l1), some (vi l2), some (vi l3), none, none] [] h
theorem bX11_found_0 {G : zG} {d : Nat} {K : Int → zH → Prop} {l1 : Int} {l2 : Int} {l3 : Int} {h : zH} (k : zCi G d mX11_whyNoPair [vr 11 0, vi l1, vi l2, vi l3] h (fun x1 h2 => zR x1 ∧ (x1 = 0 → ((0 : Int) ≤ l1 ∧ l1 < 10) ∧ ((0 : Int) ≤ l2 ∧ l2 < 10) ∧ zCi G d mX6_firstOf [vr 6 233, vr 4 (h2 3 l1), vr 4 (h2 3 l2), vi l3] h2 (fun x5 h6 => zR x5 ∧ (0 ≤ x5 → ((0 : Int) ≤ x5 ∧ x5 < 1600) ∧ zCi G d mX11_granted [vr 11 0, vi (h6 239 x5)] h6 (fun x7 h8 => K x7 h8)) ∧ (¬ 0 ≤ x5 → zCi G d mX11_granted [vr 11 0, vi (-2)] h6 (fun x9 h10 => K x9 h10)))) ∧ (¬ x1 = 0 → zCi G d mX11_refused [vr 11 0, vi x1] h2 (fun x11 h12 => K x11 h12)))) : tX11_found_0 G d K l1 l2 l3 h := by
  unfold tX11_found_0
  refine z_aload_n 0 dX11_found_0 rfl rfl (Nat.le_of_ble_eq_true rfl) rfl ?_
  refine z_iload_n 1 dX11_found_1 rfl rfl rfl ?_
  refine z_iload_n 2 dX11_found_2 rfl rfl rfl ?_
  refine z_iload_n 3 dX11_found_3 rfl rfl rfl ?_
  refine z_callVi vX11_whyNoPair kX11_302 dX11_found_4 rfl (zRo_d d) (as := [vi l1, vi l2, vi l3]) (rest := []) (Nat.le_of_ble_eq_true rfl) rfl rfl (zCi_mono (fun x1 h2 k => ?_) k)
  refine z_istore dX11_found_7 (Nat.le_of_ble_eq_true rfl) (L' := [some (vr 11 0), some (vi l1), some (vi l2), some (vi l3), some (vi x1), none]) rfl rfl ?_
  refine z_iload dX11_found_9 rfl rfl ?_
  obtain ⟨r1, ka, kb⟩ := k
  refine z_if_eq (tgt := 21) dX11_found_11 rfl r1 rfl ⟨fun q => ?_, fun q => ?_⟩
  · have k := ka q
    refine z_aload_n 0 dX11_found_21 rfl rfl (Nat.le_of_ble_eq_true rfl) rfl ?_
    refine z_getF 11 6 (x := 233) fX11_42 rfl dX11_found_22 rfl rfl ?_
    refine z_aload_n 0 dX11_found_25 rfl rfl (Nat.le_of_ble_eq_true rfl) rfl ?_
    refine z_getF 11 17 (x := 3) fX11_19 rfl dX11_found_26 rfl rfl ?_
    refine z_iload_n 1 dX11_found_29 rfl rfl rfl ?_
    obtain ⟨i9, k⟩ := k
    refine z_aald17 (x := (h2 3 l1)) dX11_found_30 (by rw [zl_3]; exact i9) rfl rfl ?_
    refine z_w (fun w3 => ?_)
    refine z_aload_n 0 dX11_found_31 rfl rfl (Nat.le_of_ble_eq_true rfl) rfl ?_
    refine z_getF 11 17 (x := 3) fX11_19 rfl dX11_found_32 rfl rfl ?_
    refine z_iload_n 2 dX11_found_35 rfl rfl rfl ?_
    obtain ⟨i9, k⟩ := k
    refine z_aald17 (x := (h2 3 l2)) dX11_found_36 (by rw [zl_3]; exact i9) rfl rfl ?_
    refine z_w (fun w4 => ?_)
    refine z_iload_n 3 dX11_found_37 rfl rfl rfl ?_
    refine z_callVi vX6_firstOf kX11_305 dX11_found_38 rfl (zRo_d d) (as := [vr 4 (h2 3 l1), vr 4 (h2 3 l2), vi l3]) (rest := []) (Nat.le_of_ble_eq_true rfl) rfl rfl (zCi_mono (fun x5 h6 k => ?_) k)
    refine z_istore dX11_found_41 (Nat.le_of_ble_eq_true rfl) (L' := [some (vr 11 0), some (vi l1), some (vi l2), some (vi l3), some (vi x1), some (vi x5)]) rfl rfl ?_
    refine z_aload_n 0 dX11_found_43 rfl rfl (Nat.le_of_ble_eq_true rfl) rfl ?_
    refine z_iload dX11_found_44 rfl rfl ?_
    obtain ⟨r1, ka, kb⟩ := k
    refine z_if_ge (tgt := 54) dX11_found_46 rfl r1 rfl ⟨fun q => ?_, fun q => ?_⟩
    · have k := ka q
      refine z_aload_n 0 dX11_found_54 rfl rfl (Nat.le_of_ble_eq_true rfl) rfl ?_
      refine z_getF 11 6 (x := 233) fX11_42 rfl dX11_found_55 rfl rfl ?_
      refine z_getF 6 13 (x := 239) fX11_309 rfl dX11_found_58 rfl rfl ?_
      refine z_iload dX11_found_61 rfl rfl ?_
      obtain ⟨i9, k⟩ := k
      refine z_iald (x := (h6 239 x5)) dX11_found_63 (by rw [zl_239]; exact i9) rfl rfl ?_
      refine z_callVi vX11_granted kX11_116 dX11_found_64 rfl (zRo_d d) (as := [vi (h6 239 x5)]) (rest := []) (Nat.le_of_ble_eq_true rfl) rfl rfl (zCi_mono (fun x7 h8 k => ?_) k)
      exact z_ireturn rfl dX11_found_67 ⟨_, rfl, k⟩
    · have k := kb q
      refine z_bipush dX11_found_49 rfl rfl ?_
      refine z_goto (tgt := 64) dX11_found_51 rfl ?_
      refine z_callVi vX11_granted kX11_116 dX11_found_64 rfl (zRo_d d) (as := [vi (-2)]) (rest := []) (Nat.le_of_ble_eq_true rfl) rfl rfl (zCi_mono (fun x9 h10 k => ?_) k)
      exact z_ireturn rfl dX11_found_67 ⟨_, rfl, k⟩
  · have k := kb q
    refine z_aload_n 0 dX11_found_14 rfl rfl (Nat.le_of_ble_eq_true rfl) rfl ?_
    refine z_iload dX11_found_15 rfl rfl ?_
    refine z_callVi vX11_refused kX11_84 dX11_found_17 rfl (zRo_d d) (as := [vi x1]) (rest := []) (Nat.le_of_ble_eq_true rfl) rfl rfl (zCi_mono (fun x11 h12 k => ?_) k)
    exact z_ireturn rfl dX11_found_20 ⟨_, rfl, k⟩
theorem eX11_found {G : zG} {d : Nat} {K : Int → zH → Prop} {l1 : Int} {l2 : Int} {l3 : Int} {h : zH} (k : tX11_found_0 G d K l1 l2 l3 h) : zCi G (d + 1) mX11_found [vr 11 0, vi l1, vi l2, vi l3] h K := z_entry (by decide +kernel) (Nat.le_of_ble_eq_true rfl) rfl k
def tX11_foundLetter_0 (G : zG) (d : Nat) (K : Int → zH → Prop) (l1 : Int) (l2 : Int) (l3 : Int) (l4 : Int) (h : zH) : Prop := zTi G (d + 1) mX11_foundLetter K 0 [some (vr 11 0), some (vi l1), some (vi l2), some (vi l3), some (vi l4), none, none] [] h
theorem bX11_foundLetter_0 {G : zG} {d : Nat} {K : Int → zH → Prop} {l1 : Int} {l2 : Int} {l3 : Int} {l4 : Int} {h : zH} (k : zCi G d mX11_whyNoPair [vr 11 0, vi l1, vi l2, vi l3] h (fun x1 h2 => zR x1 ∧ (x1 = 0 → ((0 : Int) ≤ l1 ∧ l1 < 10) ∧ ((0 : Int) ≤ l2 ∧ l2 < 10) ∧ zCi G d mX6_firstOf [vr 6 233, vr 4 (h2 3 l1), vr 4 (h2 3 l2), vi l3] h2 (fun x5 h6 => zR x5 ∧ (x5 < 0 → zCi G d mX11_refused [vr 11 0, vi 1] h6 (fun x7 h8 => K x7 h8)) ∧ (¬ x5 < 0 → ((0 : Int) ≤ x5 ∧ x5 < 1600) ∧ zCb G d mX11_isIn [vi l4, vi (h6 239 x5)] h6 (fun x9 h10 => (x9 = true → zCi G d mX6_letterOnWay [vr 6 233, vi x5, vi l4] h10 (fun x11 h12 => zCi G d mX11_granted [vr 11 0, vi x11] h12 (fun x13 h14 => K x13 h14))) ∧ (x9 = false → zCi G d mX11_refused [vr 11 0, vi 1] h10 (fun x15 h16 => K x15 h16)))))) ∧ (¬ x1 = 0 → zCi G d mX11_refused [vr 11 0, vi x1] h2 (fun x17 h18 => K x17 h18)))) : tX11_foundLetter_0 G d K l1 l2 l3 l4 h := by
  unfold tX11_foundLetter_0
  refine z_aload_n 0 dX11_foundLetter_0 rfl rfl (Nat.le_of_ble_eq_true rfl) rfl ?_
  refine z_iload_n 1 dX11_foundLetter_1 rfl rfl rfl ?_
  refine z_iload_n 2 dX11_foundLetter_2 rfl rfl rfl ?_
  refine z_iload_n 3 dX11_foundLetter_3 rfl rfl rfl ?_
  refine z_callVi vX11_whyNoPair kX11_302 dX11_foundLetter_4 rfl (zRo_d d) (as := [vi l1, vi l2, vi l3]) (rest := []) (Nat.le_of_ble_eq_true rfl) rfl rfl (zCi_mono (fun x1 h2 k => ?_) k)
  refine z_istore dX11_foundLetter_7 (Nat.le_of_ble_eq_true rfl) (L' := [some (vr 11 0), some (vi l1), some (vi l2), some (vi l3), some (vi l4), some (vi x1), none]) rfl rfl ?_
  refine z_iload dX11_foundLetter_9 rfl rfl ?_
  obtain ⟨r1, ka, kb⟩ := k
  refine z_if_eq (tgt := 21) dX11_foundLetter_11 rfl r1 rfl ⟨fun q => ?_, fun q => ?_⟩
  · have k := ka q
    refine z_aload_n 0 dX11_foundLetter_21 rfl rfl (Nat.le_of_ble_eq_true rfl) rfl ?_
    refine z_getF 11 6 (x := 233) fX11_42 rfl dX11_foundLetter_22 rfl rfl ?_
    refine z_aload_n 0 dX11_foundLetter_25 rfl rfl (Nat.le_of_ble_eq_true rfl) rfl ?_
    refine z_getF 11 17 (x := 3) fX11_19 rfl dX11_foundLetter_26 rfl rfl ?_
    refine z_iload_n 1 dX11_foundLetter_29 rfl rfl rfl ?_
    obtain ⟨i9, k⟩ := k
    refine z_aald17 (x := (h2 3 l1)) dX11_foundLetter_30 (by rw [zl_3]; exact i9) rfl rfl ?_
    refine z_w (fun w3 => ?_)
    refine z_aload_n 0 dX11_foundLetter_31 rfl rfl (Nat.le_of_ble_eq_true rfl) rfl ?_
    refine z_getF 11 17 (x := 3) fX11_19 rfl dX11_foundLetter_32 rfl rfl ?_
    refine z_iload_n 2 dX11_foundLetter_35 rfl rfl rfl ?_
    obtain ⟨i9, k⟩ := k
    refine z_aald17 (x := (h2 3 l2)) dX11_foundLetter_36 (by rw [zl_3]; exact i9) rfl rfl ?_
    refine z_w (fun w4 => ?_)
    refine z_iload_n 3 dX11_foundLetter_37 rfl rfl rfl ?_
    refine z_callVi vX6_firstOf kX11_305 dX11_foundLetter_38 rfl (zRo_d d) (as := [vr 4 (h2 3 l1), vr 4 (h2 3 l2), vi l3]) (rest := []) (Nat.le_of_ble_eq_true rfl) rfl rfl (zCi_mono (fun x5 h6 k => ?_) k)
    refine z_istore dX11_foundLetter_41 (Nat.le_of_ble_eq_true rfl) (L' := [some (vr 11 0), some (vi l1), some (vi l2), some (vi l3), some (vi l4), some (vi x1), some (vi x5)]) rfl rfl ?_
    refine z_iload dX11_foundLetter_43 rfl rfl ?_
    obtain ⟨r1, ka, kb⟩ := k
    refine z_if_lt (tgt := 66) dX11_foundLetter_45 rfl r1 rfl ⟨fun q => ?_, fun q => ?_⟩
    · have k := ka q
      refine z_aload_n 0 dX11_foundLetter_66 rfl rfl (Nat.le_of_ble_eq_true rfl) rfl ?_
      refine z_iconst dX11_foundLetter_67 rfl ?_
      refine z_callVi vX11_refused kX11_84 dX11_foundLetter_68 rfl (zRo_d d) (as := [vi 1]) (rest := []) (Nat.le_of_ble_eq_true rfl) rfl rfl (zCi_mono (fun x7 h8 k => ?_) k)
      exact z_ireturn rfl dX11_foundLetter_71 ⟨_, rfl, k⟩
    · have k := kb q
      refine z_iload dX11_foundLetter_48 rfl rfl ?_
      refine z_aload_n 0 dX11_foundLetter_50 rfl rfl (Nat.le_of_ble_eq_true rfl) rfl ?_
      refine z_getF 11 6 (x := 233) fX11_42 rfl dX11_foundLetter_51 rfl rfl ?_
      refine z_getF 6 13 (x := 239) fX11_309 rfl dX11_foundLetter_54 rfl rfl ?_
      refine z_iload dX11_foundLetter_57 rfl rfl ?_
      obtain ⟨i9, k⟩ := k
      refine z_iald (x := (h6 239 x5)) dX11_foundLetter_59 (by rw [zl_239]; exact i9) rfl rfl ?_
      refine z_callSb sX11_isIn kX11_133 dX11_foundLetter_60 rfl (zRo_d d) (as := [vi l4, vi (h6 239 x5)]) (rest := []) (Nat.le_of_ble_eq_true rfl) rfl rfl (zCb_mono (fun x9 h10 k => ?_) k)
      obtain ⟨ka, kb⟩ := k
      refine z_ifb_ne (tgt := 72) dX11_foundLetter_63 rfl rfl ⟨fun q => ?_, fun q => ?_⟩
      · have k := ka q
        refine z_aload_n 0 dX11_foundLetter_72 rfl rfl (Nat.le_of_ble_eq_true rfl) rfl ?_
        refine z_aload_n 0 dX11_foundLetter_73 rfl rfl (Nat.le_of_ble_eq_true rfl) rfl ?_
        refine z_getF 11 6 (x := 233) fX11_42 rfl dX11_foundLetter_74 rfl rfl ?_
        refine z_iload dX11_foundLetter_77 rfl rfl ?_
        refine z_iload dX11_foundLetter_79 rfl rfl ?_
        refine z_callVi vX6_letterOnWay kX11_310 dX11_foundLetter_81 rfl (zRo_d d) (as := [vi x5, vi l4]) (rest := [vr 11 0]) (Nat.le_of_ble_eq_true rfl) rfl rfl (zCi_mono (fun x11 h12 k => ?_) k)
        refine z_callVi vX11_granted kX11_116 dX11_foundLetter_84 rfl (zRo_d d) (as := [vi x11]) (rest := []) (Nat.le_of_ble_eq_true rfl) rfl rfl (zCi_mono (fun x13 h14 k => ?_) k)
        exact z_ireturn rfl dX11_foundLetter_87 ⟨_, rfl, k⟩
      · have k := kb q
        refine z_aload_n 0 dX11_foundLetter_66 rfl rfl (Nat.le_of_ble_eq_true rfl) rfl ?_
        refine z_iconst dX11_foundLetter_67 rfl ?_
        refine z_callVi vX11_refused kX11_84 dX11_foundLetter_68 rfl (zRo_d d) (as := [vi 1]) (rest := []) (Nat.le_of_ble_eq_true rfl) rfl rfl (zCi_mono (fun x15 h16 k => ?_) k)
        exact z_ireturn rfl dX11_foundLetter_71 ⟨_, rfl, k⟩
  · have k := kb q
    refine z_aload_n 0 dX11_foundLetter_14 rfl rfl (Nat.le_of_ble_eq_true rfl) rfl ?_
    refine z_iload dX11_foundLetter_15 rfl rfl ?_
    refine z_callVi vX11_refused kX11_84 dX11_foundLetter_17 rfl (zRo_d d) (as := [vi x1]) (rest := []) (Nat.le_of_ble_eq_true rfl) rfl rfl (zCi_mono (fun x17 h18 k => ?_) k)
    exact z_ireturn rfl dX11_foundLetter_20 ⟨_, rfl, k⟩
theorem eX11_foundLetter {G : zG} {d : Nat} {K : Int → zH → Prop} {l1 : Int} {l2 : Int} {l3 : Int} {l4 : Int} {h : zH} (k : tX11_foundLetter_0 G d K l1 l2 l3 l4 h) : zCi G (d + 1) mX11_foundLetter [vr 11 0, vi l1, vi l2, vi l3, vi l4] h K := z_entry (by decide +kernel) (Nat.le_of_ble_eq_true rfl) rfl k
def tX11_same_0 (G : zG) (d : Nat) (K : Int → zH → Prop) (l1 : Int) (l2 : Int) (h : zH) : Prop := zTi G (d + 1) mX11_same K 0 [some (vr 11 0), some (vi l1), some (vi l2)] [] h
theorem bX11_same_0 {G : zG} {d : Nat} {K : Int → zH → Prop} {l1 : Int} {l2 : Int} {h : zH} (k : zCb G d mX11_isMachine [vr 11 0, vi l1] h (fun x1 h2 => (x1 = false → zCi G d mX11_refused [vr 11 0, vi 1] h2 (fun x3 h4 => K x3 h4)) ∧ (x1 = true → zCb G d mX11_isMachine [vr 11 0, vi l2] h2 (fun x5 h6 => (x5 = true → ((0 : Int) ≤ l1 ∧ l1 < 10) ∧ ((0 : Int) ≤ l2 ∧ l2 < 10) ∧ zCi G d mX6_firstOf [vr 6 233, vr 4 (h6 3 l1), vr 4 (h6 3 l2), vi 6] h6 (fun x9 h10 => zR x9 ∧ (0 ≤ x9 → zCi G d mX11_granted [vr 11 0, vi 0] h10 (fun x11 h12 => K x11 h12)) ∧ (¬ 0 ≤ x9 → zCi G d mX11_granted [vr 11 0, vi 1] h10 (fun x13 h14 => K x13 h14)))) ∧ (x5 = false → zCi G d mX11_refused [vr 11 0, vi 1] h6 (fun x15 h16 => K x15 h16)))))) : tX11_same_0 G d K l1 l2 h := by
  unfold tX11_same_0
  refine z_aload_n 0 dX11_same_0 rfl rfl (Nat.le_of_ble_eq_true rfl) rfl ?_
  refine z_iload_n 1 dX11_same_1 rfl rfl rfl ?_
  refine z_callVb vX11_isMachine kX11_152 dX11_same_2 rfl (zRo_d d) (as := [vi l1]) (rest := []) (Nat.le_of_ble_eq_true rfl) rfl rfl (zCb_mono (fun x1 h2 k => ?_) k)
  obtain ⟨ka, kb⟩ := k
  refine z_ifb_eq (tgt := 16) dX11_same_5 rfl rfl ⟨fun q => ?_, fun q => ?_⟩
  · have k := ka q
    refine z_aload_n 0 dX11_same_16 rfl rfl (Nat.le_of_ble_eq_true rfl) rfl ?_
    refine z_iconst dX11_same_17 rfl ?_
    refine z_callVi vX11_refused kX11_84 dX11_same_18 rfl (zRo_d d) (as := [vi 1]) (rest := []) (Nat.le_of_ble_eq_true rfl) rfl rfl (zCi_mono (fun x3 h4 k => ?_) k)
    exact z_ireturn rfl dX11_same_21 ⟨_, rfl, k⟩
  · have k := kb q
    refine z_aload_n 0 dX11_same_8 rfl rfl (Nat.le_of_ble_eq_true rfl) rfl ?_
    refine z_iload_n 2 dX11_same_9 rfl rfl rfl ?_
    refine z_callVb vX11_isMachine kX11_152 dX11_same_10 rfl (zRo_d d) (as := [vi l2]) (rest := []) (Nat.le_of_ble_eq_true rfl) rfl rfl (zCb_mono (fun x5 h6 k => ?_) k)
    obtain ⟨ka, kb⟩ := k
    refine z_ifb_ne (tgt := 22) dX11_same_13 rfl rfl ⟨fun q => ?_, fun q => ?_⟩
    · have k := ka q
      refine z_aload_n 0 dX11_same_22 rfl rfl (Nat.le_of_ble_eq_true rfl) rfl ?_
      refine z_aload_n 0 dX11_same_23 rfl rfl (Nat.le_of_ble_eq_true rfl) rfl ?_
      refine z_getF 11 6 (x := 233) fX11_42 rfl dX11_same_24 rfl rfl ?_
      refine z_aload_n 0 dX11_same_27 rfl rfl (Nat.le_of_ble_eq_true rfl) rfl ?_
      refine z_getF 11 17 (x := 3) fX11_19 rfl dX11_same_28 rfl rfl ?_
      refine z_iload_n 1 dX11_same_31 rfl rfl rfl ?_
      obtain ⟨i9, k⟩ := k
      refine z_aald17 (x := (h6 3 l1)) dX11_same_32 (by rw [zl_3]; exact i9) rfl rfl ?_
      refine z_w (fun w7 => ?_)
      refine z_aload_n 0 dX11_same_33 rfl rfl (Nat.le_of_ble_eq_true rfl) rfl ?_
      refine z_getF 11 17 (x := 3) fX11_19 rfl dX11_same_34 rfl rfl ?_
      refine z_iload_n 2 dX11_same_37 rfl rfl rfl ?_
      obtain ⟨i9, k⟩ := k
      refine z_aald17 (x := (h6 3 l2)) dX11_same_38 (by rw [zl_3]; exact i9) rfl rfl ?_
      refine z_w (fun w8 => ?_)
      refine z_bipush dX11_same_39 rfl rfl ?_
      refine z_callVi vX6_firstOf kX11_305 dX11_same_41 rfl (zRo_d d) (as := [vr 4 (h6 3 l1), vr 4 (h6 3 l2), vi 6]) (rest := [vr 11 0]) (Nat.le_of_ble_eq_true rfl) rfl rfl (zCi_mono (fun x9 h10 k => ?_) k)
      obtain ⟨r1, ka, kb⟩ := k
      refine z_if_ge (tgt := 51) dX11_same_44 rfl r1 rfl ⟨fun q => ?_, fun q => ?_⟩
      · have k := ka q
        refine z_iconst dX11_same_51 rfl ?_
        refine z_callVi vX11_granted kX11_116 dX11_same_52 rfl (zRo_d d) (as := [vi 0]) (rest := []) (Nat.le_of_ble_eq_true rfl) rfl rfl (zCi_mono (fun x11 h12 k => ?_) k)
        exact z_ireturn rfl dX11_same_55 ⟨_, rfl, k⟩
      · have k := kb q
        refine z_iconst dX11_same_47 rfl ?_
        refine z_goto (tgt := 52) dX11_same_48 rfl ?_
        refine z_callVi vX11_granted kX11_116 dX11_same_52 rfl (zRo_d d) (as := [vi 1]) (rest := []) (Nat.le_of_ble_eq_true rfl) rfl rfl (zCi_mono (fun x13 h14 k => ?_) k)
        exact z_ireturn rfl dX11_same_55 ⟨_, rfl, k⟩
    · have k := kb q
      refine z_aload_n 0 dX11_same_16 rfl rfl (Nat.le_of_ble_eq_true rfl) rfl ?_
      refine z_iconst dX11_same_17 rfl ?_
      refine z_callVi vX11_refused kX11_84 dX11_same_18 rfl (zRo_d d) (as := [vi 1]) (rest := []) (Nat.le_of_ble_eq_true rfl) rfl rfl (zCi_mono (fun x15 h16 k => ?_) k)
      exact z_ireturn rfl dX11_same_21 ⟨_, rfl, k⟩
theorem eX11_same {G : zG} {d : Nat} {K : Int → zH → Prop} {l1 : Int} {l2 : Int} {h : zH} (k : tX11_same_0 G d K l1 l2 h) : zCi G (d + 1) mX11_same [vr 11 0, vi l1, vi l2] h K := z_entry (by decide +kernel) (Nat.le_of_ble_eq_true rfl) rfl k
def tX11_within_0 (G : zG) (d : Nat) (K : Int → zH → Prop) (l1 : Int) (l2 : Int) (h : zH) : Prop := zTi G (d + 1) mX11_within K 0 [some (vr 11 0), some (vi l1), some (vi l2)] [] h
theorem bX11_within_0 {G : zG} {d : Nat} {K : Int → zH → Prop} {l1 : Int} {l2 : Int} {h : zH} (k : zCb G d mX11_isMachine [vr 11 0, vi l1] h (fun x1 h2 => (x1 = false → zCi G d mX11_refused [vr 11 0, vi 1] h2 (fun x3 h4 => K x3 h4)) ∧ (x1 = true → zCb G d mX11_isMachine [vr 11 0, vi l2] h2 (fun x5 h6 => (x5 = true → ((0 : Int) ≤ l1 ∧ l1 < 10) ∧ ((0 : Int) ≤ l2 ∧ l2 < 10) ∧ zCi G d mX6_firstOf [vr 6 233, vr 4 (h6 3 l1), vr 4 (h6 3 l2), vi 2] h6 (fun x9 h10 => zR x9 ∧ (0 ≤ x9 → zCi G d mX11_granted [vr 11 0, vi 0] h10 (fun x11 h12 => K x11 h12)) ∧ (¬ 0 ≤ x9 → zCi G d mX11_granted [vr 11 0, vi 1] h10 (fun x13 h14 => K x13 h14)))) ∧ (x5 = false → zCi G d mX11_refused [vr 11 0, vi 1] h6 (fun x15 h16 => K x15 h16)))))) : tX11_within_0 G d K l1 l2 h := by
  unfold tX11_within_0
  refine z_aload_n 0 dX11_within_0 rfl rfl (Nat.le_of_ble_eq_true rfl) rfl ?_
  refine z_iload_n 1 dX11_within_1 rfl rfl rfl ?_
  refine z_callVb vX11_isMachine kX11_152 dX11_within_2 rfl (zRo_d d) (as := [vi l1]) (rest := []) (Nat.le_of_ble_eq_true rfl) rfl rfl (zCb_mono (fun x1 h2 k => ?_) k)
  obtain ⟨ka, kb⟩ := k
  refine z_ifb_eq (tgt := 16) dX11_within_5 rfl rfl ⟨fun q => ?_, fun q => ?_⟩
  · have k := ka q
    refine z_aload_n 0 dX11_within_16 rfl rfl (Nat.le_of_ble_eq_true rfl) rfl ?_
    refine z_iconst dX11_within_17 rfl ?_
    refine z_callVi vX11_refused kX11_84 dX11_within_18 rfl (zRo_d d) (as := [vi 1]) (rest := []) (Nat.le_of_ble_eq_true rfl) rfl rfl (zCi_mono (fun x3 h4 k => ?_) k)
    exact z_ireturn rfl dX11_within_21 ⟨_, rfl, k⟩
  · have k := kb q
    refine z_aload_n 0 dX11_within_8 rfl rfl (Nat.le_of_ble_eq_true rfl) rfl ?_
    refine z_iload_n 2 dX11_within_9 rfl rfl rfl ?_
    refine z_callVb vX11_isMachine kX11_152 dX11_within_10 rfl (zRo_d d) (as := [vi l2]) (rest := []) (Nat.le_of_ble_eq_true rfl) rfl rfl (zCb_mono (fun x5 h6 k => ?_) k)
    obtain ⟨ka, kb⟩ := k
    refine z_ifb_ne (tgt := 22) dX11_within_13 rfl rfl ⟨fun q => ?_, fun q => ?_⟩
    · have k := ka q
      refine z_aload_n 0 dX11_within_22 rfl rfl (Nat.le_of_ble_eq_true rfl) rfl ?_
      refine z_aload_n 0 dX11_within_23 rfl rfl (Nat.le_of_ble_eq_true rfl) rfl ?_
      refine z_getF 11 6 (x := 233) fX11_42 rfl dX11_within_24 rfl rfl ?_
      refine z_aload_n 0 dX11_within_27 rfl rfl (Nat.le_of_ble_eq_true rfl) rfl ?_
      refine z_getF 11 17 (x := 3) fX11_19 rfl dX11_within_28 rfl rfl ?_
      refine z_iload_n 1 dX11_within_31 rfl rfl rfl ?_
      obtain ⟨i9, k⟩ := k
      refine z_aald17 (x := (h6 3 l1)) dX11_within_32 (by rw [zl_3]; exact i9) rfl rfl ?_
      refine z_w (fun w7 => ?_)
      refine z_aload_n 0 dX11_within_33 rfl rfl (Nat.le_of_ble_eq_true rfl) rfl ?_
      refine z_getF 11 17 (x := 3) fX11_19 rfl dX11_within_34 rfl rfl ?_
      refine z_iload_n 2 dX11_within_37 rfl rfl rfl ?_
      obtain ⟨i9, k⟩ := k
      refine z_aald17 (x := (h6 3 l2)) dX11_within_38 (by rw [zl_3]; exact i9) rfl rfl ?_
      refine z_w (fun w8 => ?_)
      refine z_iconst dX11_within_39 rfl ?_
      refine z_callVi vX6_firstOf kX11_305 dX11_within_40 rfl (zRo_d d) (as := [vr 4 (h6 3 l1), vr 4 (h6 3 l2), vi 2]) (rest := [vr 11 0]) (Nat.le_of_ble_eq_true rfl) rfl rfl (zCi_mono (fun x9 h10 k => ?_) k)
      obtain ⟨r1, ka, kb⟩ := k
      refine z_if_ge (tgt := 50) dX11_within_43 rfl r1 rfl ⟨fun q => ?_, fun q => ?_⟩
      · have k := ka q
        refine z_iconst dX11_within_50 rfl ?_
        refine z_callVi vX11_granted kX11_116 dX11_within_51 rfl (zRo_d d) (as := [vi 0]) (rest := []) (Nat.le_of_ble_eq_true rfl) rfl rfl (zCi_mono (fun x11 h12 k => ?_) k)
        exact z_ireturn rfl dX11_within_54 ⟨_, rfl, k⟩
      · have k := kb q
        refine z_iconst dX11_within_46 rfl ?_
        refine z_goto (tgt := 51) dX11_within_47 rfl ?_
        refine z_callVi vX11_granted kX11_116 dX11_within_51 rfl (zRo_d d) (as := [vi 1]) (rest := []) (Nat.le_of_ble_eq_true rfl) rfl rfl (zCi_mono (fun x13 h14 k => ?_) k)
        exact z_ireturn rfl dX11_within_54 ⟨_, rfl, k⟩
    · have k := kb q
      refine z_aload_n 0 dX11_within_16 rfl rfl (Nat.le_of_ble_eq_true rfl) rfl ?_
      refine z_iconst dX11_within_17 rfl ?_
      refine z_callVi vX11_refused kX11_84 dX11_within_18 rfl (zRo_d d) (as := [vi 1]) (rest := []) (Nat.le_of_ble_eq_true rfl) rfl rfl (zCi_mono (fun x15 h16 k => ?_) k)
      exact z_ireturn rfl dX11_within_21 ⟨_, rfl, k⟩
theorem eX11_within {G : zG} {d : Nat} {K : Int → zH → Prop} {l1 : Int} {l2 : Int} {h : zH} (k : tX11_within_0 G d K l1 l2 h) : zCi G (d + 1) mX11_within [vr 11 0, vi l1, vi l2] h K := z_entry (by decide +kernel) (Nat.le_of_ble_eq_true rfl) rfl k
def tX11_sure_0 (G : zG) (d : Nat) (K : Int → zH → Prop) (l1 : Int) (h : zH) : Prop := zTi G (d + 1) mX11_sure K 0 [some (vr 11 0), some (vi l1)] [] h
theorem bX11_sure_0 {G : zG} {d : Nat} {K : Int → zH → Prop} {l1 : Int} {h : zH} (k : zCb G d mX11_isMachine [vr 11 0, vi l1] h (fun x1 h2 => (x1 = true → ((0 : Int) ≤ l1 ∧ l1 < 10) ∧ zCv G d mX2_drawSheaves [vr 2 4, vr 4 (h2 3 l1)] h2 (fun h5 => zCi G d mX11_keepDraft [vr 11 0] h5 (fun x6 h7 => K x6 h7))) ∧ (x1 = false → zCi G d mX11_refused [vr 11 0, vi 1] h2 (fun x8 h9 => K x8 h9)))) : tX11_sure_0 G d K l1 h := by
  unfold tX11_sure_0
  refine z_aload_n 0 dX11_sure_0 rfl rfl (Nat.le_of_ble_eq_true rfl) rfl ?_
  refine z_iload_n 1 dX11_sure_1 rfl rfl rfl ?_
  refine z_callVb vX11_isMachine kX11_152 dX11_sure_2 rfl (zRo_d d) (as := [vi l1]) (rest := []) (Nat.le_of_ble_eq_true rfl) rfl rfl (zCb_mono (fun x1 h2 k => ?_) k)
  obtain ⟨ka, kb⟩ := k
  refine z_ifb_ne (tgt := 14) dX11_sure_5 rfl rfl ⟨fun q => ?_, fun q => ?_⟩
  · have k := ka q
    refine z_aload_n 0 dX11_sure_14 rfl rfl (Nat.le_of_ble_eq_true rfl) rfl ?_
    refine z_getF 11 2 (x := 4) fX11_26 rfl dX11_sure_15 rfl rfl ?_
    refine z_aload_n 0 dX11_sure_18 rfl rfl (Nat.le_of_ble_eq_true rfl) rfl ?_
    refine z_getF 11 17 (x := 3) fX11_19 rfl dX11_sure_19 rfl rfl ?_
    refine z_iload_n 1 dX11_sure_22 rfl rfl rfl ?_
    obtain ⟨i9, k⟩ := k
    refine z_aald17 (x := (h2 3 l1)) dX11_sure_23 (by rw [zl_3]; exact i9) rfl rfl ?_
    refine z_w (fun w3 => ?_)
    refine z_callVv vX2_drawSheaves kX11_313 dX11_sure_24 rfl (zRo_d d) (as := [vr 4 (h2 3 l1)]) (rest := []) (Nat.le_of_ble_eq_true rfl) rfl rfl (zCv_mono (fun h5 k => ?_) k)
    refine z_aload_n 0 dX11_sure_27 rfl rfl (Nat.le_of_ble_eq_true rfl) rfl ?_
    refine z_callVi vX11_keepDraft kX11_317 dX11_sure_28 rfl (zRo_d d) (as := []) (rest := []) (Nat.le_of_ble_eq_true rfl) rfl rfl (zCi_mono (fun x6 h7 k => ?_) k)
    exact z_ireturn rfl dX11_sure_31 ⟨_, rfl, k⟩
  · have k := kb q
    refine z_aload_n 0 dX11_sure_8 rfl rfl (Nat.le_of_ble_eq_true rfl) rfl ?_
    refine z_iconst dX11_sure_9 rfl ?_
    refine z_callVi vX11_refused kX11_84 dX11_sure_10 rfl (zRo_d d) (as := [vi 1]) (rest := []) (Nat.le_of_ble_eq_true rfl) rfl rfl (zCi_mono (fun x8 h9 k => ?_) k)
    exact z_ireturn rfl dX11_sure_13 ⟨_, rfl, k⟩
theorem eX11_sure {G : zG} {d : Nat} {K : Int → zH → Prop} {l1 : Int} {h : zH} (k : tX11_sure_0 G d K l1 h) : zCi G (d + 1) mX11_sure [vr 11 0, vi l1] h K := z_entry (by decide +kernel) (Nat.le_of_ble_eq_true rfl) rfl k
def tX11_least_0 (G : zG) (d : Nat) (K : Int → zH → Prop) (l1 : Int) (h : zH) : Prop := zTi G (d + 1) mX11_least K 0 [some (vr 11 0), some (vi l1)] [] h
theorem bX11_least_0 {G : zG} {d : Nat} {K : Int → zH → Prop} {l1 : Int} {h : zH} (k : zCb G d mX11_isMachine [vr 11 0, vi l1] h (fun x1 h2 => (x1 = true → ((0 : Int) ≤ l1 ∧ l1 < 10) ∧ zCv G d mX2_drawClasses [vr 2 4, vr 4 (h2 3 l1), vi (bi true)] h2 (fun h5 => zCi G d mX11_keepDraft [vr 11 0] h5 (fun x6 h7 => K x6 h7))) ∧ (x1 = false → zCi G d mX11_refused [vr 11 0, vi 1] h2 (fun x8 h9 => K x8 h9)))) : tX11_least_0 G d K l1 h := by
  unfold tX11_least_0
  refine z_aload_n 0 dX11_least_0 rfl rfl (Nat.le_of_ble_eq_true rfl) rfl ?_
  refine z_iload_n 1 dX11_least_1 rfl rfl rfl ?_
  refine z_callVb vX11_isMachine kX11_152 dX11_least_2 rfl (zRo_d d) (as := [vi l1]) (rest := []) (Nat.le_of_ble_eq_true rfl) rfl rfl (zCb_mono (fun x1 h2 k => ?_) k)
  obtain ⟨ka, kb⟩ := k
  refine z_ifb_ne (tgt := 14) dX11_least_5 rfl rfl ⟨fun q => ?_, fun q => ?_⟩
  · have k := ka q
    refine z_aload_n 0 dX11_least_14 rfl rfl (Nat.le_of_ble_eq_true rfl) rfl ?_
    refine z_getF 11 2 (x := 4) fX11_26 rfl dX11_least_15 rfl rfl ?_
    refine z_aload_n 0 dX11_least_18 rfl rfl (Nat.le_of_ble_eq_true rfl) rfl ?_
    refine z_getF 11 17 (x := 3) fX11_19 rfl dX11_least_19 rfl rfl ?_
    refine z_iload_n 1 dX11_least_22 rfl rfl rfl ?_
    obtain ⟨i9, k⟩ := k
    refine z_aald17 (x := (h2 3 l1)) dX11_least_23 (by rw [zl_3]; exact i9) rfl rfl ?_
    refine z_w (fun w3 => ?_)
    refine z_iconst dX11_least_24 rfl ?_
    refine z_callVv vX2_drawClasses kX11_320 dX11_least_25 rfl (zRo_d d) (as := [vr 4 (h2 3 l1), vi (bi true)]) (rest := []) (Nat.le_of_ble_eq_true rfl) rfl rfl (zCv_mono (fun h5 k => ?_) k)
    refine z_aload_n 0 dX11_least_28 rfl rfl (Nat.le_of_ble_eq_true rfl) rfl ?_
    refine z_callVi vX11_keepDraft kX11_317 dX11_least_29 rfl (zRo_d d) (as := []) (rest := []) (Nat.le_of_ble_eq_true rfl) rfl rfl (zCi_mono (fun x6 h7 k => ?_) k)
    exact z_ireturn rfl dX11_least_32 ⟨_, rfl, k⟩
  · have k := kb q
    refine z_aload_n 0 dX11_least_8 rfl rfl (Nat.le_of_ble_eq_true rfl) rfl ?_
    refine z_iconst dX11_least_9 rfl ?_
    refine z_callVi vX11_refused kX11_84 dX11_least_10 rfl (zRo_d d) (as := [vi 1]) (rest := []) (Nat.le_of_ble_eq_true rfl) rfl rfl (zCi_mono (fun x8 h9 k => ?_) k)
    exact z_ireturn rfl dX11_least_13 ⟨_, rfl, k⟩
theorem eX11_least {G : zG} {d : Nat} {K : Int → zH → Prop} {l1 : Int} {h : zH} (k : tX11_least_0 G d K l1 h) : zCi G (d + 1) mX11_least [vr 11 0, vi l1] h K := z_entry (by decide +kernel) (Nat.le_of_ble_eq_true rfl) rfl k
def tX11_other_0 (G : zG) (d : Nat) (K : Int → zH → Prop) (l1 : Int) (h : zH) : Prop := zTi G (d + 1) mX11_other K 0 [some (vr 11 0), some (vi l1)] [] h
theorem bX11_other_0 {G : zG} {d : Nat} {K : Int → zH → Prop} {l1 : Int} {h : zH} (k : zCb G d mX11_isMachine [vr 11 0, vi l1] h (fun x1 h2 => (x1 = true → ((0 : Int) ≤ l1 ∧ l1 < 10) ∧ zCv G d mX2_drawClasses [vr 2 4, vr 4 (h2 3 l1), vi (bi false)] h2 (fun h5 => zCi G d mX11_keepDraft [vr 11 0] h5 (fun x6 h7 => K x6 h7))) ∧ (x1 = false → zCi G d mX11_refused [vr 11 0, vi 1] h2 (fun x8 h9 => K x8 h9)))) : tX11_other_0 G d K l1 h := by
  unfold tX11_other_0
  refine z_aload_n 0 dX11_other_0 rfl rfl (Nat.le_of_ble_eq_true rfl) rfl ?_
  refine z_iload_n 1 dX11_other_1 rfl rfl rfl ?_
  refine z_callVb vX11_isMachine kX11_152 dX11_other_2 rfl (zRo_d d) (as := [vi l1]) (rest := []) (Nat.le_of_ble_eq_true rfl) rfl rfl (zCb_mono (fun x1 h2 k => ?_) k)
  obtain ⟨ka, kb⟩ := k
  refine z_ifb_ne (tgt := 14) dX11_other_5 rfl rfl ⟨fun q => ?_, fun q => ?_⟩
  · have k := ka q
    refine z_aload_n 0 dX11_other_14 rfl rfl (Nat.le_of_ble_eq_true rfl) rfl ?_
    refine z_getF 11 2 (x := 4) fX11_26 rfl dX11_other_15 rfl rfl ?_
    refine z_aload_n 0 dX11_other_18 rfl rfl (Nat.le_of_ble_eq_true rfl) rfl ?_
    refine z_getF 11 17 (x := 3) fX11_19 rfl dX11_other_19 rfl rfl ?_
    refine z_iload_n 1 dX11_other_22 rfl rfl rfl ?_
    obtain ⟨i9, k⟩ := k
    refine z_aald17 (x := (h2 3 l1)) dX11_other_23 (by rw [zl_3]; exact i9) rfl rfl ?_
    refine z_w (fun w3 => ?_)
    refine z_iconst dX11_other_24 rfl ?_
    refine z_callVv vX2_drawClasses kX11_320 dX11_other_25 rfl (zRo_d d) (as := [vr 4 (h2 3 l1), vi (bi false)]) (rest := []) (Nat.le_of_ble_eq_true rfl) rfl rfl (zCv_mono (fun h5 k => ?_) k)
    refine z_aload_n 0 dX11_other_28 rfl rfl (Nat.le_of_ble_eq_true rfl) rfl ?_
    refine z_callVi vX11_keepDraft kX11_317 dX11_other_29 rfl (zRo_d d) (as := []) (rest := []) (Nat.le_of_ble_eq_true rfl) rfl rfl (zCi_mono (fun x6 h7 k => ?_) k)
    exact z_ireturn rfl dX11_other_32 ⟨_, rfl, k⟩
  · have k := kb q
    refine z_aload_n 0 dX11_other_8 rfl rfl (Nat.le_of_ble_eq_true rfl) rfl ?_
    refine z_iconst dX11_other_9 rfl ?_
    refine z_callVi vX11_refused kX11_84 dX11_other_10 rfl (zRo_d d) (as := [vi 1]) (rest := []) (Nat.le_of_ble_eq_true rfl) rfl rfl (zCi_mono (fun x8 h9 k => ?_) k)
    exact z_ireturn rfl dX11_other_13 ⟨_, rfl, k⟩
theorem eX11_other {G : zG} {d : Nat} {K : Int → zH → Prop} {l1 : Int} {h : zH} (k : tX11_other_0 G d K l1 h) : zCi G (d + 1) mX11_other [vr 11 0, vi l1] h K := z_entry (by decide +kernel) (Nat.le_of_ble_eq_true rfl) rfl k
def tX11_join_0 (G : zG) (d : Nat) (K : Int → zH → Prop) (l1 : Int) (l2 : Int) (l3 : Int) (h : zH) : Prop := zTi G (d + 1) mX11_join K 0 [some (vr 11 0), some (vi l1), some (vi l2), some (vi l3), none] [] h
theorem bX11_join_0 {G : zG} {d : Nat} {K : Int → zH → Prop} {l1 : Int} {l2 : Int} {l3 : Int} {h : zH} (k : zCi G d mX11_whyNoPair [vr 11 0, vi l1, vi l2, vi l3] h (fun x1 h2 => zR x1 ∧ (x1 = 0 → ((0 : Int) ≤ l1 ∧ l1 < 10) ∧ ((0 : Int) ≤ l2 ∧ l2 < 10) ∧ zCb G d mX6_drawAll [vr 6 233, vr 4 (h2 3 l1), vr 4 (h2 3 l2), vi l3] h2 (fun x5 h6 => (x5 = true → zCi G d mX11_keepDraft [vr 11 0] h6 (fun x7 h8 => K x7 h8)) ∧ (x5 = false → zCi G d mX11_refused [vr 11 0, vi 3] h6 (fun x9 h10 => K x9 h10)))) ∧ (¬ x1 = 0 → zCi G d mX11_refused [vr 11 0, vi x1] h2 (fun x11 h12 => K x11 h12)))) : tX11_join_0 G d K l1 l2 l3 h := by
  unfold tX11_join_0
  refine z_aload_n 0 dX11_join_0 rfl rfl (Nat.le_of_ble_eq_true rfl) rfl ?_
  refine z_iload_n 1 dX11_join_1 rfl rfl rfl ?_
  refine z_iload_n 2 dX11_join_2 rfl rfl rfl ?_
  refine z_iload_n 3 dX11_join_3 rfl rfl rfl ?_
  refine z_callVi vX11_whyNoPair kX11_302 dX11_join_4 rfl (zRo_d d) (as := [vi l1, vi l2, vi l3]) (rest := []) (Nat.le_of_ble_eq_true rfl) rfl rfl (zCi_mono (fun x1 h2 k => ?_) k)
  refine z_istore dX11_join_7 (Nat.le_of_ble_eq_true rfl) (L' := [some (vr 11 0), some (vi l1), some (vi l2), some (vi l3), some (vi x1)]) rfl rfl ?_
  refine z_iload dX11_join_9 rfl rfl ?_
  obtain ⟨r1, ka, kb⟩ := k
  refine z_if_eq (tgt := 21) dX11_join_11 rfl r1 rfl ⟨fun q => ?_, fun q => ?_⟩
  · have k := ka q
    refine z_aload_n 0 dX11_join_21 rfl rfl (Nat.le_of_ble_eq_true rfl) rfl ?_
    refine z_getF 11 6 (x := 233) fX11_42 rfl dX11_join_22 rfl rfl ?_
    refine z_aload_n 0 dX11_join_25 rfl rfl (Nat.le_of_ble_eq_true rfl) rfl ?_
    refine z_getF 11 17 (x := 3) fX11_19 rfl dX11_join_26 rfl rfl ?_
    refine z_iload_n 1 dX11_join_29 rfl rfl rfl ?_
    obtain ⟨i9, k⟩ := k
    refine z_aald17 (x := (h2 3 l1)) dX11_join_30 (by rw [zl_3]; exact i9) rfl rfl ?_
    refine z_w (fun w3 => ?_)
    refine z_aload_n 0 dX11_join_31 rfl rfl (Nat.le_of_ble_eq_true rfl) rfl ?_
    refine z_getF 11 17 (x := 3) fX11_19 rfl dX11_join_32 rfl rfl ?_
    refine z_iload_n 2 dX11_join_35 rfl rfl rfl ?_
    obtain ⟨i9, k⟩ := k
    refine z_aald17 (x := (h2 3 l2)) dX11_join_36 (by rw [zl_3]; exact i9) rfl rfl ?_
    refine z_w (fun w4 => ?_)
    refine z_iload_n 3 dX11_join_37 rfl rfl rfl ?_
    refine z_callVb vX6_drawAll kX11_324 dX11_join_38 rfl (zRo_d d) (as := [vr 4 (h2 3 l1), vr 4 (h2 3 l2), vi l3]) (rest := []) (Nat.le_of_ble_eq_true rfl) rfl rfl (zCb_mono (fun x5 h6 k => ?_) k)
    obtain ⟨ka, kb⟩ := k
    refine z_ifb_ne (tgt := 50) dX11_join_41 rfl rfl ⟨fun q => ?_, fun q => ?_⟩
    · have k := ka q
      refine z_aload_n 0 dX11_join_50 rfl rfl (Nat.le_of_ble_eq_true rfl) rfl ?_
      refine z_callVi vX11_keepDraft kX11_317 dX11_join_51 rfl (zRo_d d) (as := []) (rest := []) (Nat.le_of_ble_eq_true rfl) rfl rfl (zCi_mono (fun x7 h8 k => ?_) k)
      exact z_ireturn rfl dX11_join_54 ⟨_, rfl, k⟩
    · have k := kb q
      refine z_aload_n 0 dX11_join_44 rfl rfl (Nat.le_of_ble_eq_true rfl) rfl ?_
      refine z_iconst dX11_join_45 rfl ?_
      refine z_callVi vX11_refused kX11_84 dX11_join_46 rfl (zRo_d d) (as := [vi 3]) (rest := []) (Nat.le_of_ble_eq_true rfl) rfl rfl (zCi_mono (fun x9 h10 k => ?_) k)
      exact z_ireturn rfl dX11_join_49 ⟨_, rfl, k⟩
  · have k := kb q
    refine z_aload_n 0 dX11_join_14 rfl rfl (Nat.le_of_ble_eq_true rfl) rfl ?_
    refine z_iload dX11_join_15 rfl rfl ?_
    refine z_callVi vX11_refused kX11_84 dX11_join_17 rfl (zRo_d d) (as := [vi x1]) (rest := []) (Nat.le_of_ble_eq_true rfl) rfl rfl (zCi_mono (fun x11 h12 k => ?_) k)
    exact z_ireturn rfl dX11_join_20 ⟨_, rfl, k⟩
theorem eX11_join {G : zG} {d : Nat} {K : Int → zH → Prop} {l1 : Int} {l2 : Int} {l3 : Int} {h : zH} (k : tX11_join_0 G d K l1 l2 l3 h) : zCi G (d + 1) mX11_join [vr 11 0, vi l1, vi l2, vi l3] h K := z_entry (by decide +kernel) (Nat.le_of_ble_eq_true rfl) rfl k
def tX11_behind_0 (G : zG) (d : Nat) (K : Int → zH → Prop) (l1 : Int) (l2 : Int) (h : zH) : Prop := zTi G (d + 1) mX11_behind K 0 [some (vr 11 0), some (vi l1), some (vi l2), none, none] [] h
theorem bX11_behind_0 {G : zG} {d : Nat} {K : Int → zH → Prop} {l1 : Int} {l2 : Int} {h : zH} (k : zCb G d mX11_isMachine [vr 11 0, vi l1] h (fun x1 h2 => (x1 = false → zCi G d mX11_refused [vr 11 0, vi 1] h2 (fun x3 h4 => K x3 h4)) ∧ (x1 = true → zCb G d mX11_isMachine [vr 11 0, vi l2] h2 (fun x5 h6 => (x5 = true → ((0 : Int) ≤ l1 ∧ l1 < 10) ∧ ((0 : Int) ≤ l2 ∧ l2 < 10) ∧ zCv G d mX2_begin [vr 2 4, vi ((h6 (h6 3 l1) 7) + (h6 (h6 3 l2) 7))] h6 (fun h10 => zCv G d mX2_cutLike [vr 2 4, vr 4 (h6 3 l1), vi 0] h10 (fun h12 => zCv G d mX2_cutLike [vr 2 4, vr 4 (h6 3 l2), vi 0] h12 (fun h14 => zCv G d mX2_trace [vr 2 4, vr 4 (h6 3 l1), vi 0] h14 (fun h16 => zCv G d mX2_copyEdges [vr 2 4, vr 4 (h6 3 l1), vi 0, vi (bi false)] h16 (fun h18 => zCv G d mX2_trace [vr 2 4, vr 4 (h6 3 l2), vi 0] h18 (fun h20 => zCv G d mX2_copyEdges [vr 2 4, vr 4 (h6 3 l2), vi (h20 (h6 3 l1) 7), vi (bi false)] h20 (fun h22 => zCv G d mX2_copyFrees [vr 2 4, vr 4 (h6 3 l1), vi 0, vi (bi false)] h22 (fun h24 => zCv G d mX2_copyFrees [vr 2 4, vr 4 (h6 3 l2), vi (h24 (h6 3 l1) 7), vi (bi false)] h24 (fun h26 => zCv G d mX2_freeFromEach [vr 2 4, vl (h26 (h6 3 l1) 8), vi 0, vi (h26 (h6 3 l1) 7)] h26 (fun h28 => zCi G d mX11_keepDraft [vr 11 0] (zup h28 4 8 (zlshl (h28 (h6 3 l2) 8) (h28 (h6 3 l1) 7))) (fun x29 h30 => K x29 h30)))))))))))) ∧ (x5 = false → zCi G d mX11_refused [vr 11 0, vi 1] h6 (fun x31 h32 => K x31 h32)))))) : tX11_behind_0 G d K l1 l2 h := by
  unfold tX11_behind_0
  refine z_aload_n 0 dX11_behind_0 rfl rfl (Nat.le_of_ble_eq_true rfl) rfl ?_
  refine z_iload_n 1 dX11_behind_1 rfl rfl rfl ?_
  refine z_callVb vX11_isMachine kX11_152 dX11_behind_2 rfl (zRo_d d) (as := [vi l1]) (rest := []) (Nat.le_of_ble_eq_true rfl) rfl rfl (zCb_mono (fun x1 h2 k => ?_) k)
  obtain ⟨ka, kb⟩ := k
  refine z_ifb_eq (tgt := 16) dX11_behind_5 rfl rfl ⟨fun q => ?_, fun q => ?_⟩
  · have k := ka q
    refine z_aload_n 0 dX11_behind_16 rfl rfl (Nat.le_of_ble_eq_true rfl) rfl ?_
    refine z_iconst dX11_behind_17 rfl ?_
    refine z_callVi vX11_refused kX11_84 dX11_behind_18 rfl (zRo_d d) (as := [vi 1]) (rest := []) (Nat.le_of_ble_eq_true rfl) rfl rfl (zCi_mono (fun x3 h4 k => ?_) k)
    exact z_ireturn rfl dX11_behind_21 ⟨_, rfl, k⟩
  · have k := kb q
    refine z_aload_n 0 dX11_behind_8 rfl rfl (Nat.le_of_ble_eq_true rfl) rfl ?_
    refine z_iload_n 2 dX11_behind_9 rfl rfl rfl ?_
    refine z_callVb vX11_isMachine kX11_152 dX11_behind_10 rfl (zRo_d d) (as := [vi l2]) (rest := []) (Nat.le_of_ble_eq_true rfl) rfl rfl (zCb_mono (fun x5 h6 k => ?_) k)
    obtain ⟨ka, kb⟩ := k
    refine z_ifb_ne (tgt := 22) dX11_behind_13 rfl rfl ⟨fun q => ?_, fun q => ?_⟩
    · have k := ka q
      refine z_aload_n 0 dX11_behind_22 rfl rfl (Nat.le_of_ble_eq_true rfl) rfl ?_
      refine z_getF 11 17 (x := 3) fX11_19 rfl dX11_behind_23 rfl rfl ?_
      refine z_iload_n 1 dX11_behind_26 rfl rfl rfl ?_
      obtain ⟨i9, k⟩ := k
      refine z_aald17 (x := (h6 3 l1)) dX11_behind_27 (by rw [zl_3]; exact i9) rfl rfl ?_
      refine z_w (fun w7 => ?_)
      refine z_astore_n 3 dX11_behind_28 rfl (Nat.le_of_ble_eq_true rfl) (Nat.le_of_ble_eq_true rfl) (L' := [some (vr 11 0), some (vi l1), some (vi l2), some (vr 4 (h6 3 l1)), none]) rfl rfl ?_
      refine z_aload_n 0 dX11_behind_29 rfl rfl (Nat.le_of_ble_eq_true rfl) rfl ?_
      refine z_getF 11 17 (x := 3) fX11_19 rfl dX11_behind_30 rfl rfl ?_
      refine z_iload_n 2 dX11_behind_33 rfl rfl rfl ?_
      obtain ⟨i9, k⟩ := k
      refine z_aald17 (x := (h6 3 l2)) dX11_behind_34 (by rw [zl_3]; exact i9) rfl rfl ?_
      refine z_w (fun w8 => ?_)
      refine z_astore dX11_behind_35 (Nat.le_of_ble_eq_true rfl) (Nat.le_of_ble_eq_true rfl) (L' := [some (vr 11 0), some (vi l1), some (vi l2), some (vr 4 (h6 3 l1)), some (vr 4 (h6 3 l2))]) rfl rfl ?_
      refine z_aload_n 0 dX11_behind_37 rfl rfl (Nat.le_of_ble_eq_true rfl) rfl ?_
      refine z_getF 11 2 (x := 4) fX11_26 rfl dX11_behind_38 rfl rfl ?_
      refine z_aload_n 3 dX11_behind_41 rfl rfl (Nat.le_of_ble_eq_true rfl) rfl ?_
      refine z_getI 4 (x := (h6 (h6 3 l1) 7)) fX11_217 rfl dX11_behind_42 rfl rfl ?_
      refine z_aload dX11_behind_45 rfl (Nat.le_of_ble_eq_true rfl) rfl ?_
      refine z_getI 4 (x := (h6 (h6 3 l2) 7)) fX11_217 rfl dX11_behind_47 rfl rfl ?_
      refine z_iadd dX11_behind_50 rfl ?_
      refine z_callVv vX2_begin kX11_328 dX11_behind_51 rfl (zRo_d d) (as := [vi ((h6 (h6 3 l1) 7) + (h6 (h6 3 l2) 7))]) (rest := []) (Nat.le_of_ble_eq_true rfl) rfl rfl (zCv_mono (fun h10 k => ?_) k)
      refine z_aload_n 0 dX11_behind_54 rfl rfl (Nat.le_of_ble_eq_true rfl) rfl ?_
      refine z_getF 11 2 (x := 4) fX11_26 rfl dX11_behind_55 rfl rfl ?_
      refine z_aload_n 3 dX11_behind_58 rfl rfl (Nat.le_of_ble_eq_true rfl) rfl ?_
      refine z_iconst dX11_behind_59 rfl ?_
      refine z_callVv vX2_cutLike kX11_331 dX11_behind_60 rfl (zRo_d d) (as := [vr 4 (h6 3 l1), vi 0]) (rest := []) (Nat.le_of_ble_eq_true rfl) rfl rfl (zCv_mono (fun h12 k => ?_) k)
      refine z_aload_n 0 dX11_behind_63 rfl rfl (Nat.le_of_ble_eq_true rfl) rfl ?_
      refine z_getF 11 2 (x := 4) fX11_26 rfl dX11_behind_64 rfl rfl ?_
      refine z_aload dX11_behind_67 rfl (Nat.le_of_ble_eq_true rfl) rfl ?_
      refine z_iconst dX11_behind_69 rfl ?_
      refine z_callVv vX2_cutLike kX11_331 dX11_behind_70 rfl (zRo_d d) (as := [vr 4 (h6 3 l2), vi 0]) (rest := []) (Nat.le_of_ble_eq_true rfl) rfl rfl (zCv_mono (fun h14 k => ?_) k)
      refine z_aload_n 0 dX11_behind_73 rfl rfl (Nat.le_of_ble_eq_true rfl) rfl ?_
      refine z_getF 11 2 (x := 4) fX11_26 rfl dX11_behind_74 rfl rfl ?_
      refine z_aload_n 3 dX11_behind_77 rfl rfl (Nat.le_of_ble_eq_true rfl) rfl ?_
      refine z_iconst dX11_behind_78 rfl ?_
      refine z_callVv vX2_trace kX11_334 dX11_behind_79 rfl (zRo_d d) (as := [vr 4 (h6 3 l1), vi 0]) (rest := []) (Nat.le_of_ble_eq_true rfl) rfl rfl (zCv_mono (fun h16 k => ?_) k)
      refine z_aload_n 0 dX11_behind_82 rfl rfl (Nat.le_of_ble_eq_true rfl) rfl ?_
      refine z_getF 11 2 (x := 4) fX11_26 rfl dX11_behind_83 rfl rfl ?_
      refine z_aload_n 3 dX11_behind_86 rfl rfl (Nat.le_of_ble_eq_true rfl) rfl ?_
      refine z_iconst dX11_behind_87 rfl ?_
      refine z_iconst dX11_behind_88 rfl ?_
      refine z_callVv vX2_copyEdges kX11_337 dX11_behind_89 rfl (zRo_d d) (as := [vr 4 (h6 3 l1), vi 0, vi (bi false)]) (rest := []) (Nat.le_of_ble_eq_true rfl) rfl rfl (zCv_mono (fun h18 k => ?_) k)
      refine z_aload_n 0 dX11_behind_92 rfl rfl (Nat.le_of_ble_eq_true rfl) rfl ?_
      refine z_getF 11 2 (x := 4) fX11_26 rfl dX11_behind_93 rfl rfl ?_
      refine z_aload dX11_behind_96 rfl (Nat.le_of_ble_eq_true rfl) rfl ?_
      refine z_iconst dX11_behind_98 rfl ?_
      refine z_callVv vX2_trace kX11_334 dX11_behind_99 rfl (zRo_d d) (as := [vr 4 (h6 3 l2), vi 0]) (rest := []) (Nat.le_of_ble_eq_true rfl) rfl rfl (zCv_mono (fun h20 k => ?_) k)
      refine z_aload_n 0 dX11_behind_102 rfl rfl (Nat.le_of_ble_eq_true rfl) rfl ?_
      refine z_getF 11 2 (x := 4) fX11_26 rfl dX11_behind_103 rfl rfl ?_
      refine z_aload dX11_behind_106 rfl (Nat.le_of_ble_eq_true rfl) rfl ?_
      refine z_aload_n 3 dX11_behind_108 rfl rfl (Nat.le_of_ble_eq_true rfl) rfl ?_
      refine z_getI 4 (x := (h20 (h6 3 l1) 7)) fX11_217 rfl dX11_behind_109 rfl rfl ?_
      refine z_iconst dX11_behind_112 rfl ?_
      refine z_callVv vX2_copyEdges kX11_337 dX11_behind_113 rfl (zRo_d d) (as := [vr 4 (h6 3 l2), vi (h20 (h6 3 l1) 7), vi (bi false)]) (rest := []) (Nat.le_of_ble_eq_true rfl) rfl rfl (zCv_mono (fun h22 k => ?_) k)
      refine z_aload_n 0 dX11_behind_116 rfl rfl (Nat.le_of_ble_eq_true rfl) rfl ?_
      refine z_getF 11 2 (x := 4) fX11_26 rfl dX11_behind_117 rfl rfl ?_
      refine z_aload_n 3 dX11_behind_120 rfl rfl (Nat.le_of_ble_eq_true rfl) rfl ?_
      refine z_iconst dX11_behind_121 rfl ?_
      refine z_iconst dX11_behind_122 rfl ?_
      refine z_callVv vX2_copyFrees kX11_341 dX11_behind_123 rfl (zRo_d d) (as := [vr 4 (h6 3 l1), vi 0, vi (bi false)]) (rest := []) (Nat.le_of_ble_eq_true rfl) rfl rfl (zCv_mono (fun h24 k => ?_) k)
      refine z_aload_n 0 dX11_behind_126 rfl rfl (Nat.le_of_ble_eq_true rfl) rfl ?_
      refine z_getF 11 2 (x := 4) fX11_26 rfl dX11_behind_127 rfl rfl ?_
      refine z_aload dX11_behind_130 rfl (Nat.le_of_ble_eq_true rfl) rfl ?_
      refine z_aload_n 3 dX11_behind_132 rfl rfl (Nat.le_of_ble_eq_true rfl) rfl ?_
      refine z_getI 4 (x := (h24 (h6 3 l1) 7)) fX11_217 rfl dX11_behind_133 rfl rfl ?_
      refine z_iconst dX11_behind_136 rfl ?_
      refine z_callVv vX2_copyFrees kX11_341 dX11_behind_137 rfl (zRo_d d) (as := [vr 4 (h6 3 l2), vi (h24 (h6 3 l1) 7), vi (bi false)]) (rest := []) (Nat.le_of_ble_eq_true rfl) rfl rfl (zCv_mono (fun h26 k => ?_) k)
      refine z_aload_n 0 dX11_behind_140 rfl rfl (Nat.le_of_ble_eq_true rfl) rfl ?_
      refine z_getF 11 2 (x := 4) fX11_26 rfl dX11_behind_141 rfl rfl ?_
      refine z_aload_n 3 dX11_behind_144 rfl rfl (Nat.le_of_ble_eq_true rfl) rfl ?_
      refine z_getL 4 (x := (h26 (h6 3 l1) 8)) fX11_186 rfl dX11_behind_145 rfl rfl ?_
      refine z_iconst dX11_behind_148 rfl ?_
      refine z_aload_n 3 dX11_behind_149 rfl rfl (Nat.le_of_ble_eq_true rfl) rfl ?_
      refine z_getI 4 (x := (h26 (h6 3 l1) 7)) fX11_217 rfl dX11_behind_150 rfl rfl ?_
      refine z_callVv vX2_freeFromEach kX11_344 dX11_behind_153 rfl (zRo_d d) (as := [vl (h26 (h6 3 l1) 8), vi 0, vi (h26 (h6 3 l1) 7)]) (rest := []) (Nat.le_of_ble_eq_true rfl) rfl rfl (zCv_mono (fun h28 k => ?_) k)
      refine z_aload_n 0 dX11_behind_156 rfl rfl (Nat.le_of_ble_eq_true rfl) rfl ?_
      refine z_getF 11 2 (x := 4) fX11_26 rfl dX11_behind_157 rfl rfl ?_
      refine z_aload dX11_behind_160 rfl (Nat.le_of_ble_eq_true rfl) rfl ?_
      refine z_getL 4 (x := (h28 (h6 3 l2) 8)) fX11_186 rfl dX11_behind_162 rfl rfl ?_
      refine z_aload_n 3 dX11_behind_165 rfl rfl (Nat.le_of_ble_eq_true rfl) rfl ?_
      refine z_getI 4 (x := (h28 (h6 3 l1) 7)) fX11_217 rfl dX11_behind_166 rfl rfl ?_
      refine z_lshl dX11_behind_169 rfl ?_
      refine z_putL 2 gX11_348 dX11_behind_170 rfl ?_
      refine z_aload_n 0 dX11_behind_173 rfl rfl (Nat.le_of_ble_eq_true rfl) rfl ?_
      refine z_callVi vX11_keepDraft kX11_317 dX11_behind_174 rfl (zRo_d d) (as := []) (rest := []) (Nat.le_of_ble_eq_true rfl) rfl rfl (zCi_mono (fun x29 h30 k => ?_) k)
      exact z_ireturn rfl dX11_behind_177 ⟨_, rfl, k⟩
    · have k := kb q
      refine z_aload_n 0 dX11_behind_16 rfl rfl (Nat.le_of_ble_eq_true rfl) rfl ?_
      refine z_iconst dX11_behind_17 rfl ?_
      refine z_callVi vX11_refused kX11_84 dX11_behind_18 rfl (zRo_d d) (as := [vi 1]) (rest := []) (Nat.le_of_ble_eq_true rfl) rfl rfl (zCi_mono (fun x31 h32 k => ?_) k)
      exact z_ireturn rfl dX11_behind_21 ⟨_, rfl, k⟩
theorem eX11_behind {G : zG} {d : Nat} {K : Int → zH → Prop} {l1 : Int} {l2 : Int} {h : zH} (k : tX11_behind_0 G d K l1 l2 h) : zCi G (d + 1) mX11_behind [vr 11 0, vi l1, vi l2] h K := z_entry (by decide +kernel) (Nat.le_of_ble_eq_true rfl) rfl k
def tX11_again_0 (G : zG) (d : Nat) (K : Int → zH → Prop) (l1 : Int) (h : zH) : Prop := zTi G (d + 1) mX11_again K 0 [some (vr 11 0), some (vi l1), none] [] h
theorem bX11_again_0 {G : zG} {d : Nat} {K : Int → zH → Prop} {l1 : Int} {h : zH} (k : zCb G d mX11_isMachine [vr 11 0, vi l1] h (fun x1 h2 => (x1 = true → ((0 : Int) ≤ l1 ∧ l1 < 10) ∧ zCv G d mX2_begin [vr 2 4, vi ((h2 (h2 3 l1) 7) + 1)] h2 (fun h5 => zCv G d mX2_addFree [vr 2 4, vi 0, vi 1] h5 (fun h7 => zCv G d mX2_freeFromEach [vr 2 4, vl (h7 (h2 3 l1) 8), vi 1, vi 0] h7 (fun h9 => zCv G d mX2_copyWhole [vr 2 4, vr 4 (h2 3 l1), vi 1, vi (bi false)] h9 (fun h11 => zCi G d mX11_keepDraft [vr 11 0] (zup h11 4 8 1) (fun x12 h13 => K x12 h13)))))) ∧ (x1 = false → zCi G d mX11_refused [vr 11 0, vi 1] h2 (fun x14 h15 => K x14 h15)))) : tX11_again_0 G d K l1 h := by
  unfold tX11_again_0
  refine z_aload_n 0 dX11_again_0 rfl rfl (Nat.le_of_ble_eq_true rfl) rfl ?_
  refine z_iload_n 1 dX11_again_1 rfl rfl rfl ?_
  refine z_callVb vX11_isMachine kX11_152 dX11_again_2 rfl (zRo_d d) (as := [vi l1]) (rest := []) (Nat.le_of_ble_eq_true rfl) rfl rfl (zCb_mono (fun x1 h2 k => ?_) k)
  obtain ⟨ka, kb⟩ := k
  refine z_ifb_ne (tgt := 14) dX11_again_5 rfl rfl ⟨fun q => ?_, fun q => ?_⟩
  · have k := ka q
    refine z_aload_n 0 dX11_again_14 rfl rfl (Nat.le_of_ble_eq_true rfl) rfl ?_
    refine z_getF 11 17 (x := 3) fX11_19 rfl dX11_again_15 rfl rfl ?_
    refine z_iload_n 1 dX11_again_18 rfl rfl rfl ?_
    obtain ⟨i9, k⟩ := k
    refine z_aald17 (x := (h2 3 l1)) dX11_again_19 (by rw [zl_3]; exact i9) rfl rfl ?_
    refine z_w (fun w3 => ?_)
    refine z_astore_n 2 dX11_again_20 rfl (Nat.le_of_ble_eq_true rfl) (Nat.le_of_ble_eq_true rfl) (L' := [some (vr 11 0), some (vi l1), some (vr 4 (h2 3 l1))]) rfl rfl ?_
    refine z_aload_n 0 dX11_again_21 rfl rfl (Nat.le_of_ble_eq_true rfl) rfl ?_
    refine z_getF 11 2 (x := 4) fX11_26 rfl dX11_again_22 rfl rfl ?_
    refine z_aload_n 2 dX11_again_25 rfl rfl (Nat.le_of_ble_eq_true rfl) rfl ?_
    refine z_getI 4 (x := (h2 (h2 3 l1) 7)) fX11_217 rfl dX11_again_26 rfl rfl ?_
    refine z_iconst dX11_again_29 rfl ?_
    refine z_iadd dX11_again_30 rfl ?_
    refine z_callVv vX2_begin kX11_328 dX11_again_31 rfl (zRo_d d) (as := [vi ((h2 (h2 3 l1) 7) + 1)]) (rest := []) (Nat.le_of_ble_eq_true rfl) rfl rfl (zCv_mono (fun h5 k => ?_) k)
    refine z_aload_n 0 dX11_again_34 rfl rfl (Nat.le_of_ble_eq_true rfl) rfl ?_
    refine z_getF 11 2 (x := 4) fX11_26 rfl dX11_again_35 rfl rfl ?_
    refine z_iconst dX11_again_38 rfl ?_
    refine z_iconst dX11_again_39 rfl ?_
    refine z_callVv vX2_addFree kX11_349 dX11_again_40 rfl (zRo_d d) (as := [vi 0, vi 1]) (rest := []) (Nat.le_of_ble_eq_true rfl) rfl rfl (zCv_mono (fun h7 k => ?_) k)
    refine z_aload_n 0 dX11_again_43 rfl rfl (Nat.le_of_ble_eq_true rfl) rfl ?_
    refine z_getF 11 2 (x := 4) fX11_26 rfl dX11_again_44 rfl rfl ?_
    refine z_aload_n 2 dX11_again_47 rfl rfl (Nat.le_of_ble_eq_true rfl) rfl ?_
    refine z_getL 4 (x := (h7 (h2 3 l1) 8)) fX11_186 rfl dX11_again_48 rfl rfl ?_
    refine z_iconst dX11_again_51 rfl ?_
    refine z_iconst dX11_again_52 rfl ?_
    refine z_callVv vX2_freeFromEach kX11_344 dX11_again_53 rfl (zRo_d d) (as := [vl (h7 (h2 3 l1) 8), vi 1, vi 0]) (rest := []) (Nat.le_of_ble_eq_true rfl) rfl rfl (zCv_mono (fun h9 k => ?_) k)
    refine z_aload_n 0 dX11_again_56 rfl rfl (Nat.le_of_ble_eq_true rfl) rfl ?_
    refine z_getF 11 2 (x := 4) fX11_26 rfl dX11_again_57 rfl rfl ?_
    refine z_aload_n 2 dX11_again_60 rfl rfl (Nat.le_of_ble_eq_true rfl) rfl ?_
    refine z_iconst dX11_again_61 rfl ?_
    refine z_iconst dX11_again_62 rfl ?_
    refine z_callVv vX2_copyWhole kX11_353 dX11_again_63 rfl (zRo_d d) (as := [vr 4 (h2 3 l1), vi 1, vi (bi false)]) (rest := []) (Nat.le_of_ble_eq_true rfl) rfl rfl (zCv_mono (fun h11 k => ?_) k)
    refine z_aload_n 0 dX11_again_66 rfl rfl (Nat.le_of_ble_eq_true rfl) rfl ?_
    refine z_getF 11 2 (x := 4) fX11_26 rfl dX11_again_67 rfl rfl ?_
    refine z_lconst (x := 1) dX11_again_70 rfl rfl ?_
    refine z_putL 2 gX11_348 dX11_again_71 rfl ?_
    refine z_aload_n 0 dX11_again_74 rfl rfl (Nat.le_of_ble_eq_true rfl) rfl ?_
    refine z_callVi vX11_keepDraft kX11_317 dX11_again_75 rfl (zRo_d d) (as := []) (rest := []) (Nat.le_of_ble_eq_true rfl) rfl rfl (zCi_mono (fun x12 h13 k => ?_) k)
    exact z_ireturn rfl dX11_again_78 ⟨_, rfl, k⟩
  · have k := kb q
    refine z_aload_n 0 dX11_again_8 rfl rfl (Nat.le_of_ble_eq_true rfl) rfl ?_
    refine z_iconst dX11_again_9 rfl ?_
    refine z_callVi vX11_refused kX11_84 dX11_again_10 rfl (zRo_d d) (as := [vi 1]) (rest := []) (Nat.le_of_ble_eq_true rfl) rfl rfl (zCi_mono (fun x14 h15 k => ?_) k)
    exact z_ireturn rfl dX11_again_13 ⟨_, rfl, k⟩
theorem eX11_again {G : zG} {d : Nat} {K : Int → zH → Prop} {l1 : Int} {h : zH} (k : tX11_again_0 G d K l1 h) : zCi G (d + 1) mX11_again [vr 11 0, vi l1] h K := z_entry (by decide +kernel) (Nat.le_of_ble_eq_true rfl) rfl k
def tX11_backwards_0 (G : zG) (d : Nat) (K : Int → zH → Prop) (l1 : Int) (h : zH) : Prop := zTi G (d + 1) mX11_backwards K 0 [some (vr 11 0), some (vi l1), none] [] h
theorem bX11_backwards_0 {G : zG} {d : Nat} {K : Int → zH → Prop} {l1 : Int} {h : zH} (k : zCb G d mX11_isMachine [vr 11 0, vi l1] h (fun x1 h2 => (x1 = true → ((0 : Int) ≤ l1 ∧ l1 < 10) ∧ zCv G d mX2_begin [vr 2 4, vi ((h2 (h2 3 l1) 7) + 1)] h2 (fun h5 => zCv G d mX2_freeToEach [vr 2 4, vl (h5 (h2 3 l1) 8), vi 1] h5 (fun h7 => zCv G d mX2_copyWhole [vr 2 4, vr 4 (h2 3 l1), vi 1, vi (bi true)] h7 (fun h9 => zCi G d mX11_keepDraft [vr 11 0] (zup h9 4 8 2) (fun x10 h11 => K x10 h11))))) ∧ (x1 = false → zCi G d mX11_refused [vr 11 0, vi 1] h2 (fun x12 h13 => K x12 h13)))) : tX11_backwards_0 G d K l1 h := by
  unfold tX11_backwards_0
  refine z_aload_n 0 dX11_backwards_0 rfl rfl (Nat.le_of_ble_eq_true rfl) rfl ?_
  refine z_iload_n 1 dX11_backwards_1 rfl rfl rfl ?_
  refine z_callVb vX11_isMachine kX11_152 dX11_backwards_2 rfl (zRo_d d) (as := [vi l1]) (rest := []) (Nat.le_of_ble_eq_true rfl) rfl rfl (zCb_mono (fun x1 h2 k => ?_) k)
  obtain ⟨ka, kb⟩ := k
  refine z_ifb_ne (tgt := 14) dX11_backwards_5 rfl rfl ⟨fun q => ?_, fun q => ?_⟩
  · have k := ka q
    refine z_aload_n 0 dX11_backwards_14 rfl rfl (Nat.le_of_ble_eq_true rfl) rfl ?_
    refine z_getF 11 17 (x := 3) fX11_19 rfl dX11_backwards_15 rfl rfl ?_
    refine z_iload_n 1 dX11_backwards_18 rfl rfl rfl ?_
    obtain ⟨i9, k⟩ := k
    refine z_aald17 (x := (h2 3 l1)) dX11_backwards_19 (by rw [zl_3]; exact i9) rfl rfl ?_
    refine z_w (fun w3 => ?_)
    refine z_astore_n 2 dX11_backwards_20 rfl (Nat.le_of_ble_eq_true rfl) (Nat.le_of_ble_eq_true rfl) (L' := [some (vr 11 0), some (vi l1), some (vr 4 (h2 3 l1))]) rfl rfl ?_
    refine z_aload_n 0 dX11_backwards_21 rfl rfl (Nat.le_of_ble_eq_true rfl) rfl ?_
    refine z_getF 11 2 (x := 4) fX11_26 rfl dX11_backwards_22 rfl rfl ?_
    refine z_aload_n 2 dX11_backwards_25 rfl rfl (Nat.le_of_ble_eq_true rfl) rfl ?_
    refine z_getI 4 (x := (h2 (h2 3 l1) 7)) fX11_217 rfl dX11_backwards_26 rfl rfl ?_
    refine z_iconst dX11_backwards_29 rfl ?_
    refine z_iadd dX11_backwards_30 rfl ?_
    refine z_callVv vX2_begin kX11_328 dX11_backwards_31 rfl (zRo_d d) (as := [vi ((h2 (h2 3 l1) 7) + 1)]) (rest := []) (Nat.le_of_ble_eq_true rfl) rfl rfl (zCv_mono (fun h5 k => ?_) k)
    refine z_aload_n 0 dX11_backwards_34 rfl rfl (Nat.le_of_ble_eq_true rfl) rfl ?_
    refine z_getF 11 2 (x := 4) fX11_26 rfl dX11_backwards_35 rfl rfl ?_
    refine z_aload_n 2 dX11_backwards_38 rfl rfl (Nat.le_of_ble_eq_true rfl) rfl ?_
    refine z_getL 4 (x := (h5 (h2 3 l1) 8)) fX11_186 rfl dX11_backwards_39 rfl rfl ?_
    refine z_iconst dX11_backwards_42 rfl ?_
    refine z_callVv vX2_freeToEach kX11_356 dX11_backwards_43 rfl (zRo_d d) (as := [vl (h5 (h2 3 l1) 8), vi 1]) (rest := []) (Nat.le_of_ble_eq_true rfl) rfl rfl (zCv_mono (fun h7 k => ?_) k)
    refine z_aload_n 0 dX11_backwards_46 rfl rfl (Nat.le_of_ble_eq_true rfl) rfl ?_
    refine z_getF 11 2 (x := 4) fX11_26 rfl dX11_backwards_47 rfl rfl ?_
    refine z_aload_n 2 dX11_backwards_50 rfl rfl (Nat.le_of_ble_eq_true rfl) rfl ?_
    refine z_iconst dX11_backwards_51 rfl ?_
    refine z_iconst dX11_backwards_52 rfl ?_
    refine z_callVv vX2_copyWhole kX11_353 dX11_backwards_53 rfl (zRo_d d) (as := [vr 4 (h2 3 l1), vi 1, vi (bi true)]) (rest := []) (Nat.le_of_ble_eq_true rfl) rfl rfl (zCv_mono (fun h9 k => ?_) k)
    refine z_aload_n 0 dX11_backwards_56 rfl rfl (Nat.le_of_ble_eq_true rfl) rfl ?_
    refine z_getF 11 2 (x := 4) fX11_26 rfl dX11_backwards_57 rfl rfl ?_
    refine z_ldc2 (x := 2) cX11_360 rfl dX11_backwards_60 rfl ?_
    refine z_putL 2 gX11_348 dX11_backwards_63 rfl ?_
    refine z_aload_n 0 dX11_backwards_66 rfl rfl (Nat.le_of_ble_eq_true rfl) rfl ?_
    refine z_callVi vX11_keepDraft kX11_317 dX11_backwards_67 rfl (zRo_d d) (as := []) (rest := []) (Nat.le_of_ble_eq_true rfl) rfl rfl (zCi_mono (fun x10 h11 k => ?_) k)
    exact z_ireturn rfl dX11_backwards_70 ⟨_, rfl, k⟩
  · have k := kb q
    refine z_aload_n 0 dX11_backwards_8 rfl rfl (Nat.le_of_ble_eq_true rfl) rfl ?_
    refine z_iconst dX11_backwards_9 rfl ?_
    refine z_callVi vX11_refused kX11_84 dX11_backwards_10 rfl (zRo_d d) (as := [vi 1]) (rest := []) (Nat.le_of_ble_eq_true rfl) rfl rfl (zCi_mono (fun x12 h13 k => ?_) k)
    exact z_ireturn rfl dX11_backwards_13 ⟨_, rfl, k⟩
theorem eX11_backwards {G : zG} {d : Nat} {K : Int → zH → Prop} {l1 : Int} {h : zH} (k : tX11_backwards_0 G d K l1 h) : zCi G (d + 1) mX11_backwards [vr 11 0, vi l1] h K := z_entry (by decide +kernel) (Nat.le_of_ble_eq_true rfl) rfl k
def tX11_only_0 (G : zG) (d : Nat) (K : Int → zH → Prop) (l1 : Int) (l2 : Int) (h : zH) : Prop := zTi G (d + 1) mX11_only K 0 [some (vr 11 0), some (vi l1), some (vi l2), none] [] h
theorem bX11_only_0 {G : zG} {d : Nat} {K : Int → zH → Prop} {l1 : Int} {l2 : Int} {h : zH} (k : zCb G d mX11_isMachine [vr 11 0, vi l1] h (fun x1 h2 => (x1 = false → zCi G d mX11_refused [vr 11 0, vi 1] h2 (fun x3 h4 => K x3 h4)) ∧ (x1 = true → zCb G d mX11_isSet [vr 11 0, vi l2] h2 (fun x5 h6 => (x5 = true → ((0 : Int) ≤ l1 ∧ l1 < 10) ∧ zCv G d mX2_begin [vr 2 4, vi (h6 (h6 3 l1) 7)] h6 (fun h9 => zCv G d mX2_cutLike [vr 2 4, vr 4 (h6 3 l1), vi 0] h9 (fun h11 => ((0 : Int) ≤ l2 ∧ l2 < 12) ∧ zCv G d mX2_cutBy [vr 2 4, vr 3 (h11 ((h11 0 9) + 1) l2)] h11 (fun h15 => zCv G d mX2_trace [vr 2 4, vr 4 (h6 3 l1), vi 0] h15 (fun h17 => ((0 : Int) ≤ l2 ∧ l2 < 12) ∧ zCv G d mX2_leaveOutside [vr 2 4, vr 3 (h17 ((h17 0 9) + 1) l2)] h17 (fun h21 => zCv G d mX2_copyFilledEdges [vr 2 4, vr 4 (h6 3 l1)] h21 (fun h23 => zCv G d mX2_copyFrees [vr 2 4, vr 4 (h6 3 l1), vi 0, vi (bi false)] h23 (fun h25 => zCi G d mX11_keepDraft [vr 11 0] (zup h25 4 8 (h25 (h6 3 l1) 8)) (fun x26 h27 => K x26 h27))))))))) ∧ (x5 = false → zCi G d mX11_refused [vr 11 0, vi 1] h6 (fun x28 h29 => K x28 h29)))))) : tX11_only_0 G d K l1 l2 h := by
  unfold tX11_only_0
  refine z_aload_n 0 dX11_only_0 rfl rfl (Nat.le_of_ble_eq_true rfl) rfl ?_
  refine z_iload_n 1 dX11_only_1 rfl rfl rfl ?_
  refine z_callVb vX11_isMachine kX11_152 dX11_only_2 rfl (zRo_d d) (as := [vi l1]) (rest := []) (Nat.le_of_ble_eq_true rfl) rfl rfl (zCb_mono (fun x1 h2 k => ?_) k)
  obtain ⟨ka, kb⟩ := k
  refine z_ifb_eq (tgt := 16) dX11_only_5 rfl rfl ⟨fun q => ?_, fun q => ?_⟩
  · have k := ka q
    refine z_aload_n 0 dX11_only_16 rfl rfl (Nat.le_of_ble_eq_true rfl) rfl ?_
    refine z_iconst dX11_only_17 rfl ?_
    refine z_callVi vX11_refused kX11_84 dX11_only_18 rfl (zRo_d d) (as := [vi 1]) (rest := []) (Nat.le_of_ble_eq_true rfl) rfl rfl (zCi_mono (fun x3 h4 k => ?_) k)
    exact z_ireturn rfl dX11_only_21 ⟨_, rfl, k⟩
  · have k := kb q
    refine z_aload_n 0 dX11_only_8 rfl rfl (Nat.le_of_ble_eq_true rfl) rfl ?_
    refine z_iload_n 2 dX11_only_9 rfl rfl rfl ?_
    refine z_callVb vX11_isSet kX11_122 dX11_only_10 rfl (zRo_d d) (as := [vi l2]) (rest := []) (Nat.le_of_ble_eq_true rfl) rfl rfl (zCb_mono (fun x5 h6 k => ?_) k)
    obtain ⟨ka, kb⟩ := k
    refine z_ifb_ne (tgt := 22) dX11_only_13 rfl rfl ⟨fun q => ?_, fun q => ?_⟩
    · have k := ka q
      refine z_aload_n 0 dX11_only_22 rfl rfl (Nat.le_of_ble_eq_true rfl) rfl ?_
      refine z_getF 11 17 (x := 3) fX11_19 rfl dX11_only_23 rfl rfl ?_
      refine z_iload_n 1 dX11_only_26 rfl rfl rfl ?_
      obtain ⟨i9, k⟩ := k
      refine z_aald17 (x := (h6 3 l1)) dX11_only_27 (by rw [zl_3]; exact i9) rfl rfl ?_
      refine z_w (fun w7 => ?_)
      refine z_astore_n 3 dX11_only_28 rfl (Nat.le_of_ble_eq_true rfl) (Nat.le_of_ble_eq_true rfl) (L' := [some (vr 11 0), some (vi l1), some (vi l2), some (vr 4 (h6 3 l1))]) rfl rfl ?_
      refine z_aload_n 0 dX11_only_29 rfl rfl (Nat.le_of_ble_eq_true rfl) rfl ?_
      refine z_getF 11 2 (x := 4) fX11_26 rfl dX11_only_30 rfl rfl ?_
      refine z_aload_n 3 dX11_only_33 rfl rfl (Nat.le_of_ble_eq_true rfl) rfl ?_
      refine z_getI 4 (x := (h6 (h6 3 l1) 7)) fX11_217 rfl dX11_only_34 rfl rfl ?_
      refine z_callVv vX2_begin kX11_328 dX11_only_37 rfl (zRo_d d) (as := [vi (h6 (h6 3 l1) 7)]) (rest := []) (Nat.le_of_ble_eq_true rfl) rfl rfl (zCv_mono (fun h9 k => ?_) k)
      refine z_aload_n 0 dX11_only_40 rfl rfl (Nat.le_of_ble_eq_true rfl) rfl ?_
      refine z_getF 11 2 (x := 4) fX11_26 rfl dX11_only_41 rfl rfl ?_
      refine z_aload_n 3 dX11_only_44 rfl rfl (Nat.le_of_ble_eq_true rfl) rfl ?_
      refine z_iconst dX11_only_45 rfl ?_
      refine z_callVv vX2_cutLike kX11_331 dX11_only_46 rfl (zRo_d d) (as := [vr 4 (h6 3 l1), vi 0]) (rest := []) (Nat.le_of_ble_eq_true rfl) rfl rfl (zCv_mono (fun h11 k => ?_) k)
      refine z_aload_n 0 dX11_only_49 rfl rfl (Nat.le_of_ble_eq_true rfl) rfl ?_
      refine z_getF 11 2 (x := 4) fX11_26 rfl dX11_only_50 rfl rfl ?_
      refine z_aload_n 0 dX11_only_53 rfl rfl (Nat.le_of_ble_eq_true rfl) rfl ?_
      refine z_getR 11 9 (x := (h11 0 9)) fX11_72 rfl dX11_only_54 rfl rfl ?_
      refine z_w (fun w12 => ?_)
      refine z_getF 9 16 (x := ((h11 0 9) + 1)) fX11_126 rfl dX11_only_57 (by omega) rfl ?_
      refine z_iload_n 2 dX11_only_60 rfl rfl rfl ?_
      obtain ⟨i9, k⟩ := k
      refine z_aald16 (x := (h11 ((h11 0 9) + 1) l2)) dX11_only_61 (by rw [zl9_1 w12]; exact i9) rfl rfl ?_
      refine z_w (fun w13 => ?_)
      refine z_callVv vX2_cutBy kX11_362 dX11_only_62 rfl (zRo_d d) (as := [vr 3 (h11 ((h11 0 9) + 1) l2)]) (rest := []) (Nat.le_of_ble_eq_true rfl) rfl rfl (zCv_mono (fun h15 k => ?_) k)
      refine z_aload_n 0 dX11_only_65 rfl rfl (Nat.le_of_ble_eq_true rfl) rfl ?_
      refine z_getF 11 2 (x := 4) fX11_26 rfl dX11_only_66 rfl rfl ?_
      refine z_aload_n 3 dX11_only_69 rfl rfl (Nat.le_of_ble_eq_true rfl) rfl ?_
      refine z_iconst dX11_only_70 rfl ?_
      refine z_callVv vX2_trace kX11_334 dX11_only_71 rfl (zRo_d d) (as := [vr 4 (h6 3 l1), vi 0]) (rest := []) (Nat.le_of_ble_eq_true rfl) rfl rfl (zCv_mono (fun h17 k => ?_) k)
      refine z_aload_n 0 dX11_only_74 rfl rfl (Nat.le_of_ble_eq_true rfl) rfl ?_
      refine z_getF 11 2 (x := 4) fX11_26 rfl dX11_only_75 rfl rfl ?_
      refine z_aload_n 0 dX11_only_78 rfl rfl (Nat.le_of_ble_eq_true rfl) rfl ?_
      refine z_getR 11 9 (x := (h17 0 9)) fX11_72 rfl dX11_only_79 rfl rfl ?_
      refine z_w (fun w18 => ?_)
      refine z_getF 9 16 (x := ((h17 0 9) + 1)) fX11_126 rfl dX11_only_82 (by omega) rfl ?_
      refine z_iload_n 2 dX11_only_85 rfl rfl rfl ?_
      obtain ⟨i9, k⟩ := k
      refine z_aald16 (x := (h17 ((h17 0 9) + 1) l2)) dX11_only_86 (by rw [zl9_1 w18]; exact i9) rfl rfl ?_
      refine z_w (fun w19 => ?_)
      refine z_callVv vX2_leaveOutside kX11_366 dX11_only_87 rfl (zRo_d d) (as := [vr 3 (h17 ((h17 0 9) + 1) l2)]) (rest := []) (Nat.le_of_ble_eq_true rfl) rfl rfl (zCv_mono (fun h21 k => ?_) k)
      refine z_aload_n 0 dX11_only_90 rfl rfl (Nat.le_of_ble_eq_true rfl) rfl ?_
      refine z_getF 11 2 (x := 4) fX11_26 rfl dX11_only_91 rfl rfl ?_
      refine z_aload_n 3 dX11_only_94 rfl rfl (Nat.le_of_ble_eq_true rfl) rfl ?_
      refine z_callVv vX2_copyFilledEdges kX11_369 dX11_only_95 rfl (zRo_d d) (as := [vr 4 (h6 3 l1)]) (rest := []) (Nat.le_of_ble_eq_true rfl) rfl rfl (zCv_mono (fun h23 k => ?_) k)
      refine z_aload_n 0 dX11_only_98 rfl rfl (Nat.le_of_ble_eq_true rfl) rfl ?_
      refine z_getF 11 2 (x := 4) fX11_26 rfl dX11_only_99 rfl rfl ?_
      refine z_aload_n 3 dX11_only_102 rfl rfl (Nat.le_of_ble_eq_true rfl) rfl ?_
      refine z_iconst dX11_only_103 rfl ?_
      refine z_iconst dX11_only_104 rfl ?_
      refine z_callVv vX2_copyFrees kX11_341 dX11_only_105 rfl (zRo_d d) (as := [vr 4 (h6 3 l1), vi 0, vi (bi false)]) (rest := []) (Nat.le_of_ble_eq_true rfl) rfl rfl (zCv_mono (fun h25 k => ?_) k)
      refine z_aload_n 0 dX11_only_108 rfl rfl (Nat.le_of_ble_eq_true rfl) rfl ?_
      refine z_getF 11 2 (x := 4) fX11_26 rfl dX11_only_109 rfl rfl ?_
      refine z_aload_n 3 dX11_only_112 rfl rfl (Nat.le_of_ble_eq_true rfl) rfl ?_
      refine z_getL 4 (x := (h25 (h6 3 l1) 8)) fX11_186 rfl dX11_only_113 rfl rfl ?_
      refine z_putL 2 gX11_348 dX11_only_116 rfl ?_
      refine z_aload_n 0 dX11_only_119 rfl rfl (Nat.le_of_ble_eq_true rfl) rfl ?_
      refine z_callVi vX11_keepDraft kX11_317 dX11_only_120 rfl (zRo_d d) (as := []) (rest := []) (Nat.le_of_ble_eq_true rfl) rfl rfl (zCi_mono (fun x26 h27 k => ?_) k)
      exact z_ireturn rfl dX11_only_123 ⟨_, rfl, k⟩
    · have k := kb q
      refine z_aload_n 0 dX11_only_16 rfl rfl (Nat.le_of_ble_eq_true rfl) rfl ?_
      refine z_iconst dX11_only_17 rfl ?_
      refine z_callVi vX11_refused kX11_84 dX11_only_18 rfl (zRo_d d) (as := [vi 1]) (rest := []) (Nat.le_of_ble_eq_true rfl) rfl rfl (zCi_mono (fun x28 h29 k => ?_) k)
      exact z_ireturn rfl dX11_only_21 ⟨_, rfl, k⟩
theorem eX11_only {G : zG} {d : Nat} {K : Int → zH → Prop} {l1 : Int} {l2 : Int} {h : zH} (k : tX11_only_0 G d K l1 l2 h) : zCi G (d + 1) mX11_only [vr 11 0, vi l1, vi l2] h K := z_entry (by decide +kernel) (Nat.le_of_ble_eq_true rfl) rfl k
def tX11_moved_0 (G : zG) (d : Nat) (K : Int → zH → Prop) (l1 : Int) (l2 : Int) (h : zH) : Prop := zTi G (d + 1) mX11_moved K 0 [some (vr 11 0), some (vi l1), some (vi l2), none] [] h
theorem bX11_moved_0 {G : zG} {d : Nat} {K : Int → zH → Prop} {l1 : Int} {l2 : Int} {h : zH} (k : zCb G d mX11_isMachine [vr 11 0, vi l1] h (fun x1 h2 => (x1 = true → zR l2 ∧ (l2 ≤ (-65536) → zCi G d mX11_refused [vr 11 0, vi 2] h2 (fun x3 h4 => K x3 h4)) ∧ (¬ l2 ≤ (-65536) → zR l2 ∧ (l2 < 65536 → ((0 : Int) ≤ l1 ∧ l1 < 10) ∧ zCv G d mX2_begin [vr 2 4, vi (h2 (h2 3 l1) 7)] h2 (fun h7 => zCv G d mX2_cutLike [vr 2 4, vr 4 (h2 3 l1), vi l2] h7 (fun h9 => zCv G d mX2_trace [vr 2 4, vr 4 (h2 3 l1), vi l2] h9 (fun h11 => zCv G d mX2_copyFilledEdges [vr 2 4, vr 4 (h2 3 l1)] h11 (fun h13 => zCv G d mX2_copyFrees [vr 2 4, vr 4 (h2 3 l1), vi 0, vi (bi false)] h13 (fun h15 => zCi G d mX11_keepDraft [vr 11 0] (zup h15 4 8 (h15 (h2 3 l1) 8)) (fun x16 h17 => K x16 h17))))))) ∧ (¬ l2 < 65536 → zCi G d mX11_refused [vr 11 0, vi 2] h2 (fun x18 h19 => K x18 h19)))) ∧ (x1 = false → zCi G d mX11_refused [vr 11 0, vi 1] h2 (fun x20 h21 => K x20 h21)))) : tX11_moved_0 G d K l1 l2 h := by
  unfold tX11_moved_0
  refine z_aload_n 0 dX11_moved_0 rfl rfl (Nat.le_of_ble_eq_true rfl) rfl ?_
  refine z_iload_n 1 dX11_moved_1 rfl rfl rfl ?_
  refine z_callVb vX11_isMachine kX11_152 dX11_moved_2 rfl (zRo_d d) (as := [vi l1]) (rest := []) (Nat.le_of_ble_eq_true rfl) rfl rfl (zCb_mono (fun x1 h2 k => ?_) k)
  obtain ⟨ka, kb⟩ := k
  refine z_ifb_ne (tgt := 14) dX11_moved_5 rfl rfl ⟨fun q => ?_, fun q => ?_⟩
  · have k := ka q
    refine z_iload_n 2 dX11_moved_14 rfl rfl rfl ?_
    refine z_ldcw (x := (-65536)) cX11_372 rfl dX11_moved_15 rfl ?_
    obtain ⟨r1, ka, kb⟩ := k
    refine z_icmp_le (tgt := 27) dX11_moved_18 rfl r1 ⟨by decide, by decide⟩ rfl ⟨fun q => ?_, fun q => ?_⟩
    · have k := ka q
      refine z_aload_n 0 dX11_moved_27 rfl rfl (Nat.le_of_ble_eq_true rfl) rfl ?_
      refine z_iconst dX11_moved_28 rfl ?_
      refine z_callVi vX11_refused kX11_84 dX11_moved_29 rfl (zRo_d d) (as := [vi 2]) (rest := []) (Nat.le_of_ble_eq_true rfl) rfl rfl (zCi_mono (fun x3 h4 k => ?_) k)
      exact z_ireturn rfl dX11_moved_32 ⟨_, rfl, k⟩
    · have k := kb q
      refine z_iload_n 2 dX11_moved_21 rfl rfl rfl ?_
      refine z_ldc (x := 65536) cX11_144 rfl dX11_moved_22 rfl ?_
      obtain ⟨r1, ka, kb⟩ := k
      refine z_icmp_lt (tgt := 33) dX11_moved_24 rfl r1 ⟨by decide, by decide⟩ rfl ⟨fun q => ?_, fun q => ?_⟩
      · have k := ka q
        refine z_aload_n 0 dX11_moved_33 rfl rfl (Nat.le_of_ble_eq_true rfl) rfl ?_
        refine z_getF 11 17 (x := 3) fX11_19 rfl dX11_moved_34 rfl rfl ?_
        refine z_iload_n 1 dX11_moved_37 rfl rfl rfl ?_
        obtain ⟨i9, k⟩ := k
        refine z_aald17 (x := (h2 3 l1)) dX11_moved_38 (by rw [zl_3]; exact i9) rfl rfl ?_
        refine z_w (fun w5 => ?_)
        refine z_astore_n 3 dX11_moved_39 rfl (Nat.le_of_ble_eq_true rfl) (Nat.le_of_ble_eq_true rfl) (L' := [some (vr 11 0), some (vi l1), some (vi l2), some (vr 4 (h2 3 l1))]) rfl rfl ?_
        refine z_aload_n 0 dX11_moved_40 rfl rfl (Nat.le_of_ble_eq_true rfl) rfl ?_
        refine z_getF 11 2 (x := 4) fX11_26 rfl dX11_moved_41 rfl rfl ?_
        refine z_aload_n 3 dX11_moved_44 rfl rfl (Nat.le_of_ble_eq_true rfl) rfl ?_
        refine z_getI 4 (x := (h2 (h2 3 l1) 7)) fX11_217 rfl dX11_moved_45 rfl rfl ?_
        refine z_callVv vX2_begin kX11_328 dX11_moved_48 rfl (zRo_d d) (as := [vi (h2 (h2 3 l1) 7)]) (rest := []) (Nat.le_of_ble_eq_true rfl) rfl rfl (zCv_mono (fun h7 k => ?_) k)
        refine z_aload_n 0 dX11_moved_51 rfl rfl (Nat.le_of_ble_eq_true rfl) rfl ?_
        refine z_getF 11 2 (x := 4) fX11_26 rfl dX11_moved_52 rfl rfl ?_
        refine z_aload_n 3 dX11_moved_55 rfl rfl (Nat.le_of_ble_eq_true rfl) rfl ?_
        refine z_iload_n 2 dX11_moved_56 rfl rfl rfl ?_
        refine z_callVv vX2_cutLike kX11_331 dX11_moved_57 rfl (zRo_d d) (as := [vr 4 (h2 3 l1), vi l2]) (rest := []) (Nat.le_of_ble_eq_true rfl) rfl rfl (zCv_mono (fun h9 k => ?_) k)
        refine z_aload_n 0 dX11_moved_60 rfl rfl (Nat.le_of_ble_eq_true rfl) rfl ?_
        refine z_getF 11 2 (x := 4) fX11_26 rfl dX11_moved_61 rfl rfl ?_
        refine z_aload_n 3 dX11_moved_64 rfl rfl (Nat.le_of_ble_eq_true rfl) rfl ?_
        refine z_iload_n 2 dX11_moved_65 rfl rfl rfl ?_
        refine z_callVv vX2_trace kX11_334 dX11_moved_66 rfl (zRo_d d) (as := [vr 4 (h2 3 l1), vi l2]) (rest := []) (Nat.le_of_ble_eq_true rfl) rfl rfl (zCv_mono (fun h11 k => ?_) k)
        refine z_aload_n 0 dX11_moved_69 rfl rfl (Nat.le_of_ble_eq_true rfl) rfl ?_
        refine z_getF 11 2 (x := 4) fX11_26 rfl dX11_moved_70 rfl rfl ?_
        refine z_aload_n 3 dX11_moved_73 rfl rfl (Nat.le_of_ble_eq_true rfl) rfl ?_
        refine z_callVv vX2_copyFilledEdges kX11_369 dX11_moved_74 rfl (zRo_d d) (as := [vr 4 (h2 3 l1)]) (rest := []) (Nat.le_of_ble_eq_true rfl) rfl rfl (zCv_mono (fun h13 k => ?_) k)
        refine z_aload_n 0 dX11_moved_77 rfl rfl (Nat.le_of_ble_eq_true rfl) rfl ?_
        refine z_getF 11 2 (x := 4) fX11_26 rfl dX11_moved_78 rfl rfl ?_
        refine z_aload_n 3 dX11_moved_81 rfl rfl (Nat.le_of_ble_eq_true rfl) rfl ?_
        refine z_iconst dX11_moved_82 rfl ?_
        refine z_iconst dX11_moved_83 rfl ?_
        refine z_callVv vX2_copyFrees kX11_341 dX11_moved_84 rfl (zRo_d d) (as := [vr 4 (h2 3 l1), vi 0, vi (bi false)]) (rest := []) (Nat.le_of_ble_eq_true rfl) rfl rfl (zCv_mono (fun h15 k => ?_) k)
        refine z_aload_n 0 dX11_moved_87 rfl rfl (Nat.le_of_ble_eq_true rfl) rfl ?_
        refine z_getF 11 2 (x := 4) fX11_26 rfl dX11_moved_88 rfl rfl ?_
        refine z_aload_n 3 dX11_moved_91 rfl rfl (Nat.le_of_ble_eq_true rfl) rfl ?_
        refine z_getL 4 (x := (h15 (h2 3 l1) 8)) fX11_186 rfl dX11_moved_92 rfl rfl ?_
        refine z_putL 2 gX11_348 dX11_moved_95 rfl ?_
        refine z_aload_n 0 dX11_moved_98 rfl rfl (Nat.le_of_ble_eq_true rfl) rfl ?_
        refine z_callVi vX11_keepDraft kX11_317 dX11_moved_99 rfl (zRo_d d) (as := []) (rest := []) (Nat.le_of_ble_eq_true rfl) rfl rfl (zCi_mono (fun x16 h17 k => ?_) k)
        exact z_ireturn rfl dX11_moved_102 ⟨_, rfl, k⟩
      · have k := kb q
        refine z_aload_n 0 dX11_moved_27 rfl rfl (Nat.le_of_ble_eq_true rfl) rfl ?_
        refine z_iconst dX11_moved_28 rfl ?_
        refine z_callVi vX11_refused kX11_84 dX11_moved_29 rfl (zRo_d d) (as := [vi 2]) (rest := []) (Nat.le_of_ble_eq_true rfl) rfl rfl (zCi_mono (fun x18 h19 k => ?_) k)
        exact z_ireturn rfl dX11_moved_32 ⟨_, rfl, k⟩
  · have k := kb q
    refine z_aload_n 0 dX11_moved_8 rfl rfl (Nat.le_of_ble_eq_true rfl) rfl ?_
    refine z_iconst dX11_moved_9 rfl ?_
    refine z_callVi vX11_refused kX11_84 dX11_moved_10 rfl (zRo_d d) (as := [vi 1]) (rest := []) (Nat.le_of_ble_eq_true rfl) rfl rfl (zCi_mono (fun x20 h21 k => ?_) k)
    exact z_ireturn rfl dX11_moved_13 ⟨_, rfl, k⟩
theorem eX11_moved {G : zG} {d : Nat} {K : Int → zH → Prop} {l1 : Int} {l2 : Int} {h : zH} (k : tX11_moved_0 G d K l1 l2 h) : zCi G (d + 1) mX11_moved [vr 11 0, vi l1, vi l2] h K := z_entry (by decide +kernel) (Nat.le_of_ble_eq_true rfl) rfl k
