def tX12_readOthers_0 (G : zG) (d : Nat) (K : zH → Prop) (h : zH) : Prop := zTv G (d + 1) mX12_readOthers K 0 [some (vr 12 466), none] [] h
def tX12_readOthers_6 (G : zG) (d : Nat) (K : zH → Prop) (l1 : Int) (h : zH) : Prop := zTv G (d + 1) mX12_readOthers K 6 [some (vr 12 466), some (vi l1)] [] h
theorem bX12_readOthers_0 {G : zG} {d : Nat} {K : zH → Prop} {h : zH} (k : zCv G d mX12_readPart [vr 12 466] h (fun h2 => tX12_readOthers_6 G d K 0 h2)) : tX12_readOthers_0 G d K h := by
  unfold tX12_readOthers_0
  refine z_aload_n 0 dX12_readOthers_0 rfl rfl (Nat.le_of_ble_eq_true rfl) rfl ?_
  refine z_callVv vX12_readPart kX12_312 dX12_readOthers_1 rfl (zRo_d d) (as := []) (rest := []) (Nat.le_of_ble_eq_true rfl) rfl rfl (zCv_mono (fun h2 k => ?_) k)
  refine z_iconst dX12_readOthers_4 rfl ?_
  refine z_istore_n 1 dX12_readOthers_5 rfl (Nat.le_of_ble_eq_true rfl) (L' := [some (vr 12 466), some (vi 0)]) rfl rfl ?_
  exact z_sub (L' := [some (vr 12 466), some (vi 0)]) (And.intro rfl (And.intro rfl trivial)) k
theorem bX12_readOthers_6 {G : zG} {d : Nat} {K : zH → Prop} {l1 : Int} {h : zH} (k : zR l1 ∧ (1024 ≤ l1 → K (zup h 466 14 ((h 466 14) - 1))) ∧ (¬ 1024 ≤ l1 → ((0 : Int) ≤ ((((h 466 13) - 1) * 1024) + l1) ∧ ((((h 466 13) - 1) * 1024) + l1) < 28672) ∧ ((0 : Int) ≤ ((((h 466 13) - 1) * 1024) + l1) ∧ ((((h 466 13) - 1) * 1024) + l1) < 28672) ∧ tX12_readOthers_6 G d K (l1 + 1) (zup h 468 ((((h 466 13) - 1) * 1024) + l1) (zlxor (h 468 ((((h 466 13) - 1) * 1024) + l1)) (-1))))) : tX12_readOthers_6 G d K l1 h := by
  unfold tX12_readOthers_6
  refine z_iload_n 1 dX12_readOthers_6 rfl rfl rfl ?_
  refine z_sipush dX12_readOthers_7 rfl rfl ?_
  obtain ⟨r1, ka, kb⟩ := k
  refine z_icmp_ge (tgt := 57) dX12_readOthers_10 rfl r1 ⟨by decide, by decide⟩ rfl ⟨fun q => ?_, fun q => ?_⟩
  · have k := ka q
    refine z_aload_n 0 dX12_readOthers_57 rfl rfl (Nat.le_of_ble_eq_true rfl) rfl ?_
    refine z_dup dX12_readOthers_58 (fun q => by cases q) rfl ?_
    refine z_getI 12 (x := (h 466 14)) fX12_315 rfl dX12_readOthers_59 rfl rfl ?_
    refine z_iconst dX12_readOthers_62 rfl ?_
    refine z_isub dX12_readOthers_63 rfl ?_
    refine z_putI 12 gX12_315 dX12_readOthers_64 rfl ?_
    exact z_return rfl dX12_readOthers_67 ⟨rfl, k⟩
  · have k := kb q
    refine z_aload_n 0 dX12_readOthers_13 rfl rfl (Nat.le_of_ble_eq_true rfl) rfl ?_
    refine z_getF 12 14 (x := 468) fX12_17 rfl dX12_readOthers_14 rfl rfl ?_
    refine z_aload_n 0 dX12_readOthers_17 rfl rfl (Nat.le_of_ble_eq_true rfl) rfl ?_
    refine z_getI 12 (x := (h 466 13)) fX12_301 rfl dX12_readOthers_18 rfl rfl ?_
    refine z_iconst dX12_readOthers_21 rfl ?_
    refine z_isub dX12_readOthers_22 rfl ?_
    refine z_sipush dX12_readOthers_23 rfl rfl ?_
    refine z_imul dX12_readOthers_26 rfl ?_
    refine z_iload_n 1 dX12_readOthers_27 rfl rfl rfl ?_
    refine z_iadd dX12_readOthers_28 rfl ?_
    refine z_aload_n 0 dX12_readOthers_29 rfl rfl (Nat.le_of_ble_eq_true rfl) rfl ?_
    refine z_getF 12 14 (x := 468) fX12_17 rfl dX12_readOthers_30 rfl rfl ?_
    refine z_aload_n 0 dX12_readOthers_33 rfl rfl (Nat.le_of_ble_eq_true rfl) rfl ?_
    refine z_getI 12 (x := (h 466 13)) fX12_301 rfl dX12_readOthers_34 rfl rfl ?_
    refine z_iconst dX12_readOthers_37 rfl ?_
    refine z_isub dX12_readOthers_38 rfl ?_
    refine z_sipush dX12_readOthers_39 rfl rfl ?_
    refine z_imul dX12_readOthers_42 rfl ?_
    refine z_iload_n 1 dX12_readOthers_43 rfl rfl rfl ?_
    refine z_iadd dX12_readOthers_44 rfl ?_
    obtain ⟨i9, k⟩ := k
    refine z_lald (x := (h 468 ((((h 466 13) - 1) * 1024) + l1))) dX12_readOthers_45 (by rw [zl_468]; exact i9) rfl rfl ?_
    refine z_ldc2 (x := (-1)) cX12_304 rfl dX12_readOthers_46 rfl ?_
    refine z_lxor dX12_readOthers_49 rfl ?_
    obtain ⟨i9, k⟩ := k
    refine z_last dX12_readOthers_50 (by rw [zl_468]; exact i9) rfl ?_
    refine z_iinc dX12_readOthers_51 rfl (Nat.le_of_ble_eq_true rfl) (L' := [some (vr 12 466), some (vi (l1 + 1))]) rfl rfl ?_
    refine z_goto (tgt := 6) dX12_readOthers_54 rfl ?_
    exact z_sub (L' := [some (vr 12 466), some (vi (l1 + 1))]) (And.intro rfl (And.intro rfl trivial)) k
theorem eX12_readOthers {G : zG} {d : Nat} {K : zH → Prop} {h : zH} (k : tX12_readOthers_0 G d K h) : zCv G (d + 1) mX12_readOthers [vr 12 466] h K := z_entry (by decide +kernel) (Nat.le_of_ble_eq_true rfl) rfl k
def tX12_readInner_0 (G : zG) (d : Nat) (K : zH → Prop) (h : zH) : Prop := zTv G (d + 1) mX12_readInner K 0 [some (vr 12 466)] [] h
theorem bX12_readInner_0 {G : zG} {d : Nat} {K : zH → Prop} {h : zH} (k : zCv G d mX12_readBody [vr 12 466] h (fun h2 => zCv G d mX12_must [vr 12 466, vi 41] h2 (fun h4 => K (zup h4 466 14 ((h4 466 14) - 1))))) : tX12_readInner_0 G d K h := by
  unfold tX12_readInner_0
  refine z_aload_n 0 dX12_readInner_0 rfl rfl (Nat.le_of_ble_eq_true rfl) rfl ?_
  refine z_callVv vX12_readBody kX12_337 dX12_readInner_1 rfl (zRo_d d) (as := []) (rest := []) (Nat.le_of_ble_eq_true rfl) rfl rfl (zCv_mono (fun h2 k => ?_) k)
  refine z_aload_n 0 dX12_readInner_4 rfl rfl (Nat.le_of_ble_eq_true rfl) rfl ?_
  refine z_bipush dX12_readInner_5 rfl rfl ?_
  refine z_callVv vX12_must kX12_340 dX12_readInner_7 rfl (zRo_d d) (as := [vi 41]) (rest := []) (Nat.le_of_ble_eq_true rfl) rfl rfl (zCv_mono (fun h4 k => ?_) k)
  refine z_aload_n 0 dX12_readInner_10 rfl rfl (Nat.le_of_ble_eq_true rfl) rfl ?_
  refine z_dup dX12_readInner_11 (fun q => by cases q) rfl ?_
  refine z_getI 12 (x := (h4 466 14)) fX12_315 rfl dX12_readInner_12 rfl rfl ?_
  refine z_iconst dX12_readInner_15 rfl ?_
  refine z_isub dX12_readInner_16 rfl ?_
  refine z_putI 12 gX12_315 dX12_readInner_17 rfl ?_
  exact z_return rfl dX12_readInner_20 ⟨rfl, k⟩
theorem eX12_readInner {G : zG} {d : Nat} {K : zH → Prop} {h : zH} (k : tX12_readInner_0 G d K h) : zCv G (d + 1) mX12_readInner [vr 12 466] h K := z_entry (by decide +kernel) (Nat.le_of_ble_eq_true rfl) rfl k
def tX12_readAny_0 (G : zG) (d : Nat) (K : zH → Prop) (h : zH) : Prop := zTv G (d + 1) mX12_readAny K 0 [some (vr 12 466)] [] h
theorem bX12_readAny_0 {G : zG} {d : Nat} {K : zH → Prop} {h : zH} (k : zCv G d mX12_lays [vr 12 466, vl (-1)] h (fun h2 => zCv G d mX12_next [vr 12 466] h2 (fun h4 => K h4))) : tX12_readAny_0 G d K h := by
  unfold tX12_readAny_0
  refine z_aload_n 0 dX12_readAny_0 rfl rfl (Nat.le_of_ble_eq_true rfl) rfl ?_
  refine z_ldc2 (x := (-1)) cX12_304 rfl dX12_readAny_1 rfl ?_
  refine z_callVv vX12_lays kX12_343 dX12_readAny_4 rfl (zRo_d d) (as := [vl (-1)]) (rest := []) (Nat.le_of_ble_eq_true rfl) rfl rfl (zCv_mono (fun h2 k => ?_) k)
  refine z_aload_n 0 dX12_readAny_7 rfl rfl (Nat.le_of_ble_eq_true rfl) rfl ?_
  refine z_callVv vX12_next kX12_262 dX12_readAny_8 rfl (zRo_d d) (as := []) (rest := []) (Nat.le_of_ble_eq_true rfl) rfl rfl (zCv_mono (fun h4 k => ?_) k)
  exact z_return rfl dX12_readAny_11 ⟨rfl, k⟩
theorem eX12_readAny {G : zG} {d : Nat} {K : zH → Prop} {h : zH} (k : tX12_readAny_0 G d K h) : zCv G (d + 1) mX12_readAny [vr 12 466] h K := z_entry (by decide +kernel) (Nat.le_of_ble_eq_true rfl) rfl k
def tX12_readRanges_0 (G : zG) (d : Nat) (K : zH → Prop) (h : zH) : Prop := zTv G (d + 1) mX12_readRanges K 0 [some (vr 12 466)] [] h
def tX12_readRanges_9 (G : zG) (d : Nat) (K : zH → Prop) (h : zH) : Prop := zTv G (d + 1) mX12_readRanges K 9 [some (vr 12 466)] [] h
theorem bX12_readRanges_0 {G : zG} {d : Nat} {K : zH → Prop} {h : zH} (k : zCv G d mX12_lays [vr 12 466, vl 0] h (fun h2 => zCv G d mX12_readRange [vr 12 466] h2 (fun h4 => tX12_readRanges_9 G d K h4))) : tX12_readRanges_0 G d K h := by
  unfold tX12_readRanges_0
  refine z_aload_n 0 dX12_readRanges_0 rfl rfl (Nat.le_of_ble_eq_true rfl) rfl ?_
  refine z_lconst (x := 0) dX12_readRanges_1 rfl rfl ?_
  refine z_callVv vX12_lays kX12_343 dX12_readRanges_2 rfl (zRo_d d) (as := [vl 0]) (rest := []) (Nat.le_of_ble_eq_true rfl) rfl rfl (zCv_mono (fun h2 k => ?_) k)
  refine z_aload_n 0 dX12_readRanges_5 rfl rfl (Nat.le_of_ble_eq_true rfl) rfl ?_
  refine z_callVv vX12_readRange kX12_347 dX12_readRanges_6 rfl (zRo_d d) (as := []) (rest := []) (Nat.le_of_ble_eq_true rfl) rfl rfl (zCv_mono (fun h4 k => ?_) k)
  exact z_sub (L' := [some (vr 12 466)]) (And.intro rfl trivial) k
theorem bX12_readRanges_9 {G : zG} {d : Nat} {K : zH → Prop} {h : zH} (k : zCb G d mX12_passes [vr 12 466, vi 44] h (fun x1 h2 => (x1 = false → zCv G d mX12_must [vr 12 466, vi 93] h2 (fun h4 => K h4)) ∧ (x1 = true → zCv G d mX12_readRange [vr 12 466] h2 (fun h6 => tX12_readRanges_9 G d K h6)))) : tX12_readRanges_9 G d K h := by
  unfold tX12_readRanges_9
  refine z_aload_n 0 dX12_readRanges_9 rfl rfl (Nat.le_of_ble_eq_true rfl) rfl ?_
  refine z_bipush dX12_readRanges_10 rfl rfl ?_
  refine z_callVb vX12_passes kX12_265 dX12_readRanges_12 rfl (zRo_d d) (as := [vi 44]) (rest := []) (Nat.le_of_ble_eq_true rfl) rfl rfl (zCb_mono (fun x1 h2 k => ?_) k)
  obtain ⟨ka, kb⟩ := k
  refine z_ifb_eq (tgt := 25) dX12_readRanges_15 rfl rfl ⟨fun q => ?_, fun q => ?_⟩
  · have k := ka q
    refine z_aload_n 0 dX12_readRanges_25 rfl rfl (Nat.le_of_ble_eq_true rfl) rfl ?_
    refine z_bipush dX12_readRanges_26 rfl rfl ?_
    refine z_callVv vX12_must kX12_340 dX12_readRanges_28 rfl (zRo_d d) (as := [vi 93]) (rest := []) (Nat.le_of_ble_eq_true rfl) rfl rfl (zCv_mono (fun h4 k => ?_) k)
    exact z_return rfl dX12_readRanges_31 ⟨rfl, k⟩
  · have k := kb q
    refine z_aload_n 0 dX12_readRanges_18 rfl rfl (Nat.le_of_ble_eq_true rfl) rfl ?_
    refine z_callVv vX12_readRange kX12_347 dX12_readRanges_19 rfl (zRo_d d) (as := []) (rest := []) (Nat.le_of_ble_eq_true rfl) rfl rfl (zCv_mono (fun h6 k => ?_) k)
    refine z_goto (tgt := 9) dX12_readRanges_22 rfl ?_
    exact z_sub (L' := [some (vr 12 466)]) (And.intro rfl trivial) k
theorem eX12_readRanges {G : zG} {d : Nat} {K : zH → Prop} {h : zH} (k : tX12_readRanges_0 G d K h) : zCv G (d + 1) mX12_readRanges [vr 12 466] h K := z_entry (by decide +kernel) (Nat.le_of_ble_eq_true rfl) rfl k
def tX12_readRange_0 (G : zG) (d : Nat) (K : zH → Prop) (h : zH) : Prop := zTv G (d + 1) mX12_readRange K 0 [some (vr 12 466), none, none] [] h
theorem bX12_readRange_0 {G : zG} {d : Nat} {K : zH → Prop} {h : zH} (k : zCi G d mX12_whole [vr 12 466, vi 0, vi 65535] h (fun x1 h2 => zR (h2 466 10) ∧ (¬ (h2 466 10) = 0 → zR (h2 466 10) ∧ (¬ (h2 466 10) = 0 → K h2) ∧ ((h2 466 10) = 0 → zCv G d mX12_laysRange [vr 12 466, vi x1, vi x1] h2 (fun h4 => K h4))) ∧ ((h2 466 10) = 0 → zR (h2 466 7) ∧ (¬ (h2 466 7) = 4 → zR (h2 466 10) ∧ (¬ (h2 466 10) = 0 → K h2) ∧ ((h2 466 10) = 0 → zCv G d mX12_laysRange [vr 12 466, vi x1, vi x1] h2 (fun h6 => K h6))) ∧ ((h2 466 7) = 4 → zCv G d mX12_next [vr 12 466] h2 (fun h8 => zCi G d mX12_whole [vr 12 466, vi x1, vi 65535] h8 (fun x9 h10 => zR (h10 466 10) ∧ (¬ (h10 466 10) = 0 → K h10) ∧ ((h10 466 10) = 0 → zCv G d mX12_laysRange [vr 12 466, vi x1, vi x9] h10 (fun h12 => K h12)))))))) : tX12_readRange_0 G d K h := by
  unfold tX12_readRange_0
  refine z_aload_n 0 dX12_readRange_0 rfl rfl (Nat.le_of_ble_eq_true rfl) rfl ?_
  refine z_iconst dX12_readRange_1 rfl ?_
  refine z_ldc (x := 65535) cX12_200 rfl dX12_readRange_2 rfl ?_
  refine z_callVi vX12_whole kX12_350 dX12_readRange_4 rfl (zRo_d d) (as := [vi 0, vi 65535]) (rest := []) (Nat.le_of_ble_eq_true rfl) rfl rfl (zCi_mono (fun x1 h2 k => ?_) k)
  refine z_istore_n 1 dX12_readRange_7 rfl (Nat.le_of_ble_eq_true rfl) (L' := [some (vr 12 466), some (vi x1), none]) rfl rfl ?_
  refine z_iload_n 1 dX12_readRange_8 rfl rfl rfl ?_
  refine z_istore_n 2 dX12_readRange_9 rfl (Nat.le_of_ble_eq_true rfl) (L' := [some (vr 12 466), some (vi x1), some (vi x1)]) rfl rfl ?_
  refine z_aload_n 0 dX12_readRange_10 rfl rfl (Nat.le_of_ble_eq_true rfl) rfl ?_
  refine z_getI 12 (x := (h2 466 10)) fX12_208 rfl dX12_readRange_11 rfl rfl ?_
  obtain ⟨r1, ka, kb⟩ := k
  refine z_if_ne (tgt := 37) dX12_readRange_14 rfl r1 rfl ⟨fun q => ?_, fun q => ?_⟩
  · have k := ka q
    refine z_aload_n 0 dX12_readRange_37 rfl rfl (Nat.le_of_ble_eq_true rfl) rfl ?_
    refine z_getI 12 (x := (h2 466 10)) fX12_208 rfl dX12_readRange_38 rfl rfl ?_
    obtain ⟨r1, ka, kb⟩ := k
    refine z_if_ne (tgt := 50) dX12_readRange_41 rfl r1 rfl ⟨fun q => ?_, fun q => ?_⟩
    · have k := ka q
      exact z_return rfl dX12_readRange_50 ⟨rfl, k⟩
    · have k := kb q
      refine z_aload_n 0 dX12_readRange_44 rfl rfl (Nat.le_of_ble_eq_true rfl) rfl ?_
      refine z_iload_n 1 dX12_readRange_45 rfl rfl rfl ?_
      refine z_iload_n 2 dX12_readRange_46 rfl rfl rfl ?_
      refine z_callVv vX12_laysRange kX12_354 dX12_readRange_47 rfl (zRo_d d) (as := [vi x1, vi x1]) (rest := []) (Nat.le_of_ble_eq_true rfl) rfl rfl (zCv_mono (fun h4 k => ?_) k)
      exact z_return rfl dX12_readRange_50 ⟨rfl, k⟩
  · have k := kb q
    refine z_aload_n 0 dX12_readRange_17 rfl rfl (Nat.le_of_ble_eq_true rfl) rfl ?_
    refine z_getI 12 (x := (h2 466 7)) fX12_220 rfl dX12_readRange_18 rfl rfl ?_
    refine z_iconst dX12_readRange_21 rfl ?_
    obtain ⟨r1, ka, kb⟩ := k
    refine z_icmp_ne (tgt := 37) dX12_readRange_22 rfl r1 ⟨by decide, by decide⟩ rfl ⟨fun q => ?_, fun q => ?_⟩
    · have k := ka q
      refine z_aload_n 0 dX12_readRange_37 rfl rfl (Nat.le_of_ble_eq_true rfl) rfl ?_
      refine z_getI 12 (x := (h2 466 10)) fX12_208 rfl dX12_readRange_38 rfl rfl ?_
      obtain ⟨r1, ka, kb⟩ := k
      refine z_if_ne (tgt := 50) dX12_readRange_41 rfl r1 rfl ⟨fun q => ?_, fun q => ?_⟩
      · have k := ka q
        exact z_return rfl dX12_readRange_50 ⟨rfl, k⟩
      · have k := kb q
        refine z_aload_n 0 dX12_readRange_44 rfl rfl (Nat.le_of_ble_eq_true rfl) rfl ?_
        refine z_iload_n 1 dX12_readRange_45 rfl rfl rfl ?_
        refine z_iload_n 2 dX12_readRange_46 rfl rfl rfl ?_
        refine z_callVv vX12_laysRange kX12_354 dX12_readRange_47 rfl (zRo_d d) (as := [vi x1, vi x1]) (rest := []) (Nat.le_of_ble_eq_true rfl) rfl rfl (zCv_mono (fun h6 k => ?_) k)
        exact z_return rfl dX12_readRange_50 ⟨rfl, k⟩
    · have k := kb q
      refine z_aload_n 0 dX12_readRange_25 rfl rfl (Nat.le_of_ble_eq_true rfl) rfl ?_
      refine z_callVv vX12_next kX12_262 dX12_readRange_26 rfl (zRo_d d) (as := []) (rest := []) (Nat.le_of_ble_eq_true rfl) rfl rfl (zCv_mono (fun h8 k => ?_) k)
      refine z_aload_n 0 dX12_readRange_29 rfl rfl (Nat.le_of_ble_eq_true rfl) rfl ?_
      refine z_iload_n 1 dX12_readRange_30 rfl rfl rfl ?_
      refine z_ldc (x := 65535) cX12_200 rfl dX12_readRange_31 rfl ?_
      refine z_callVi vX12_whole kX12_350 dX12_readRange_33 rfl (zRo_d d) (as := [vi x1, vi 65535]) (rest := []) (Nat.le_of_ble_eq_true rfl) rfl rfl (zCi_mono (fun x9 h10 k => ?_) k)
      refine z_istore_n 2 dX12_readRange_36 rfl (Nat.le_of_ble_eq_true rfl) (L' := [some (vr 12 466), some (vi x1), some (vi x9)]) rfl rfl ?_
      refine z_aload_n 0 dX12_readRange_37 rfl rfl (Nat.le_of_ble_eq_true rfl) rfl ?_
      refine z_getI 12 (x := (h10 466 10)) fX12_208 rfl dX12_readRange_38 rfl rfl ?_
      obtain ⟨r1, ka, kb⟩ := k
      refine z_if_ne (tgt := 50) dX12_readRange_41 rfl r1 rfl ⟨fun q => ?_, fun q => ?_⟩
      · have k := ka q
        exact z_return rfl dX12_readRange_50 ⟨rfl, k⟩
      · have k := kb q
        refine z_aload_n 0 dX12_readRange_44 rfl rfl (Nat.le_of_ble_eq_true rfl) rfl ?_
        refine z_iload_n 1 dX12_readRange_45 rfl rfl rfl ?_
        refine z_iload_n 2 dX12_readRange_46 rfl rfl rfl ?_
        refine z_callVv vX12_laysRange kX12_354 dX12_readRange_47 rfl (zRo_d d) (as := [vi x1, vi x9]) (rest := []) (Nat.le_of_ble_eq_true rfl) rfl rfl (zCv_mono (fun h12 k => ?_) k)
        exact z_return rfl dX12_readRange_50 ⟨rfl, k⟩
theorem eX12_readRange {G : zG} {d : Nat} {K : zH → Prop} {h : zH} (k : tX12_readRange_0 G d K h) : zCv G (d + 1) mX12_readRange [vr 12 466] h K := z_entry (by decide +kernel) (Nat.le_of_ble_eq_true rfl) rfl k
def tX12_readNamed_0 (G : zG) (d : Nat) (K : zH → Prop) (h : zH) : Prop := zTv G (d + 1) mX12_readNamed K 0 [some (vr 12 466), none, none] [] h
def tX12_readNamed_42 (G : zG) (d : Nat) (K : zH → Prop) (l1 : Int) (l2 : Int) (h : zH) : Prop := zTv G (d + 1) mX12_readNamed K 42 [some (vr 12 466), some (vi l1), some (vi l2)] [] h
theorem bX12_readNamed_0 {G : zG} {d : Nat} {K : zH → Prop} {h : zH} (k : zCv G d mX12_lays [vr 12 466, vl 0] h (fun h2 => zCb G d mX12_isName [vr 12 466] h2 (fun x3 h4 => (x3 = true → zCi G d mX12_named [vr 12 466] h4 (fun x5 h6 => zR x5 ∧ (¬ x5 = (-1) → zR (h6 466 10) ∧ ((h6 466 10) ≤ 0 → tX12_readNamed_42 G d K x5 0 h6) ∧ (¬ (h6 466 10) ≤ 0 → K h6)) ∧ (x5 = (-1) → zCv G d mX12_wrong [vr 12 466, vi 2] h6 (fun h8 => zR (h8 466 10) ∧ ((h8 466 10) ≤ 0 → tX12_readNamed_42 G d K x5 0 h8) ∧ (¬ (h8 466 10) ≤ 0 → K h8))))) ∧ (x3 = false → zCv G d mX12_wrong [vr 12 466, vi 1] h4 (fun h10 => zCi G d mX12_named [vr 12 466] h10 (fun x11 h12 => zR x11 ∧ (¬ x11 = (-1) → zR (h12 466 10) ∧ ((h12 466 10) ≤ 0 → tX12_readNamed_42 G d K x11 0 h12) ∧ (¬ (h12 466 10) ≤ 0 → K h12)) ∧ (x11 = (-1) → zCv G d mX12_wrong [vr 12 466, vi 2] h12 (fun h14 => zR (h14 466 10) ∧ ((h14 466 10) ≤ 0 → tX12_readNamed_42 G d K x11 0 h14) ∧ (¬ (h14 466 10) ≤ 0 → K h14))))))))) : tX12_readNamed_0 G d K h := by
  unfold tX12_readNamed_0
  refine z_aload_n 0 dX12_readNamed_0 rfl rfl (Nat.le_of_ble_eq_true rfl) rfl ?_
  refine z_lconst (x := 0) dX12_readNamed_1 rfl rfl ?_
  refine z_callVv vX12_lays kX12_343 dX12_readNamed_2 rfl (zRo_d d) (as := [vl 0]) (rest := []) (Nat.le_of_ble_eq_true rfl) rfl rfl (zCv_mono (fun h2 k => ?_) k)
  refine z_aload_n 0 dX12_readNamed_5 rfl rfl (Nat.le_of_ble_eq_true rfl) rfl ?_
  refine z_callVb vX12_isName kX12_357 dX12_readNamed_6 rfl (zRo_d d) (as := []) (rest := []) (Nat.le_of_ble_eq_true rfl) rfl rfl (zCb_mono (fun x3 h4 k => ?_) k)
  obtain ⟨ka, kb⟩ := k
  refine z_ifb_ne (tgt := 17) dX12_readNamed_9 rfl rfl ⟨fun q => ?_, fun q => ?_⟩
  · have k := ka q
    refine z_aload_n 0 dX12_readNamed_17 rfl rfl (Nat.le_of_ble_eq_true rfl) rfl ?_
    refine z_callVi vX12_named kX12_360 dX12_readNamed_18 rfl (zRo_d d) (as := []) (rest := []) (Nat.le_of_ble_eq_true rfl) rfl rfl (zCi_mono (fun x5 h6 k => ?_) k)
    refine z_istore_n 1 dX12_readNamed_21 rfl (Nat.le_of_ble_eq_true rfl) (L' := [some (vr 12 466), some (vi x5), none]) rfl rfl ?_
    refine z_iload_n 1 dX12_readNamed_22 rfl rfl rfl ?_
    refine z_iconst dX12_readNamed_23 rfl ?_
    obtain ⟨r1, ka, kb⟩ := k
    refine z_icmp_ne (tgt := 32) dX12_readNamed_24 rfl r1 ⟨by decide, by decide⟩ rfl ⟨fun q => ?_, fun q => ?_⟩
    · have k := ka q
      refine z_aload_n 0 dX12_readNamed_32 rfl rfl (Nat.le_of_ble_eq_true rfl) rfl ?_
      refine z_getI 12 (x := (h6 466 10)) fX12_208 rfl dX12_readNamed_33 rfl rfl ?_
      obtain ⟨r1, ka, kb⟩ := k
      refine z_if_le (tgt := 40) dX12_readNamed_36 rfl r1 rfl ⟨fun q => ?_, fun q => ?_⟩
      · have k := ka q
        refine z_iconst dX12_readNamed_40 rfl ?_
        refine z_istore_n 2 dX12_readNamed_41 rfl (Nat.le_of_ble_eq_true rfl) (L' := [some (vr 12 466), some (vi x5), some (vi 0)]) rfl rfl ?_
        exact z_sub (L' := [some (vr 12 466), some (vi x5), some (vi 0)]) (And.intro rfl (And.intro rfl (And.intro rfl trivial))) k
      · have k := kb q
        exact z_return rfl dX12_readNamed_39 ⟨rfl, k⟩
    · have k := kb q
      refine z_aload_n 0 dX12_readNamed_27 rfl rfl (Nat.le_of_ble_eq_true rfl) rfl ?_
      refine z_iconst dX12_readNamed_28 rfl ?_
      refine z_callVv vX12_wrong kX12_268 dX12_readNamed_29 rfl (zRo_d d) (as := [vi 2]) (rest := []) (Nat.le_of_ble_eq_true rfl) rfl rfl (zCv_mono (fun h8 k => ?_) k)
      refine z_aload_n 0 dX12_readNamed_32 rfl rfl (Nat.le_of_ble_eq_true rfl) rfl ?_
      refine z_getI 12 (x := (h8 466 10)) fX12_208 rfl dX12_readNamed_33 rfl rfl ?_
      obtain ⟨r1, ka, kb⟩ := k
      refine z_if_le (tgt := 40) dX12_readNamed_36 rfl r1 rfl ⟨fun q => ?_, fun q => ?_⟩
      · have k := ka q
        refine z_iconst dX12_readNamed_40 rfl ?_
        refine z_istore_n 2 dX12_readNamed_41 rfl (Nat.le_of_ble_eq_true rfl) (L' := [some (vr 12 466), some (vi x5), some (vi 0)]) rfl rfl ?_
        exact z_sub (L' := [some (vr 12 466), some (vi x5), some (vi 0)]) (And.intro rfl (And.intro rfl (And.intro rfl trivial))) k
      · have k := kb q
        exact z_return rfl dX12_readNamed_39 ⟨rfl, k⟩
  · have k := kb q
    refine z_aload_n 0 dX12_readNamed_12 rfl rfl (Nat.le_of_ble_eq_true rfl) rfl ?_
    refine z_iconst dX12_readNamed_13 rfl ?_
    refine z_callVv vX12_wrong kX12_268 dX12_readNamed_14 rfl (zRo_d d) (as := [vi 1]) (rest := []) (Nat.le_of_ble_eq_true rfl) rfl rfl (zCv_mono (fun h10 k => ?_) k)
    refine z_aload_n 0 dX12_readNamed_17 rfl rfl (Nat.le_of_ble_eq_true rfl) rfl ?_
    refine z_callVi vX12_named kX12_360 dX12_readNamed_18 rfl (zRo_d d) (as := []) (rest := []) (Nat.le_of_ble_eq_true rfl) rfl rfl (zCi_mono (fun x11 h12 k => ?_) k)
    refine z_istore_n 1 dX12_readNamed_21 rfl (Nat.le_of_ble_eq_true rfl) (L' := [some (vr 12 466), some (vi x11), none]) rfl rfl ?_
    refine z_iload_n 1 dX12_readNamed_22 rfl rfl rfl ?_
    refine z_iconst dX12_readNamed_23 rfl ?_
    obtain ⟨r1, ka, kb⟩ := k
    refine z_icmp_ne (tgt := 32) dX12_readNamed_24 rfl r1 ⟨by decide, by decide⟩ rfl ⟨fun q => ?_, fun q => ?_⟩
    · have k := ka q
      refine z_aload_n 0 dX12_readNamed_32 rfl rfl (Nat.le_of_ble_eq_true rfl) rfl ?_
      refine z_getI 12 (x := (h12 466 10)) fX12_208 rfl dX12_readNamed_33 rfl rfl ?_
      obtain ⟨r1, ka, kb⟩ := k
      refine z_if_le (tgt := 40) dX12_readNamed_36 rfl r1 rfl ⟨fun q => ?_, fun q => ?_⟩
      · have k := ka q
        refine z_iconst dX12_readNamed_40 rfl ?_
        refine z_istore_n 2 dX12_readNamed_41 rfl (Nat.le_of_ble_eq_true rfl) (L' := [some (vr 12 466), some (vi x11), some (vi 0)]) rfl rfl ?_
        exact z_sub (L' := [some (vr 12 466), some (vi x11), some (vi 0)]) (And.intro rfl (And.intro rfl (And.intro rfl trivial))) k
      · have k := kb q
        exact z_return rfl dX12_readNamed_39 ⟨rfl, k⟩
    · have k := kb q
      refine z_aload_n 0 dX12_readNamed_27 rfl rfl (Nat.le_of_ble_eq_true rfl) rfl ?_
      refine z_iconst dX12_readNamed_28 rfl ?_
      refine z_callVv vX12_wrong kX12_268 dX12_readNamed_29 rfl (zRo_d d) (as := [vi 2]) (rest := []) (Nat.le_of_ble_eq_true rfl) rfl rfl (zCv_mono (fun h14 k => ?_) k)
      refine z_aload_n 0 dX12_readNamed_32 rfl rfl (Nat.le_of_ble_eq_true rfl) rfl ?_
      refine z_getI 12 (x := (h14 466 10)) fX12_208 rfl dX12_readNamed_33 rfl rfl ?_
      obtain ⟨r1, ka, kb⟩ := k
      refine z_if_le (tgt := 40) dX12_readNamed_36 rfl r1 rfl ⟨fun q => ?_, fun q => ?_⟩
      · have k := ka q
        refine z_iconst dX12_readNamed_40 rfl ?_
        refine z_istore_n 2 dX12_readNamed_41 rfl (Nat.le_of_ble_eq_true rfl) (L' := [some (vr 12 466), some (vi x11), some (vi 0)]) rfl rfl ?_
        exact z_sub (L' := [some (vr 12 466), some (vi x11), some (vi 0)]) (And.intro rfl (And.intro rfl (And.intro rfl trivial))) k
      · have k := kb q
        exact z_return rfl dX12_readNamed_39 ⟨rfl, k⟩
theorem bX12_readNamed_42 {G : zG} {d : Nat} {K : zH → Prop} {l1 : Int} {l2 : Int} {h : zH} (k : ((0 : Int) ≤ (12 + l1) ∧ (12 + l1) < 24) ∧ zR l2 ∧ zR (h 471 (12 + l1)) ∧ ((h 471 (12 + l1)) ≤ l2 → zCv G d mX12_next [vr 12 466] h (fun h2 => K h2)) ∧ (¬ (h 471 (12 + l1)) ≤ l2 → ((0 : Int) ≤ (((12 + l1) * 24) + l2) ∧ (((12 + l1) * 24) + l2) < 576) ∧ ((0 : Int) ≤ (((12 + l1) * 24) + l2) ∧ (((12 + l1) * 24) + l2) < 576) ∧ zCv G d mX12_laysRange [vr 12 466, vi (h 472 (((12 + l1) * 24) + l2)), vi (h 473 (((12 + l1) * 24) + l2))] h (fun h4 => tX12_readNamed_42 G d K l1 (l2 + 1) h4))) : tX12_readNamed_42 G d K l1 l2 h := by
  unfold tX12_readNamed_42
  refine z_iload_n 2 dX12_readNamed_42 rfl rfl rfl ?_
  refine z_aload_n 0 dX12_readNamed_43 rfl rfl (Nat.le_of_ble_eq_true rfl) rfl ?_
  refine z_getF 12 13 (x := 471) fX12_28 rfl dX12_readNamed_44 rfl rfl ?_
  refine z_bipush dX12_readNamed_47 rfl rfl ?_
  refine z_iload_n 1 dX12_readNamed_49 rfl rfl rfl ?_
  refine z_iadd dX12_readNamed_50 rfl ?_
  obtain ⟨i9, k⟩ := k
  refine z_iald (x := (h 471 (12 + l1))) dX12_readNamed_51 (by rw [zl_471]; exact i9) rfl rfl ?_
  obtain ⟨r1, r2, ka, kb⟩ := k
  refine z_icmp_ge (tgt := 93) dX12_readNamed_52 rfl r1 r2 rfl ⟨fun q => ?_, fun q => ?_⟩
  · have k := ka q
    refine z_aload_n 0 dX12_readNamed_93 rfl rfl (Nat.le_of_ble_eq_true rfl) rfl ?_
    refine z_callVv vX12_next kX12_262 dX12_readNamed_94 rfl (zRo_d d) (as := []) (rest := []) (Nat.le_of_ble_eq_true rfl) rfl rfl (zCv_mono (fun h2 k => ?_) k)
    exact z_return rfl dX12_readNamed_97 ⟨rfl, k⟩
  · have k := kb q
    refine z_aload_n 0 dX12_readNamed_55 rfl rfl (Nat.le_of_ble_eq_true rfl) rfl ?_
    refine z_aload_n 0 dX12_readNamed_56 rfl rfl (Nat.le_of_ble_eq_true rfl) rfl ?_
    refine z_getF 12 13 (x := 472) fX12_31 rfl dX12_readNamed_57 rfl rfl ?_
    refine z_bipush dX12_readNamed_60 rfl rfl ?_
    refine z_iload_n 1 dX12_readNamed_62 rfl rfl rfl ?_
    refine z_iadd dX12_readNamed_63 rfl ?_
    refine z_bipush dX12_readNamed_64 rfl rfl ?_
    refine z_imul dX12_readNamed_66 rfl ?_
    refine z_iload_n 2 dX12_readNamed_67 rfl rfl rfl ?_
    refine z_iadd dX12_readNamed_68 rfl ?_
    obtain ⟨i9, k⟩ := k
    refine z_iald (x := (h 472 (((12 + l1) * 24) + l2))) dX12_readNamed_69 (by rw [zl_472]; exact i9) rfl rfl ?_
    refine z_aload_n 0 dX12_readNamed_70 rfl rfl (Nat.le_of_ble_eq_true rfl) rfl ?_
    refine z_getF 12 13 (x := 473) fX12_34 rfl dX12_readNamed_71 rfl rfl ?_
    refine z_bipush dX12_readNamed_74 rfl rfl ?_
    refine z_iload_n 1 dX12_readNamed_76 rfl rfl rfl ?_
    refine z_iadd dX12_readNamed_77 rfl ?_
    refine z_bipush dX12_readNamed_78 rfl rfl ?_
    refine z_imul dX12_readNamed_80 rfl ?_
    refine z_iload_n 2 dX12_readNamed_81 rfl rfl rfl ?_
    refine z_iadd dX12_readNamed_82 rfl ?_
    obtain ⟨i9, k⟩ := k
    refine z_iald (x := (h 473 (((12 + l1) * 24) + l2))) dX12_readNamed_83 (by rw [zl_473]; exact i9) rfl rfl ?_
    refine z_callVv vX12_laysRange kX12_354 dX12_readNamed_84 rfl (zRo_d d) (as := [vi (h 472 (((12 + l1) * 24) + l2)), vi (h 473 (((12 + l1) * 24) + l2))]) (rest := []) (Nat.le_of_ble_eq_true rfl) rfl rfl (zCv_mono (fun h4 k => ?_) k)
    refine z_iinc dX12_readNamed_87 rfl (Nat.le_of_ble_eq_true rfl) (L' := [some (vr 12 466), some (vi l1), some (vi (l2 + 1))]) rfl rfl ?_
    refine z_goto (tgt := 42) dX12_readNamed_90 rfl ?_
    exact z_sub (L' := [some (vr 12 466), some (vi l1), some (vi (l2 + 1))]) (And.intro rfl (And.intro rfl (And.intro rfl trivial))) k
theorem eX12_readNamed {G : zG} {d : Nat} {K : zH → Prop} {h : zH} (k : tX12_readNamed_0 G d K h) : zCv G (d + 1) mX12_readNamed [vr 12 466] h K := z_entry (by decide +kernel) (Nat.le_of_ble_eq_true rfl) rfl k
def tX12_named_0 (G : zG) (d : Nat) (K : Int → zH → Prop) (h : zH) : Prop := zTi G d mX12_named K 0 [some (vr 12 466), none] [] h
def tX12_named_2 (G : zG) (d : Nat) (K : Int → zH → Prop) (l1 : Int) (h : zH) : Prop := zTi G d mX12_named K 2 [some (vr 12 466), some (vi l1)] [] h
theorem bX12_named_0 {G : zG} {d : Nat} {K : Int → zH → Prop} {h : zH} (k : tX12_named_2 G d K 0 h) : tX12_named_0 G d K h := by
  unfold tX12_named_0
  refine z_iconst dX12_named_0 rfl ?_
  refine z_istore_n 1 dX12_named_1 rfl (Nat.le_of_ble_eq_true rfl) (L' := [some (vr 12 466), some (vi 0)]) rfl rfl ?_
  exact z_sub (L' := [some (vr 12 466), some (vi 0)]) (And.intro rfl (And.intro rfl trivial)) k
theorem bX12_named_2 {G : zG} {d : Nat} {K : Int → zH → Prop} {l1 : Int} {h : zH} (k : zR l1 ∧ zR (h 466 23) ∧ ((h 466 23) ≤ l1 → K (-1) h) ∧ (¬ (h 466 23) ≤ l1 → ((0 : Int) ≤ l1 ∧ l1 < 12) ∧ (¬ (zcmp (h 474 l1) (h 466 11)) = 0 → tX12_named_2 G d K (l1 + 1) h) ∧ ((zcmp (h 474 l1) (h 466 11)) = 0 → K l1 h))) : tX12_named_2 G d K l1 h := by
  unfold tX12_named_2
  refine z_iload_n 1 dX12_named_2 rfl rfl rfl ?_
  refine z_aload_n 0 dX12_named_3 rfl rfl (Nat.le_of_ble_eq_true rfl) rfl ?_
  refine z_getI 12 (x := (h 466 23)) fX12_363 rfl dX12_named_4 rfl rfl ?_
  obtain ⟨r1, r2, ka, kb⟩ := k
  refine z_icmp_ge (tgt := 32) dX12_named_7 rfl r1 r2 rfl ⟨fun q => ?_, fun q => ?_⟩
  · have k := ka q
    refine z_iconst dX12_named_32 rfl ?_
    exact z_ireturn rfl dX12_named_33 ⟨_, rfl, k⟩
  · have k := kb q
    refine z_aload_n 0 dX12_named_10 rfl rfl (Nat.le_of_ble_eq_true rfl) rfl ?_
    refine z_getF 12 14 (x := 474) fX12_37 rfl dX12_named_11 rfl rfl ?_
    refine z_iload_n 1 dX12_named_14 rfl rfl rfl ?_
    obtain ⟨i9, k⟩ := k
    refine z_lald (x := (h 474 l1)) dX12_named_15 (by rw [zl_474]; exact i9) rfl rfl ?_
    refine z_aload_n 0 dX12_named_16 rfl rfl (Nat.le_of_ble_eq_true rfl) rfl ?_
    refine z_getL 12 (x := (h 466 11)) fX12_246 rfl dX12_named_17 rfl rfl ?_
    refine z_lcmp dX12_named_20 rfl ?_
    obtain ⟨ka, kb⟩ := k
    refine z_if_ne (tgt := 26) dX12_named_21 rfl (zcmp_R _ _) rfl ⟨fun q => ?_, fun q => ?_⟩
    · have k := ka q
      refine z_iinc dX12_named_26 rfl (Nat.le_of_ble_eq_true rfl) (L' := [some (vr 12 466), some (vi (l1 + 1))]) rfl rfl ?_
      refine z_goto (tgt := 2) dX12_named_29 rfl ?_
      exact z_sub (L' := [some (vr 12 466), some (vi (l1 + 1))]) (And.intro rfl (And.intro rfl trivial)) k
    · have k := kb q
      refine z_iload_n 1 dX12_named_24 rfl rfl rfl ?_
      exact z_ireturn rfl dX12_named_25 ⟨_, rfl, k⟩
theorem eX12_named {G : zG} {d : Nat} {K : Int → zH → Prop} {h : zH} (k : tX12_named_0 G d K h) : zCi G d mX12_named [vr 12 466] h K := z_entry (by decide +kernel) (Nat.le_of_ble_eq_true rfl) rfl k
def tX12_bitAt_0 (G : zG) (d : Nat) (K : Bool → zH → Prop) (l1 : Int) (h : zH) : Prop := zTb G (d + 1) mX12_bitAt K 0 [some (vr 12 466), some (vi l1)] [] h
theorem bX12_bitAt_0 {G : zG} {d : Nat} {K : Bool → zH → Prop} {l1 : Int} {h : zH} (k : (0 ≤ l1 ∧ l1 < 2147483648) ∧ ((0 : Int) ≤ (l1 / 64) ∧ (l1 / 64) < 28672) ∧ (0 ≤ l1 ∧ l1 < 2147483648) ∧ zCb G d mX12_bit [vl (h 468 (l1 / 64)), vi (l1 % 64)] h (fun x1 h2 => K x1 h2)) : tX12_bitAt_0 G d K l1 h := by
  unfold tX12_bitAt_0
  refine z_aload_n 0 dX12_bitAt_0 rfl rfl (Nat.le_of_ble_eq_true rfl) rfl ?_
  refine z_getF 12 14 (x := 468) fX12_17 rfl dX12_bitAt_1 rfl rfl ?_
  refine z_iload_n 1 dX12_bitAt_4 rfl rfl rfl ?_
  refine z_bipush dX12_bitAt_5 rfl rfl ?_
  obtain ⟨i9, k⟩ := k
  refine z_idiv dX12_bitAt_7 ⟨i9.1, i9.2, by decide, by decide⟩ rfl ?_
  obtain ⟨i9, k⟩ := k
  refine z_lald (x := (h 468 (l1 / 64))) dX12_bitAt_8 (by rw [zl_468]; exact i9) rfl rfl ?_
  refine z_iload_n 1 dX12_bitAt_9 rfl rfl rfl ?_
  refine z_bipush dX12_bitAt_10 rfl rfl ?_
  obtain ⟨i9, k⟩ := k
  refine z_irem dX12_bitAt_12 ⟨i9.1, i9.2, by decide, by decide⟩ rfl ?_
  refine z_callSb sX12_bit kX12_366 dX12_bitAt_13 rfl (zRo_d d) (as := [vl (h 468 (l1 / 64)), vi (l1 % 64)]) (rest := []) (Nat.le_of_ble_eq_true rfl) rfl rfl (zCb_mono (fun x1 h2 k => ?_) k)
  exact z_zreturn rfl (bi_01 _) dX12_bitAt_16 ⟨_, rfl, k⟩
theorem eX12_bitAt {G : zG} {d : Nat} {K : Bool → zH → Prop} {l1 : Int} {h : zH} (k : tX12_bitAt_0 G d K l1 h) : zCb G (d + 1) mX12_bitAt [vr 12 466, vi l1] h K := z_entry (by decide +kernel) (Nat.le_of_ble_eq_true rfl) rfl k
def tX12_readSet_0 (G : zG) (d : Nat) (K : zH → Prop) (h : zH) : Prop := zTv G (d + 1) mX12_readSet K 0 [some (vr 12 466), none, none, none, none] [] h
def tX12_readSet_34 (G : zG) (d : Nat) (K : zH → Prop) (l1 : Int) (l2 : Int) (h : zH) : Prop := zTv G (d + 1) mX12_readSet K 34 [some (vr 12 466), some (vi l1), some (vi l2), none, none] [] h
theorem bX12_readSet_0 {G : zG} {d : Nat} {K : zH → Prop} {h : zH} (k : zCv G d mX12_readBody [vr 12 466] (zup (zup (zup h 466 13 0) 466 14 0) 466 17 0) (fun h2 => zR (h2 466 10) ∧ ((h2 466 10) ≤ 0 → tX12_readSet_34 G d K (h 466 8) 0 h2) ∧ (¬ (h2 466 10) ≤ 0 → K h2))) : tX12_readSet_0 G d K h := by
  unfold tX12_readSet_0
  refine z_aload_n 0 dX12_readSet_0 rfl rfl (Nat.le_of_ble_eq_true rfl) rfl ?_
  refine z_getI 12 (x := (h 466 8)) fX12_217 rfl dX12_readSet_1 rfl rfl ?_
  refine z_istore_n 1 dX12_readSet_4 rfl (Nat.le_of_ble_eq_true rfl) (L' := [some (vr 12 466), some (vi (h 466 8)), none, none, none]) rfl rfl ?_
  refine z_aload_n 0 dX12_readSet_5 rfl rfl (Nat.le_of_ble_eq_true rfl) rfl ?_
  refine z_iconst dX12_readSet_6 rfl ?_
  refine z_putI 12 gX12_301 dX12_readSet_7 rfl ?_
  refine z_aload_n 0 dX12_readSet_10 rfl rfl (Nat.le_of_ble_eq_true rfl) rfl ?_
  refine z_iconst dX12_readSet_11 rfl ?_
  refine z_putI 12 gX12_315 dX12_readSet_12 rfl ?_
  refine z_aload_n 0 dX12_readSet_15 rfl rfl (Nat.le_of_ble_eq_true rfl) rfl ?_
  refine z_iconst dX12_readSet_16 rfl ?_
  refine z_putI 12 gX12_370 dX12_readSet_17 rfl ?_
  refine z_aload_n 0 dX12_readSet_20 rfl rfl (Nat.le_of_ble_eq_true rfl) rfl ?_
  refine z_callVv vX12_readBody kX12_337 dX12_readSet_21 rfl (zRo_d d) (as := []) (rest := []) (Nat.le_of_ble_eq_true rfl) rfl rfl (zCv_mono (fun h2 k => ?_) k)
  refine z_aload_n 0 dX12_readSet_24 rfl rfl (Nat.le_of_ble_eq_true rfl) rfl ?_
  refine z_getI 12 (x := (h2 466 10)) fX12_208 rfl dX12_readSet_25 rfl rfl ?_
  obtain ⟨r1, ka, kb⟩ := k
  refine z_if_le (tgt := 32) dX12_readSet_28 rfl r1 rfl ⟨fun q => ?_, fun q => ?_⟩
  · have k := ka q
    refine z_iconst dX12_readSet_32 rfl ?_
    refine z_istore_n 2 dX12_readSet_33 rfl (Nat.le_of_ble_eq_true rfl) (L' := [some (vr 12 466), some (vi (h 466 8)), some (vi 0), none, none]) rfl rfl ?_
    exact z_sub (L' := [some (vr 12 466), some (vi (h 466 8)), some (vi 0), none, none]) (And.intro rfl (And.intro rfl (And.intro rfl trivial))) k
  · have k := kb q
    exact z_return rfl dX12_readSet_31 ⟨rfl, k⟩
theorem bX12_readSet_34 {G : zG} {d : Nat} {K : zH → Prop} {l1 : Int} {l2 : Int} {h : zH} (k : zR l2 ∧ (65536 ≤ l2 → zR (h 466 17) ∧ ((h 466 17) ≤ 24 → K h) ∧ (¬ (h 466 17) ≤ 24 → zCv G d mX12_wrongThere [vr 12 466, vi 5, vi l1] h (fun h2 => K h2))) ∧ (¬ 65536 ≤ l2 → (0 ≤ l2 ∧ l2 < 2147483648) ∧ ((0 : Int) ≤ (l2 / 64) ∧ (l2 / 64) < 28672) ∧ (0 ≤ l2 ∧ l2 < 2147483648) ∧ (¬ (l2 % 64) = 0 → zCb G d mX12_bitAt [vr 12 466, vi l2] h (fun x3 h4 => (x3 = true → zCi G d mX12_foundRange [vr 12 466, vi l2] h4 (fun x5 h6 => tX12_readSet_34 G d K l1 x5 h6)) ∧ (x3 = false → tX12_readSet_34 G d K l1 (l2 + 1) h4))) ∧ ((l2 % 64) = 0 → (¬ (zcmp (h 468 (l2 / 64)) 0) = 0 → zCb G d mX12_bitAt [vr 12 466, vi l2] h (fun x7 h8 => (x7 = true → zCi G d mX12_foundRange [vr 12 466, vi l2] h8 (fun x9 h10 => tX12_readSet_34 G d K l1 x9 h10)) ∧ (x7 = false → tX12_readSet_34 G d K l1 (l2 + 1) h8))) ∧ ((zcmp (h 468 (l2 / 64)) 0) = 0 → tX12_readSet_34 G d K l1 (l2 + 64) h)))) : tX12_readSet_34 G d K l1 l2 h := by
  unfold tX12_readSet_34
  refine z_iload_n 2 dX12_readSet_34 rfl rfl rfl ?_
  refine z_ldcw (x := 65536) cX12_373 rfl dX12_readSet_35 rfl ?_
  obtain ⟨r1, ka, kb⟩ := k
  refine z_icmp_ge (tgt := 93) dX12_readSet_38 rfl r1 ⟨by decide, by decide⟩ rfl ⟨fun q => ?_, fun q => ?_⟩
  · have k := ka q
    refine z_aload_n 0 dX12_readSet_93 rfl rfl (Nat.le_of_ble_eq_true rfl) rfl ?_
    refine z_getI 12 (x := (h 466 17)) fX12_370 rfl dX12_readSet_94 rfl rfl ?_
    refine z_bipush dX12_readSet_97 rfl rfl ?_
    obtain ⟨r1, ka, kb⟩ := k
    refine z_icmp_le (tgt := 108) dX12_readSet_99 rfl r1 ⟨by decide, by decide⟩ rfl ⟨fun q => ?_, fun q => ?_⟩
    · have k := ka q
      exact z_return rfl dX12_readSet_108 ⟨rfl, k⟩
    · have k := kb q
      refine z_aload_n 0 dX12_readSet_102 rfl rfl (Nat.le_of_ble_eq_true rfl) rfl ?_
      refine z_iconst dX12_readSet_103 rfl ?_
      refine z_iload_n 1 dX12_readSet_104 rfl rfl rfl ?_
      refine z_callVv vX12_wrongThere kX12_255 dX12_readSet_105 rfl (zRo_d d) (as := [vi 5, vi l1]) (rest := []) (Nat.le_of_ble_eq_true rfl) rfl rfl (zCv_mono (fun h2 k => ?_) k)
      exact z_return rfl dX12_readSet_108 ⟨rfl, k⟩
  · have k := kb q
    refine z_aload_n 0 dX12_readSet_41 rfl rfl (Nat.le_of_ble_eq_true rfl) rfl ?_
    refine z_getF 12 14 (x := 468) fX12_17 rfl dX12_readSet_42 rfl rfl ?_
    refine z_iload_n 2 dX12_readSet_45 rfl rfl rfl ?_
    refine z_bipush dX12_readSet_46 rfl rfl ?_
    obtain ⟨i9, k⟩ := k
    refine z_idiv dX12_readSet_48 ⟨i9.1, i9.2, by decide, by decide⟩ rfl ?_
    obtain ⟨i9, k⟩ := k
    refine z_lald (x := (h 468 (l2 / 64))) dX12_readSet_49 (by rw [zl_468]; exact i9) rfl rfl ?_
    refine z_lstore_n 3 dX12_readSet_50 rfl (Nat.le_of_ble_eq_true rfl) (L' := [some (vr 12 466), some (vi l1), some (vi l2), some (vl (h 468 (l2 / 64))), none]) rfl rfl ?_
    refine z_iload_n 2 dX12_readSet_51 rfl rfl rfl ?_
    refine z_bipush dX12_readSet_52 rfl rfl ?_
    obtain ⟨i9, k⟩ := k
    refine z_irem dX12_readSet_54 ⟨i9.1, i9.2, by decide, by decide⟩ rfl ?_
    obtain ⟨ka, kb⟩ := k
    refine z_if_ne (tgt := 70) dX12_readSet_55 rfl (zR_mod _ (by decide)) rfl ⟨fun q => ?_, fun q => ?_⟩
    · have k := ka q
      refine z_aload_n 0 dX12_readSet_70 rfl rfl (Nat.le_of_ble_eq_true rfl) rfl ?_
      refine z_iload_n 2 dX12_readSet_71 rfl rfl rfl ?_
      refine z_callVb vX12_bitAt kX12_374 dX12_readSet_72 rfl (zRo_d d) (as := [vi l2]) (rest := []) (Nat.le_of_ble_eq_true rfl) rfl rfl (zCb_mono (fun x3 h4 k => ?_) k)
      obtain ⟨ka, kb⟩ := k
      refine z_ifb_ne (tgt := 84) dX12_readSet_75 rfl rfl ⟨fun q => ?_, fun q => ?_⟩
      · have k := ka q
        refine z_aload_n 0 dX12_readSet_84 rfl rfl (Nat.le_of_ble_eq_true rfl) rfl ?_
        refine z_iload_n 2 dX12_readSet_85 rfl rfl rfl ?_
        refine z_callVi vX12_foundRange kX12_377 dX12_readSet_86 rfl (zRo_d d) (as := [vi l2]) (rest := []) (Nat.le_of_ble_eq_true rfl) rfl rfl (zCi_mono (fun x5 h6 k => ?_) k)
        refine z_istore_n 2 dX12_readSet_89 rfl (Nat.le_of_ble_eq_true rfl) (L' := [some (vr 12 466), some (vi l1), some (vi x5), some (vl (h 468 (l2 / 64))), none]) rfl rfl ?_
        refine z_goto (tgt := 34) dX12_readSet_90 rfl ?_
        exact z_sub (L' := [some (vr 12 466), some (vi l1), some (vi x5), none, none]) (And.intro rfl (And.intro rfl (And.intro rfl trivial))) k
      · have k := kb q
        refine z_iinc dX12_readSet_78 rfl (Nat.le_of_ble_eq_true rfl) (L' := [some (vr 12 466), some (vi l1), some (vi (l2 + 1)), some (vl (h 468 (l2 / 64))), none]) rfl rfl ?_
        refine z_goto (tgt := 90) dX12_readSet_81 rfl ?_
        refine z_goto (tgt := 34) dX12_readSet_90 rfl ?_
        exact z_sub (L' := [some (vr 12 466), some (vi l1), some (vi (l2 + 1)), none, none]) (And.intro rfl (And.intro rfl (And.intro rfl trivial))) k
    · have k := kb q
      refine z_lload_n 3 dX12_readSet_58 rfl rfl rfl ?_
      refine z_lconst (x := 0) dX12_readSet_59 rfl rfl ?_
      refine z_lcmp dX12_readSet_60 rfl ?_
      obtain ⟨ka, kb⟩ := k
      refine z_if_ne (tgt := 70) dX12_readSet_61 rfl (zcmp_R _ _) rfl ⟨fun q => ?_, fun q => ?_⟩
      · have k := ka q
        refine z_aload_n 0 dX12_readSet_70 rfl rfl (Nat.le_of_ble_eq_true rfl) rfl ?_
        refine z_iload_n 2 dX12_readSet_71 rfl rfl rfl ?_
        refine z_callVb vX12_bitAt kX12_374 dX12_readSet_72 rfl (zRo_d d) (as := [vi l2]) (rest := []) (Nat.le_of_ble_eq_true rfl) rfl rfl (zCb_mono (fun x7 h8 k => ?_) k)
        obtain ⟨ka, kb⟩ := k
        refine z_ifb_ne (tgt := 84) dX12_readSet_75 rfl rfl ⟨fun q => ?_, fun q => ?_⟩
        · have k := ka q
          refine z_aload_n 0 dX12_readSet_84 rfl rfl (Nat.le_of_ble_eq_true rfl) rfl ?_
          refine z_iload_n 2 dX12_readSet_85 rfl rfl rfl ?_
          refine z_callVi vX12_foundRange kX12_377 dX12_readSet_86 rfl (zRo_d d) (as := [vi l2]) (rest := []) (Nat.le_of_ble_eq_true rfl) rfl rfl (zCi_mono (fun x9 h10 k => ?_) k)
          refine z_istore_n 2 dX12_readSet_89 rfl (Nat.le_of_ble_eq_true rfl) (L' := [some (vr 12 466), some (vi l1), some (vi x9), some (vl (h 468 (l2 / 64))), none]) rfl rfl ?_
          refine z_goto (tgt := 34) dX12_readSet_90 rfl ?_
          exact z_sub (L' := [some (vr 12 466), some (vi l1), some (vi x9), none, none]) (And.intro rfl (And.intro rfl (And.intro rfl trivial))) k
        · have k := kb q
          refine z_iinc dX12_readSet_78 rfl (Nat.le_of_ble_eq_true rfl) (L' := [some (vr 12 466), some (vi l1), some (vi (l2 + 1)), some (vl (h 468 (l2 / 64))), none]) rfl rfl ?_
          refine z_goto (tgt := 90) dX12_readSet_81 rfl ?_
          refine z_goto (tgt := 34) dX12_readSet_90 rfl ?_
          exact z_sub (L' := [some (vr 12 466), some (vi l1), some (vi (l2 + 1)), none, none]) (And.intro rfl (And.intro rfl (And.intro rfl trivial))) k
      · have k := kb q
        refine z_iinc dX12_readSet_64 rfl (Nat.le_of_ble_eq_true rfl) (L' := [some (vr 12 466), some (vi l1), some (vi (l2 + 64)), some (vl (h 468 (l2 / 64))), none]) rfl rfl ?_
        refine z_goto (tgt := 90) dX12_readSet_67 rfl ?_
        refine z_goto (tgt := 34) dX12_readSet_90 rfl ?_
        exact z_sub (L' := [some (vr 12 466), some (vi l1), some (vi (l2 + 64)), none, none]) (And.intro rfl (And.intro rfl (And.intro rfl trivial))) k
theorem eX12_readSet {G : zG} {d : Nat} {K : zH → Prop} {h : zH} (k : tX12_readSet_0 G d K h) : zCv G (d + 1) mX12_readSet [vr 12 466] h K := z_entry (by decide +kernel) (Nat.le_of_ble_eq_true rfl) rfl k
def tX12_foundRange_0 (G : zG) (d : Nat) (K : Int → zH → Prop) (l1 : Int) (h : zH) : Prop := zTi G (d + 1) mX12_foundRange K 0 [some (vr 12 466), some (vi l1), none] [] h
def tX12_foundRange_2 (G : zG) (d : Nat) (K : Int → zH → Prop) (l1 : Int) (l2 : Int) (h : zH) : Prop := zTi G (d + 1) mX12_foundRange K 2 [some (vr 12 466), some (vi l1), some (vi l2)] [] h
theorem bX12_foundRange_0 {G : zG} {d : Nat} {K : Int → zH → Prop} {l1 : Int} {h : zH} (k : tX12_foundRange_2 G d K l1 l1 h) : tX12_foundRange_0 G d K l1 h := by
  unfold tX12_foundRange_0
  refine z_iload_n 1 dX12_foundRange_0 rfl rfl rfl ?_
  refine z_istore_n 2 dX12_foundRange_1 rfl (Nat.le_of_ble_eq_true rfl) (L' := [some (vr 12 466), some (vi l1), some (vi l1)]) rfl rfl ?_
  exact z_sub (L' := [some (vr 12 466), some (vi l1), some (vi l1)]) (And.intro rfl (And.intro rfl (And.intro rfl trivial))) k
theorem bX12_foundRange_2 {G : zG} {d : Nat} {K : Int → zH → Prop} {l1 : Int} {l2 : Int} {h : zH} (k : zR l2 ∧ (65536 ≤ l2 → zR (h 466 17) ∧ (24 ≤ (h 466 17) → K l2 (zup h 466 17 ((h 466 17) + 1))) ∧ (¬ 24 ≤ (h 466 17) → ((0 : Int) ≤ (h 466 17) ∧ (h 466 17) < 24) ∧ ((0 : Int) ≤ (h 466 17) ∧ (h 466 17) < 24) ∧ K l2 (zup (zup (zup h 469 (h 466 17) l1) 470 (h 466 17) (l2 - 1)) 466 17 ((h 466 17) + 1)))) ∧ (¬ 65536 ≤ l2 → zCb G d mX12_bitAt [vr 12 466, vi l2] h (fun x1 h2 => (x1 = false → zR (h2 466 17) ∧ (24 ≤ (h2 466 17) → K l2 (zup h2 466 17 ((h2 466 17) + 1))) ∧ (¬ 24 ≤ (h2 466 17) → ((0 : Int) ≤ (h2 466 17) ∧ (h2 466 17) < 24) ∧ ((0 : Int) ≤ (h2 466 17) ∧ (h2 466 17) < 24) ∧ K l2 (zup (zup (zup h2 469 (h2 466 17) l1) 470 (h2 466 17) (l2 - 1)) 466 17 ((h2 466 17) + 1)))) ∧ (x1 = true → (0 ≤ l2 ∧ l2 < 2147483648) ∧ (¬ (l2 % 64) = 0 → tX12_foundRange_2 G d K l1 (l2 + 1) h2) ∧ ((l2 % 64) = 0 → (0 ≤ l2 ∧ l2 < 2147483648) ∧ ((0 : Int) ≤ (l2 / 64) ∧ (l2 / 64) < 28672) ∧ (¬ (zcmp (h2 468 (l2 / 64)) (-1)) = 0 → tX12_foundRange_2 G d K l1 (l2 + 1) h2) ∧ ((zcmp (h2 468 (l2 / 64)) (-1)) = 0 → tX12_foundRange_2 G d K l1 (l2 + 64) h2)))))) : tX12_foundRange_2 G d K l1 l2 h := by
  unfold tX12_foundRange_2
  refine z_iload_n 2 dX12_foundRange_2 rfl rfl rfl ?_
  refine z_ldcw (x := 65536) cX12_373 rfl dX12_foundRange_3 rfl ?_
  obtain ⟨r1, ka, kb⟩ := k
  refine z_icmp_ge (tgt := 52) dX12_foundRange_6 rfl r1 ⟨by decide, by decide⟩ rfl ⟨fun q => ?_, fun q => ?_⟩
  · have k := ka q
    refine z_aload_n 0 dX12_foundRange_52 rfl rfl (Nat.le_of_ble_eq_true rfl) rfl ?_
    refine z_getI 12 (x := (h 466 17)) fX12_370 rfl dX12_foundRange_53 rfl rfl ?_
    refine z_bipush dX12_foundRange_56 rfl rfl ?_
    obtain ⟨r1, ka, kb⟩ := k
    refine z_icmp_ge (tgt := 83) dX12_foundRange_58 rfl r1 ⟨by decide, by decide⟩ rfl ⟨fun q => ?_, fun q => ?_⟩
    · have k := ka q
      refine z_aload_n 0 dX12_foundRange_83 rfl rfl (Nat.le_of_ble_eq_true rfl) rfl ?_
      refine z_dup dX12_foundRange_84 (fun q => by cases q) rfl ?_
      refine z_getI 12 (x := (h 466 17)) fX12_370 rfl dX12_foundRange_85 rfl rfl ?_
      refine z_iconst dX12_foundRange_88 rfl ?_
      refine z_iadd dX12_foundRange_89 rfl ?_
      refine z_putI 12 gX12_370 dX12_foundRange_90 rfl ?_
      refine z_iload_n 2 dX12_foundRange_93 rfl rfl rfl ?_
      exact z_ireturn rfl dX12_foundRange_94 ⟨_, rfl, k⟩
    · have k := kb q
      refine z_aload_n 0 dX12_foundRange_61 rfl rfl (Nat.le_of_ble_eq_true rfl) rfl ?_
      refine z_getF 12 13 (x := 469) fX12_21 rfl dX12_foundRange_62 rfl rfl ?_
      refine z_aload_n 0 dX12_foundRange_65 rfl rfl (Nat.le_of_ble_eq_true rfl) rfl ?_
      refine z_getI 12 (x := (h 466 17)) fX12_370 rfl dX12_foundRange_66 rfl rfl ?_
      refine z_iload_n 1 dX12_foundRange_69 rfl rfl rfl ?_
      obtain ⟨i9, k⟩ := k
      refine z_iast dX12_foundRange_70 (by rw [zl_469]; exact i9) rfl ?_
      refine z_aload_n 0 dX12_foundRange_71 rfl rfl (Nat.le_of_ble_eq_true rfl) rfl ?_
      refine z_getF 12 13 (x := 470) fX12_25 rfl dX12_foundRange_72 rfl rfl ?_
      refine z_aload_n 0 dX12_foundRange_75 rfl rfl (Nat.le_of_ble_eq_true rfl) rfl ?_
      refine z_getI 12 (x := (h 466 17)) fX12_370 rfl dX12_foundRange_76 (by simp [zup]) rfl ?_
      refine z_iload_n 2 dX12_foundRange_79 rfl rfl rfl ?_
      refine z_iconst dX12_foundRange_80 rfl ?_
      refine z_isub dX12_foundRange_81 rfl ?_
      obtain ⟨i9, k⟩ := k
      refine z_iast dX12_foundRange_82 (by rw [zl_470]; exact i9) rfl ?_
      refine z_aload_n 0 dX12_foundRange_83 rfl rfl (Nat.le_of_ble_eq_true rfl) rfl ?_
      refine z_dup dX12_foundRange_84 (fun q => by cases q) rfl ?_
      refine z_getI 12 (x := (h 466 17)) fX12_370 rfl dX12_foundRange_85 (by simp [zup]) rfl ?_
      refine z_iconst dX12_foundRange_88 rfl ?_
      refine z_iadd dX12_foundRange_89 rfl ?_
      refine z_putI 12 gX12_370 dX12_foundRange_90 rfl ?_
      refine z_iload_n 2 dX12_foundRange_93 rfl rfl rfl ?_
      exact z_ireturn rfl dX12_foundRange_94 ⟨_, rfl, k⟩
  · have k := kb q
    refine z_aload_n 0 dX12_foundRange_9 rfl rfl (Nat.le_of_ble_eq_true rfl) rfl ?_
    refine z_iload_n 2 dX12_foundRange_10 rfl rfl rfl ?_
    refine z_callVb vX12_bitAt kX12_374 dX12_foundRange_11 rfl (zRo_d d) (as := [vi l2]) (rest := []) (Nat.le_of_ble_eq_true rfl) rfl rfl (zCb_mono (fun x1 h2 k => ?_) k)
    obtain ⟨ka, kb⟩ := k
    refine z_ifb_eq (tgt := 52) dX12_foundRange_14 rfl rfl ⟨fun q => ?_, fun q => ?_⟩
    · have k := ka q
      refine z_aload_n 0 dX12_foundRange_52 rfl rfl (Nat.le_of_ble_eq_true rfl) rfl ?_
      refine z_getI 12 (x := (h2 466 17)) fX12_370 rfl dX12_foundRange_53 rfl rfl ?_
      refine z_bipush dX12_foundRange_56 rfl rfl ?_
      obtain ⟨r1, ka, kb⟩ := k
      refine z_icmp_ge (tgt := 83) dX12_foundRange_58 rfl r1 ⟨by decide, by decide⟩ rfl ⟨fun q => ?_, fun q => ?_⟩
      · have k := ka q
        refine z_aload_n 0 dX12_foundRange_83 rfl rfl (Nat.le_of_ble_eq_true rfl) rfl ?_
        refine z_dup dX12_foundRange_84 (fun q => by cases q) rfl ?_
        refine z_getI 12 (x := (h2 466 17)) fX12_370 rfl dX12_foundRange_85 rfl rfl ?_
        refine z_iconst dX12_foundRange_88 rfl ?_
        refine z_iadd dX12_foundRange_89 rfl ?_
        refine z_putI 12 gX12_370 dX12_foundRange_90 rfl ?_
        refine z_iload_n 2 dX12_foundRange_93 rfl rfl rfl ?_
        exact z_ireturn rfl dX12_foundRange_94 ⟨_, rfl, k⟩
      · have k := kb q
        refine z_aload_n 0 dX12_foundRange_61 rfl rfl (Nat.le_of_ble_eq_true rfl) rfl ?_
        refine z_getF 12 13 (x := 469) fX12_21 rfl dX12_foundRange_62 rfl rfl ?_
        refine z_aload_n 0 dX12_foundRange_65 rfl rfl (Nat.le_of_ble_eq_true rfl) rfl ?_
        refine z_getI 12 (x := (h2 466 17)) fX12_370 rfl dX12_foundRange_66 rfl rfl ?_
        refine z_iload_n 1 dX12_foundRange_69 rfl rfl rfl ?_
        obtain ⟨i9, k⟩ := k
        refine z_iast dX12_foundRange_70 (by rw [zl_469]; exact i9) rfl ?_
        refine z_aload_n 0 dX12_foundRange_71 rfl rfl (Nat.le_of_ble_eq_true rfl) rfl ?_
        refine z_getF 12 13 (x := 470) fX12_25 rfl dX12_foundRange_72 rfl rfl ?_
        refine z_aload_n 0 dX12_foundRange_75 rfl rfl (Nat.le_of_ble_eq_true rfl) rfl ?_
        refine z_getI 12 (x := (h2 466 17)) fX12_370 rfl dX12_foundRange_76 (by simp [zup]) rfl ?_
        refine z_iload_n 2 dX12_foundRange_79 rfl rfl rfl ?_
        refine z_iconst dX12_foundRange_80 rfl ?_
        refine z_isub dX12_foundRange_81 rfl ?_
        obtain ⟨i9, k⟩ := k
        refine z_iast dX12_foundRange_82 (by rw [zl_470]; exact i9) rfl ?_
        refine z_aload_n 0 dX12_foundRange_83 rfl rfl (Nat.le_of_ble_eq_true rfl) rfl ?_
        refine z_dup dX12_foundRange_84 (fun q => by cases q) rfl ?_
        refine z_getI 12 (x := (h2 466 17)) fX12_370 rfl dX12_foundRange_85 (by simp [zup]) rfl ?_
        refine z_iconst dX12_foundRange_88 rfl ?_
        refine z_iadd dX12_foundRange_89 rfl ?_
        refine z_putI 12 gX12_370 dX12_foundRange_90 rfl ?_
        refine z_iload_n 2 dX12_foundRange_93 rfl rfl rfl ?_
        exact z_ireturn rfl dX12_foundRange_94 ⟨_, rfl, k⟩
    · have k := kb q
      refine z_iload_n 2 dX12_foundRange_17 rfl rfl rfl ?_
      refine z_iload_n 2 dX12_foundRange_18 rfl rfl rfl ?_
      refine z_bipush dX12_foundRange_19 rfl rfl ?_
      obtain ⟨i9, k⟩ := k
      refine z_irem dX12_foundRange_21 ⟨i9.1, i9.2, by decide, by decide⟩ rfl ?_
      obtain ⟨ka, kb⟩ := k
      refine z_if_ne (tgt := 46) dX12_foundRange_22 rfl (zR_mod _ (by decide)) rfl ⟨fun q => ?_, fun q => ?_⟩
      · have k := ka q
        refine z_iconst dX12_foundRange_46 rfl ?_
        refine z_iadd dX12_foundRange_47 rfl ?_
        refine z_istore_n 2 dX12_foundRange_48 rfl (Nat.le_of_ble_eq_true rfl) (L' := [some (vr 12 466), some (vi l1), some (vi (l2 + 1))]) rfl rfl ?_
        refine z_goto (tgt := 2) dX12_foundRange_49 rfl ?_
        exact z_sub (L' := [some (vr 12 466), some (vi l1), some (vi (l2 + 1))]) (And.intro rfl (And.intro rfl (And.intro rfl trivial))) k
      · have k := kb q
        refine z_aload_n 0 dX12_foundRange_25 rfl rfl (Nat.le_of_ble_eq_true rfl) rfl ?_
        refine z_getF 12 14 (x := 468) fX12_17 rfl dX12_foundRange_26 rfl rfl ?_
        refine z_iload_n 2 dX12_foundRange_29 rfl rfl rfl ?_
        refine z_bipush dX12_foundRange_30 rfl rfl ?_
        obtain ⟨i9, k⟩ := k
        refine z_idiv dX12_foundRange_32 ⟨i9.1, i9.2, by decide, by decide⟩ rfl ?_
        obtain ⟨i9, k⟩ := k
        refine z_lald (x := (h2 468 (l2 / 64))) dX12_foundRange_33 (by rw [zl_468]; exact i9) rfl rfl ?_
        refine z_ldc2 (x := (-1)) cX12_304 rfl dX12_foundRange_34 rfl ?_
        refine z_lcmp dX12_foundRange_37 rfl ?_
        obtain ⟨ka, kb⟩ := k
        refine z_if_ne (tgt := 46) dX12_foundRange_38 rfl (zcmp_R _ _) rfl ⟨fun q => ?_, fun q => ?_⟩
        · have k := ka q
          refine z_iconst dX12_foundRange_46 rfl ?_
          refine z_iadd dX12_foundRange_47 rfl ?_
          refine z_istore_n 2 dX12_foundRange_48 rfl (Nat.le_of_ble_eq_true rfl) (L' := [some (vr 12 466), some (vi l1), some (vi (l2 + 1))]) rfl rfl ?_
          refine z_goto (tgt := 2) dX12_foundRange_49 rfl ?_
          exact z_sub (L' := [some (vr 12 466), some (vi l1), some (vi (l2 + 1))]) (And.intro rfl (And.intro rfl (And.intro rfl trivial))) k
        · have k := kb q
          refine z_bipush dX12_foundRange_41 rfl rfl ?_
          refine z_goto (tgt := 47) dX12_foundRange_43 rfl ?_
          refine z_iadd dX12_foundRange_47 rfl ?_
          refine z_istore_n 2 dX12_foundRange_48 rfl (Nat.le_of_ble_eq_true rfl) (L' := [some (vr 12 466), some (vi l1), some (vi (l2 + 64))]) rfl rfl ?_
          refine z_goto (tgt := 2) dX12_foundRange_49 rfl ?_
          exact z_sub (L' := [some (vr 12 466), some (vi l1), some (vi (l2 + 64))]) (And.intro rfl (And.intro rfl (And.intro rfl trivial))) k
theorem eX12_foundRange {G : zG} {d : Nat} {K : Int → zH → Prop} {l1 : Int} {h : zH} (k : tX12_foundRange_0 G d K l1 h) : zCi G (d + 1) mX12_foundRange [vr 12 466, vi l1] h K := z_entry (by decide +kernel) (Nat.le_of_ble_eq_true rfl) rfl k
def tX12_readAll_0 (G : zG) (d : Nat) (K : zH → Prop) (h : zH) : Prop := zTv G (d + 1) mX12_readAll K 0 [some (vr 12 466), none] [] h
def tX12_readAll_4 (G : zG) (d : Nat) (K : zH → Prop) (h : zH) : Prop := zTv G (d + 1) mX12_readAll K 4 [some (vr 12 466), none] [] h
def tX12_readAll_48 (G : zG) (d : Nat) (K : zH → Prop) (l1 : Int) (h : zH) : Prop := zTv G (d + 1) mX12_readAll K 48 [some (vr 12 466), some (vi l1)] [] h
theorem bX12_readAll_0 {G : zG} {d : Nat} {K : zH → Prop} {h : zH} (k : zCv G d mX12_readLine [vr 12 466] h (fun h2 => tX12_readAll_4 G d K h2)) : tX12_readAll_0 G d K h := by
  unfold tX12_readAll_0
  refine z_aload_n 0 dX12_readAll_0 rfl rfl (Nat.le_of_ble_eq_true rfl) rfl ?_
  refine z_callVv vX12_readLine kX12_380 dX12_readAll_1 rfl (zRo_d d) (as := []) (rest := []) (Nat.le_of_ble_eq_true rfl) rfl rfl (zCv_mono (fun h2 k => ?_) k)
  exact z_sub (L' := [some (vr 12 466), none]) (And.intro rfl trivial) k
theorem bX12_readAll_4 {G : zG} {d : Nat} {K : zH → Prop} {h : zH} (k : zCb G d mX12_passes [vr 12 466, vi 59] h (fun x1 h2 => (x1 = false → zR (h2 466 7) ∧ ((h2 466 7) = 1 → zR (h2 466 35) ∧ (¬ (h2 466 35) = 0 → tX12_readAll_48 G d K 0 h2) ∧ ((h2 466 35) = 0 → zCv G d mX12_wrong [vr 12 466, vi 7] h2 (fun h4 => tX12_readAll_48 G d K 0 h4))) ∧ (¬ (h2 466 7) = 1 → zCv G d mX12_wrong [vr 12 466, vi 1] h2 (fun h6 => zR (h6 466 35) ∧ (¬ (h6 466 35) = 0 → tX12_readAll_48 G d K 0 h6) ∧ ((h6 466 35) = 0 → zCv G d mX12_wrong [vr 12 466, vi 7] h6 (fun h8 => tX12_readAll_48 G d K 0 h8))))) ∧ (x1 = true → zCv G d mX12_readLine [vr 12 466] h2 (fun h10 => tX12_readAll_4 G d K h10)))) : tX12_readAll_4 G d K h := by
  unfold tX12_readAll_4
  refine z_aload_n 0 dX12_readAll_4 rfl rfl (Nat.le_of_ble_eq_true rfl) rfl ?_
  refine z_bipush dX12_readAll_5 rfl rfl ?_
  refine z_callVb vX12_passes kX12_265 dX12_readAll_7 rfl (zRo_d d) (as := [vi 59]) (rest := []) (Nat.le_of_ble_eq_true rfl) rfl rfl (zCb_mono (fun x1 h2 k => ?_) k)
  obtain ⟨ka, kb⟩ := k
  refine z_ifb_eq (tgt := 20) dX12_readAll_10 rfl rfl ⟨fun q => ?_, fun q => ?_⟩
  · have k := ka q
    refine z_aload_n 0 dX12_readAll_20 rfl rfl (Nat.le_of_ble_eq_true rfl) rfl ?_
    refine z_getI 12 (x := (h2 466 7)) fX12_220 rfl dX12_readAll_21 rfl rfl ?_
    refine z_iconst dX12_readAll_24 rfl ?_
    obtain ⟨r1, ka, kb⟩ := k
    refine z_icmp_eq (tgt := 33) dX12_readAll_25 rfl r1 ⟨by decide, by decide⟩ rfl ⟨fun q => ?_, fun q => ?_⟩
    · have k := ka q
      refine z_aload_n 0 dX12_readAll_33 rfl rfl (Nat.le_of_ble_eq_true rfl) rfl ?_
      refine z_getI 12 (x := (h2 466 35)) fX12_383 rfl dX12_readAll_34 rfl rfl ?_
      obtain ⟨r1, ka, kb⟩ := k
      refine z_if_ne (tgt := 46) dX12_readAll_37 rfl r1 rfl ⟨fun q => ?_, fun q => ?_⟩
      · have k := ka q
        refine z_iconst dX12_readAll_46 rfl ?_
        refine z_istore_n 1 dX12_readAll_47 rfl (Nat.le_of_ble_eq_true rfl) (L' := [some (vr 12 466), some (vi 0)]) rfl rfl ?_
        exact z_sub (L' := [some (vr 12 466), some (vi 0)]) (And.intro rfl (And.intro rfl trivial)) k
      · have k := kb q
        refine z_aload_n 0 dX12_readAll_40 rfl rfl (Nat.le_of_ble_eq_true rfl) rfl ?_
        refine z_bipush dX12_readAll_41 rfl rfl ?_
        refine z_callVv vX12_wrong kX12_268 dX12_readAll_43 rfl (zRo_d d) (as := [vi 7]) (rest := []) (Nat.le_of_ble_eq_true rfl) rfl rfl (zCv_mono (fun h4 k => ?_) k)
        refine z_iconst dX12_readAll_46 rfl ?_
        refine z_istore_n 1 dX12_readAll_47 rfl (Nat.le_of_ble_eq_true rfl) (L' := [some (vr 12 466), some (vi 0)]) rfl rfl ?_
        exact z_sub (L' := [some (vr 12 466), some (vi 0)]) (And.intro rfl (And.intro rfl trivial)) k
    · have k := kb q
      refine z_aload_n 0 dX12_readAll_28 rfl rfl (Nat.le_of_ble_eq_true rfl) rfl ?_
      refine z_iconst dX12_readAll_29 rfl ?_
      refine z_callVv vX12_wrong kX12_268 dX12_readAll_30 rfl (zRo_d d) (as := [vi 1]) (rest := []) (Nat.le_of_ble_eq_true rfl) rfl rfl (zCv_mono (fun h6 k => ?_) k)
      refine z_aload_n 0 dX12_readAll_33 rfl rfl (Nat.le_of_ble_eq_true rfl) rfl ?_
      refine z_getI 12 (x := (h6 466 35)) fX12_383 rfl dX12_readAll_34 rfl rfl ?_
      obtain ⟨r1, ka, kb⟩ := k
      refine z_if_ne (tgt := 46) dX12_readAll_37 rfl r1 rfl ⟨fun q => ?_, fun q => ?_⟩
      · have k := ka q
        refine z_iconst dX12_readAll_46 rfl ?_
        refine z_istore_n 1 dX12_readAll_47 rfl (Nat.le_of_ble_eq_true rfl) (L' := [some (vr 12 466), some (vi 0)]) rfl rfl ?_
        exact z_sub (L' := [some (vr 12 466), some (vi 0)]) (And.intro rfl (And.intro rfl trivial)) k
      · have k := kb q
        refine z_aload_n 0 dX12_readAll_40 rfl rfl (Nat.le_of_ble_eq_true rfl) rfl ?_
        refine z_bipush dX12_readAll_41 rfl rfl ?_
        refine z_callVv vX12_wrong kX12_268 dX12_readAll_43 rfl (zRo_d d) (as := [vi 7]) (rest := []) (Nat.le_of_ble_eq_true rfl) rfl rfl (zCv_mono (fun h8 k => ?_) k)
        refine z_iconst dX12_readAll_46 rfl ?_
        refine z_istore_n 1 dX12_readAll_47 rfl (Nat.le_of_ble_eq_true rfl) (L' := [some (vr 12 466), some (vi 0)]) rfl rfl ?_
        exact z_sub (L' := [some (vr 12 466), some (vi 0)]) (And.intro rfl (And.intro rfl trivial)) k
  · have k := kb q
    refine z_aload_n 0 dX12_readAll_13 rfl rfl (Nat.le_of_ble_eq_true rfl) rfl ?_
    refine z_callVv vX12_readLine kX12_380 dX12_readAll_14 rfl (zRo_d d) (as := []) (rest := []) (Nat.le_of_ble_eq_true rfl) rfl rfl (zCv_mono (fun h10 k => ?_) k)
    refine z_goto (tgt := 4) dX12_readAll_17 rfl ?_
    exact z_sub (L' := [some (vr 12 466), none]) (And.intro rfl trivial) k
theorem bX12_readAll_48 {G : zG} {d : Nat} {K : zH → Prop} {l1 : Int} {h : zH} (k : zR l1 ∧ zR (h 466 35) ∧ ((h 466 35) ≤ l1 → K h) ∧ (¬ (h 466 35) ≤ l1 → zR (h 466 10) ∧ (¬ (h 466 10) = 0 → K h) ∧ ((h 466 10) = 0 → zCv G d mX12_buildsTold [vr 12 466, vi l1] h (fun h2 => zCb G d mX12_settles [vr 12 466, vi (10 + l1)] h2 (fun x3 h4 => (x3 = true → tX12_readAll_48 G d K (l1 + 1) h4) ∧ (x3 = false → zCv G d mX12_wrong [vr 12 466, vi 8] h4 (fun h6 => tX12_readAll_48 G d K (l1 + 1) h6))))))) : tX12_readAll_48 G d K l1 h := by
  unfold tX12_readAll_48
  refine z_iload_n 1 dX12_readAll_48 rfl rfl rfl ?_
  refine z_aload_n 0 dX12_readAll_49 rfl rfl (Nat.le_of_ble_eq_true rfl) rfl ?_
  refine z_getI 12 (x := (h 466 35)) fX12_383 rfl dX12_readAll_50 rfl rfl ?_
  obtain ⟨r1, r2, ka, kb⟩ := k
  refine z_icmp_ge (tgt := 91) dX12_readAll_53 rfl r1 r2 rfl ⟨fun q => ?_, fun q => ?_⟩
  · have k := ka q
    exact z_return rfl dX12_readAll_91 ⟨rfl, k⟩
  · have k := kb q
    refine z_aload_n 0 dX12_readAll_56 rfl rfl (Nat.le_of_ble_eq_true rfl) rfl ?_
    refine z_getI 12 (x := (h 466 10)) fX12_208 rfl dX12_readAll_57 rfl rfl ?_
    obtain ⟨r1, ka, kb⟩ := k
    refine z_if_ne (tgt := 91) dX12_readAll_60 rfl r1 rfl ⟨fun q => ?_, fun q => ?_⟩
    · have k := ka q
      exact z_return rfl dX12_readAll_91 ⟨rfl, k⟩
    · have k := kb q
      refine z_aload_n 0 dX12_readAll_63 rfl rfl (Nat.le_of_ble_eq_true rfl) rfl ?_
      refine z_iload_n 1 dX12_readAll_64 rfl rfl rfl ?_
      refine z_callVv vX12_buildsTold kX12_386 dX12_readAll_65 rfl (zRo_d d) (as := [vi l1]) (rest := []) (Nat.le_of_ble_eq_true rfl) rfl rfl (zCv_mono (fun h2 k => ?_) k)
      refine z_aload_n 0 dX12_readAll_68 rfl rfl (Nat.le_of_ble_eq_true rfl) rfl ?_
      refine z_bipush dX12_readAll_69 rfl rfl ?_
      refine z_iload_n 1 dX12_readAll_71 rfl rfl rfl ?_
      refine z_iadd dX12_readAll_72 rfl ?_
      refine z_callVb vX12_settles kX12_389 dX12_readAll_73 rfl (zRo_d d) (as := [vi (10 + l1)]) (rest := []) (Nat.le_of_ble_eq_true rfl) rfl rfl (zCb_mono (fun x3 h4 k => ?_) k)
      obtain ⟨ka, kb⟩ := k
      refine z_ifb_ne (tgt := 85) dX12_readAll_76 rfl rfl ⟨fun q => ?_, fun q => ?_⟩
      · have k := ka q
        refine z_iinc dX12_readAll_85 rfl (Nat.le_of_ble_eq_true rfl) (L' := [some (vr 12 466), some (vi (l1 + 1))]) rfl rfl ?_
        refine z_goto (tgt := 48) dX12_readAll_88 rfl ?_
        exact z_sub (L' := [some (vr 12 466), some (vi (l1 + 1))]) (And.intro rfl (And.intro rfl trivial)) k
      · have k := kb q
        refine z_aload_n 0 dX12_readAll_79 rfl rfl (Nat.le_of_ble_eq_true rfl) rfl ?_
        refine z_bipush dX12_readAll_80 rfl rfl ?_
        refine z_callVv vX12_wrong kX12_268 dX12_readAll_82 rfl (zRo_d d) (as := [vi 8]) (rest := []) (Nat.le_of_ble_eq_true rfl) rfl rfl (zCv_mono (fun h6 k => ?_) k)
        refine z_iinc dX12_readAll_85 rfl (Nat.le_of_ble_eq_true rfl) (L' := [some (vr 12 466), some (vi (l1 + 1))]) rfl rfl ?_
        refine z_goto (tgt := 48) dX12_readAll_88 rfl ?_
        exact z_sub (L' := [some (vr 12 466), some (vi (l1 + 1))]) (And.intro rfl (And.intro rfl trivial)) k
theorem eX12_readAll {G : zG} {d : Nat} {K : zH → Prop} {h : zH} (k : tX12_readAll_0 G d K h) : zCv G (d + 1) mX12_readAll [vr 12 466] h K := z_entry (by decide +kernel) (Nat.le_of_ble_eq_true rfl) rfl k
def tX12_readLine_0 (G : zG) (d : Nat) (K : zH → Prop) (h : zH) : Prop := zTv G (d + 1) mX12_readLine K 0 [some (vr 12 466)] [] h
theorem bX12_readLine_0 {G : zG} {d : Nat} {K : zH → Prop} {h : zH} (k : zCb G d mX12_isWord [vr 12 466, (40, 0)] h (fun x1 h2 => (x1 = false → zCb G d mX12_isWord [vr 12 466, (40, 1)] h2 (fun x3 h4 => (x3 = false → zCb G d mX12_isWord [vr 12 466, (40, 2)] h4 (fun x5 h6 => (x5 = false → zCb G d mX12_isWord [vr 12 466, (40, 3)] h6 (fun x7 h8 => (x7 = false → zCb G d mX12_isWord [vr 12 466, (40, 4)] h8 (fun x9 h10 => (x9 = false → zCv G d mX12_wrong [vr 12 466, vi 1] h10 (fun h12 => K h12)) ∧ (x9 = true → zCv G d mX12_readEnd [vr 12 466] h10 (fun h14 => K h14)))) ∧ (x7 = true → zCv G d mX12_readFree [vr 12 466] h8 (fun h16 => K h16)))) ∧ (x5 = true → zCv G d mX12_readEdge [vr 12 466] h6 (fun h18 => K h18)))) ∧ (x3 = true → zCv G d mX12_readMachine [vr 12 466] h4 (fun h20 => K h20)))) ∧ (x1 = true → zCv G d mX12_readSetLine [vr 12 466] h2 (fun h22 => K h22)))) : tX12_readLine_0 G d K h := by
  unfold tX12_readLine_0
  refine z_aload_n 0 dX12_readLine_0 rfl rfl (Nat.le_of_ble_eq_true rfl) rfl ?_
  refine z_ldcwS (k := 0) (tx := "set") (x := 0) (by decide +kernel) (by decide) rfl dX12_readLine_1 rfl ?_
  refine z_callVb vX12_isWord kX12_287 dX12_readLine_4 rfl (zRo_d d) (as := [(40, 0)]) (rest := []) (Nat.le_of_ble_eq_true rfl) rfl rfl (zCb_mono (fun x1 h2 k => ?_) k)
  obtain ⟨ka, kb⟩ := k
  refine z_ifb_eq (tgt := 17) dX12_readLine_7 rfl rfl ⟨fun q => ?_, fun q => ?_⟩
  · have k := ka q
    refine z_aload_n 0 dX12_readLine_17 rfl rfl (Nat.le_of_ble_eq_true rfl) rfl ?_
    refine z_ldcwS (k := 1) (tx := "machine") (x := 1) (by decide +kernel) (by decide) rfl dX12_readLine_18 rfl ?_
    refine z_callVb vX12_isWord kX12_287 dX12_readLine_21 rfl (zRo_d d) (as := [(40, 1)]) (rest := []) (Nat.le_of_ble_eq_true rfl) rfl rfl (zCb_mono (fun x3 h4 k => ?_) k)
    obtain ⟨ka, kb⟩ := k
    refine z_ifb_eq (tgt := 34) dX12_readLine_24 rfl rfl ⟨fun q => ?_, fun q => ?_⟩
    · have k := ka q
      refine z_aload_n 0 dX12_readLine_34 rfl rfl (Nat.le_of_ble_eq_true rfl) rfl ?_
      refine z_ldcwS (k := 2) (tx := "edge") (x := 2) (by decide +kernel) (by decide) rfl dX12_readLine_35 rfl ?_
      refine z_callVb vX12_isWord kX12_287 dX12_readLine_38 rfl (zRo_d d) (as := [(40, 2)]) (rest := []) (Nat.le_of_ble_eq_true rfl) rfl rfl (zCb_mono (fun x5 h6 k => ?_) k)
      obtain ⟨ka, kb⟩ := k
      refine z_ifb_eq (tgt := 51) dX12_readLine_41 rfl rfl ⟨fun q => ?_, fun q => ?_⟩
      · have k := ka q
        refine z_aload_n 0 dX12_readLine_51 rfl rfl (Nat.le_of_ble_eq_true rfl) rfl ?_
        refine z_ldcwS (k := 3) (tx := "free") (x := 3) (by decide +kernel) (by decide) rfl dX12_readLine_52 rfl ?_
        refine z_callVb vX12_isWord kX12_287 dX12_readLine_55 rfl (zRo_d d) (as := [(40, 3)]) (rest := []) (Nat.le_of_ble_eq_true rfl) rfl rfl (zCb_mono (fun x7 h8 k => ?_) k)
        obtain ⟨ka, kb⟩ := k
        refine z_ifb_eq (tgt := 68) dX12_readLine_58 rfl rfl ⟨fun q => ?_, fun q => ?_⟩
        · have k := ka q
          refine z_aload_n 0 dX12_readLine_68 rfl rfl (Nat.le_of_ble_eq_true rfl) rfl ?_
          refine z_ldcwS (k := 4) (tx := "end") (x := 4) (by decide +kernel) (by decide) rfl dX12_readLine_69 rfl ?_
          refine z_callVb vX12_isWord kX12_287 dX12_readLine_72 rfl (zRo_d d) (as := [(40, 4)]) (rest := []) (Nat.le_of_ble_eq_true rfl) rfl rfl (zCb_mono (fun x9 h10 k => ?_) k)
          obtain ⟨ka, kb⟩ := k
          refine z_ifb_eq (tgt := 85) dX12_readLine_75 rfl rfl ⟨fun q => ?_, fun q => ?_⟩
          · have k := ka q
            refine z_aload_n 0 dX12_readLine_85 rfl rfl (Nat.le_of_ble_eq_true rfl) rfl ?_
            refine z_iconst dX12_readLine_86 rfl ?_
            refine z_callVv vX12_wrong kX12_268 dX12_readLine_87 rfl (zRo_d d) (as := [vi 1]) (rest := []) (Nat.le_of_ble_eq_true rfl) rfl rfl (zCv_mono (fun h12 k => ?_) k)
            exact z_return rfl dX12_readLine_90 ⟨rfl, k⟩
          · have k := kb q
            refine z_aload_n 0 dX12_readLine_78 rfl rfl (Nat.le_of_ble_eq_true rfl) rfl ?_
            refine z_callVv vX12_readEnd kX12_404 dX12_readLine_79 rfl (zRo_d d) (as := []) (rest := []) (Nat.le_of_ble_eq_true rfl) rfl rfl (zCv_mono (fun h14 k => ?_) k)
            refine z_goto (tgt := 90) dX12_readLine_82 rfl ?_
            exact z_return rfl dX12_readLine_90 ⟨rfl, k⟩
        · have k := kb q
          refine z_aload_n 0 dX12_readLine_61 rfl rfl (Nat.le_of_ble_eq_true rfl) rfl ?_
          refine z_callVv vX12_readFree kX12_401 dX12_readLine_62 rfl (zRo_d d) (as := []) (rest := []) (Nat.le_of_ble_eq_true rfl) rfl rfl (zCv_mono (fun h16 k => ?_) k)
          refine z_goto (tgt := 90) dX12_readLine_65 rfl ?_
          exact z_return rfl dX12_readLine_90 ⟨rfl, k⟩
      · have k := kb q
        refine z_aload_n 0 dX12_readLine_44 rfl rfl (Nat.le_of_ble_eq_true rfl) rfl ?_
        refine z_callVv vX12_readEdge kX12_398 dX12_readLine_45 rfl (zRo_d d) (as := []) (rest := []) (Nat.le_of_ble_eq_true rfl) rfl rfl (zCv_mono (fun h18 k => ?_) k)
        refine z_goto (tgt := 90) dX12_readLine_48 rfl ?_
        exact z_return rfl dX12_readLine_90 ⟨rfl, k⟩
    · have k := kb q
      refine z_aload_n 0 dX12_readLine_27 rfl rfl (Nat.le_of_ble_eq_true rfl) rfl ?_
      refine z_callVv vX12_readMachine kX12_395 dX12_readLine_28 rfl (zRo_d d) (as := []) (rest := []) (Nat.le_of_ble_eq_true rfl) rfl rfl (zCv_mono (fun h20 k => ?_) k)
      refine z_goto (tgt := 90) dX12_readLine_31 rfl ?_
      exact z_return rfl dX12_readLine_90 ⟨rfl, k⟩
  · have k := kb q
    refine z_aload_n 0 dX12_readLine_10 rfl rfl (Nat.le_of_ble_eq_true rfl) rfl ?_
    refine z_callVv vX12_readSetLine kX12_392 dX12_readLine_11 rfl (zRo_d d) (as := []) (rest := []) (Nat.le_of_ble_eq_true rfl) rfl rfl (zCv_mono (fun h22 k => ?_) k)
    refine z_goto (tgt := 90) dX12_readLine_14 rfl ?_
    exact z_return rfl dX12_readLine_90 ⟨rfl, k⟩
theorem eX12_readLine {G : zG} {d : Nat} {K : zH → Prop} {h : zH} (k : tX12_readLine_0 G d K h) : zCv G (d + 1) mX12_readLine [vr 12 466] h K := z_entry (by decide +kernel) (Nat.le_of_ble_eq_true rfl) rfl k
def tX12_readSetLine_0 (G : zG) (d : Nat) (K : zH → Prop) (h : zH) : Prop := zTv G (d + 1) mX12_readSetLine K 0 [some (vr 12 466), none, none] [] h
def tX12_readSetLine_14 (G : zG) (d : Nat) (K : zH → Prop) (h : zH) : Prop := zTv G (d + 1) mX12_readSetLine K 14 [some (vr 12 466), none, none] [] h
def tX12_readSetLine_30 (G : zG) (d : Nat) (K : zH → Prop) (h : zH) : Prop := zTv G (d + 1) mX12_readSetLine K 30 [some (vr 12 466), none, none] [] h
def tX12_readSetLine_50 (G : zG) (d : Nat) (K : zH → Prop) (h : zH) : Prop := zTv G (d + 1) mX12_readSetLine K 50 [some (vr 12 466), none, none] [] h
theorem bX12_readSetLine_0 {G : zG} {d : Nat} {K : zH → Prop} {h : zH} (k : zR (h 466 23) ∧ (¬ (h 466 23) = 12 → tX12_readSetLine_14 G d K h) ∧ ((h 466 23) = 12 → zCv G d mX12_wrong [vr 12 466, vi 5] h (fun h2 => tX12_readSetLine_14 G d K h2))) : tX12_readSetLine_0 G d K h := by
  unfold tX12_readSetLine_0
  refine z_aload_n 0 dX12_readSetLine_0 rfl rfl (Nat.le_of_ble_eq_true rfl) rfl ?_
  refine z_getI 12 (x := (h 466 23)) fX12_363 rfl dX12_readSetLine_1 rfl rfl ?_
  refine z_bipush dX12_readSetLine_4 rfl rfl ?_
  obtain ⟨r1, ka, kb⟩ := k
  refine z_icmp_ne (tgt := 14) dX12_readSetLine_6 rfl r1 ⟨by decide, by decide⟩ rfl ⟨fun q => ?_, fun q => ?_⟩
  · have k := ka q
    exact z_sub (L' := [some (vr 12 466), none, none]) (And.intro rfl trivial) k
  · have k := kb q
    refine z_aload_n 0 dX12_readSetLine_9 rfl rfl (Nat.le_of_ble_eq_true rfl) rfl ?_
    refine z_iconst dX12_readSetLine_10 rfl ?_
    refine z_callVv vX12_wrong kX12_268 dX12_readSetLine_11 rfl (zRo_d d) (as := [vi 5]) (rest := []) (Nat.le_of_ble_eq_true rfl) rfl rfl (zCv_mono (fun h2 k => ?_) k)
    exact z_sub (L' := [some (vr 12 466), none, none]) (And.intro rfl trivial) k
theorem bX12_readSetLine_14 {G : zG} {d : Nat} {K : zH → Prop} {h : zH} (k : zCv G d mX12_next [vr 12 466] h (fun h2 => zCb G d mX12_isName [vr 12 466] h2 (fun x3 h4 => (x3 = true → tX12_readSetLine_30 G d K h4) ∧ (x3 = false → zCv G d mX12_wrong [vr 12 466, vi 1] h4 (fun h6 => tX12_readSetLine_30 G d K h6))))) : tX12_readSetLine_14 G d K h := by
  unfold tX12_readSetLine_14
  refine z_aload_n 0 dX12_readSetLine_14 rfl rfl (Nat.le_of_ble_eq_true rfl) rfl ?_
  refine z_callVv vX12_next kX12_262 dX12_readSetLine_15 rfl (zRo_d d) (as := []) (rest := []) (Nat.le_of_ble_eq_true rfl) rfl rfl (zCv_mono (fun h2 k => ?_) k)
  refine z_aload_n 0 dX12_readSetLine_18 rfl rfl (Nat.le_of_ble_eq_true rfl) rfl ?_
  refine z_callVb vX12_isName kX12_357 dX12_readSetLine_19 rfl (zRo_d d) (as := []) (rest := []) (Nat.le_of_ble_eq_true rfl) rfl rfl (zCb_mono (fun x3 h4 k => ?_) k)
  obtain ⟨ka, kb⟩ := k
  refine z_ifb_ne (tgt := 30) dX12_readSetLine_22 rfl rfl ⟨fun q => ?_, fun q => ?_⟩
  · have k := ka q
    exact z_sub (L' := [some (vr 12 466), none, none]) (And.intro rfl trivial) k
  · have k := kb q
    refine z_aload_n 0 dX12_readSetLine_25 rfl rfl (Nat.le_of_ble_eq_true rfl) rfl ?_
    refine z_iconst dX12_readSetLine_26 rfl ?_
    refine z_callVv vX12_wrong kX12_268 dX12_readSetLine_27 rfl (zRo_d d) (as := [vi 1]) (rest := []) (Nat.le_of_ble_eq_true rfl) rfl rfl (zCv_mono (fun h6 k => ?_) k)
    exact z_sub (L' := [some (vr 12 466), none, none]) (And.intro rfl trivial) k
theorem bX12_readSetLine_30 {G : zG} {d : Nat} {K : zH → Prop} {h : zH} (k : zR (h 466 10) ∧ (¬ (h 466 10) = 0 → tX12_readSetLine_50 G d K h) ∧ ((h 466 10) = 0 → zCi G d mX12_named [vr 12 466] h (fun x1 h2 => zR x1 ∧ (x1 = (-1) → tX12_readSetLine_50 G d K h2) ∧ (¬ x1 = (-1) → zCv G d mX12_wrong [vr 12 466, vi 3] h2 (fun h4 => tX12_readSetLine_50 G d K h4))))) : tX12_readSetLine_30 G d K h := by
  unfold tX12_readSetLine_30
  refine z_aload_n 0 dX12_readSetLine_30 rfl rfl (Nat.le_of_ble_eq_true rfl) rfl ?_
  refine z_getI 12 (x := (h 466 10)) fX12_208 rfl dX12_readSetLine_31 rfl rfl ?_
  obtain ⟨r1, ka, kb⟩ := k
  refine z_if_ne (tgt := 50) dX12_readSetLine_34 rfl r1 rfl ⟨fun q => ?_, fun q => ?_⟩
  · have k := ka q
    exact z_sub (L' := [some (vr 12 466), none, none]) (And.intro rfl trivial) k
  · have k := kb q
    refine z_aload_n 0 dX12_readSetLine_37 rfl rfl (Nat.le_of_ble_eq_true rfl) rfl ?_
    refine z_callVi vX12_named kX12_360 dX12_readSetLine_38 rfl (zRo_d d) (as := []) (rest := []) (Nat.le_of_ble_eq_true rfl) rfl rfl (zCi_mono (fun x1 h2 k => ?_) k)
    refine z_iconst dX12_readSetLine_41 rfl ?_
    obtain ⟨r1, ka, kb⟩ := k
    refine z_icmp_eq (tgt := 50) dX12_readSetLine_42 rfl r1 ⟨by decide, by decide⟩ rfl ⟨fun q => ?_, fun q => ?_⟩
    · have k := ka q
      exact z_sub (L' := [some (vr 12 466), none, none]) (And.intro rfl trivial) k
    · have k := kb q
      refine z_aload_n 0 dX12_readSetLine_45 rfl rfl (Nat.le_of_ble_eq_true rfl) rfl ?_
      refine z_iconst dX12_readSetLine_46 rfl ?_
      refine z_callVv vX12_wrong kX12_268 dX12_readSetLine_47 rfl (zRo_d d) (as := [vi 3]) (rest := []) (Nat.le_of_ble_eq_true rfl) rfl rfl (zCv_mono (fun h4 k => ?_) k)
      exact z_sub (L' := [some (vr 12 466), none, none]) (And.intro rfl trivial) k
theorem bX12_readSetLine_50 {G : zG} {d : Nat} {K : zH → Prop} {h : zH} (k : zCv G d mX12_next [vr 12 466] h (fun h2 => zCv G d mX12_readSet [vr 12 466] h2 (fun h4 => zR (h4 466 10) ∧ ((h4 466 10) ≤ 0 → zCv G d mX12_keepsRanges [vr 12 466, vi (12 + (h4 466 23)), vr 13 471, vr 13 472, vr 13 473] h4 (fun h6 => ((0 : Int) ≤ (h6 466 23) ∧ (h6 466 23) < 12) ∧ K (zup (zup h6 474 (h6 466 23) (h 466 11)) 466 23 ((h6 466 23) + 1)))) ∧ (¬ (h4 466 10) ≤ 0 → K h4)))) : tX12_readSetLine_50 G d K h := by
  unfold tX12_readSetLine_50
  refine z_aload_n 0 dX12_readSetLine_50 rfl rfl (Nat.le_of_ble_eq_true rfl) rfl ?_
  refine z_getL 12 (x := (h 466 11)) fX12_246 rfl dX12_readSetLine_51 rfl rfl ?_
  refine z_lstore_n 1 dX12_readSetLine_54 rfl (Nat.le_of_ble_eq_true rfl) (L' := [some (vr 12 466), some (vl (h 466 11)), none]) rfl rfl ?_
  refine z_aload_n 0 dX12_readSetLine_55 rfl rfl (Nat.le_of_ble_eq_true rfl) rfl ?_
  refine z_callVv vX12_next kX12_262 dX12_readSetLine_56 rfl (zRo_d d) (as := []) (rest := []) (Nat.le_of_ble_eq_true rfl) rfl rfl (zCv_mono (fun h2 k => ?_) k)
  refine z_aload_n 0 dX12_readSetLine_59 rfl rfl (Nat.le_of_ble_eq_true rfl) rfl ?_
  refine z_callVv vX12_readSet kX12_407 dX12_readSetLine_60 rfl (zRo_d d) (as := []) (rest := []) (Nat.le_of_ble_eq_true rfl) rfl rfl (zCv_mono (fun h4 k => ?_) k)
  refine z_aload_n 0 dX12_readSetLine_63 rfl rfl (Nat.le_of_ble_eq_true rfl) rfl ?_
  refine z_getI 12 (x := (h4 466 10)) fX12_208 rfl dX12_readSetLine_64 rfl rfl ?_
  obtain ⟨r1, ka, kb⟩ := k
  refine z_if_le (tgt := 71) dX12_readSetLine_67 rfl r1 rfl ⟨fun q => ?_, fun q => ?_⟩
  · have k := ka q
    refine z_aload_n 0 dX12_readSetLine_71 rfl rfl (Nat.le_of_ble_eq_true rfl) rfl ?_
    refine z_bipush dX12_readSetLine_72 rfl rfl ?_
    refine z_aload_n 0 dX12_readSetLine_74 rfl rfl (Nat.le_of_ble_eq_true rfl) rfl ?_
    refine z_getI 12 (x := (h4 466 23)) fX12_363 rfl dX12_readSetLine_75 rfl rfl ?_
    refine z_iadd dX12_readSetLine_78 rfl ?_
    refine z_aload_n 0 dX12_readSetLine_79 rfl rfl (Nat.le_of_ble_eq_true rfl) rfl ?_
    refine z_getF 12 13 (x := 471) fX12_28 rfl dX12_readSetLine_80 rfl rfl ?_
    refine z_aload_n 0 dX12_readSetLine_83 rfl rfl (Nat.le_of_ble_eq_true rfl) rfl ?_
    refine z_getF 12 13 (x := 472) fX12_31 rfl dX12_readSetLine_84 rfl rfl ?_
    refine z_aload_n 0 dX12_readSetLine_87 rfl rfl (Nat.le_of_ble_eq_true rfl) rfl ?_
    refine z_getF 12 13 (x := 473) fX12_34 rfl dX12_readSetLine_88 rfl rfl ?_
    refine z_callVv vX12_keepsRanges kX12_410 dX12_readSetLine_91 rfl (zRo_d d) (as := [vi (12 + (h4 466 23)), vr 13 471, vr 13 472, vr 13 473]) (rest := []) (Nat.le_of_ble_eq_true rfl) rfl rfl (zCv_mono (fun h6 k => ?_) k)
    refine z_aload_n 0 dX12_readSetLine_94 rfl rfl (Nat.le_of_ble_eq_true rfl) rfl ?_
    refine z_getF 12 14 (x := 474) fX12_37 rfl dX12_readSetLine_95 rfl rfl ?_
    refine z_aload_n 0 dX12_readSetLine_98 rfl rfl (Nat.le_of_ble_eq_true rfl) rfl ?_
    refine z_getI 12 (x := (h6 466 23)) fX12_363 rfl dX12_readSetLine_99 rfl rfl ?_
    refine z_lload_n 1 dX12_readSetLine_102 rfl rfl rfl ?_
    obtain ⟨i9, k⟩ := k
    refine z_last dX12_readSetLine_103 (by rw [zl_474]; exact i9) rfl ?_
    refine z_aload_n 0 dX12_readSetLine_104 rfl rfl (Nat.le_of_ble_eq_true rfl) rfl ?_
    refine z_dup dX12_readSetLine_105 (fun q => by cases q) rfl ?_
    refine z_getI 12 (x := (h6 466 23)) fX12_363 rfl dX12_readSetLine_106 (by simp [zup]) rfl ?_
    refine z_iconst dX12_readSetLine_109 rfl ?_
    refine z_iadd dX12_readSetLine_110 rfl ?_
    refine z_putI 12 gX12_363 dX12_readSetLine_111 rfl ?_
    exact z_return rfl dX12_readSetLine_114 ⟨rfl, k⟩
  · have k := kb q
    exact z_return rfl dX12_readSetLine_70 ⟨rfl, k⟩
theorem eX12_readSetLine {G : zG} {d : Nat} {K : zH → Prop} {h : zH} (k : tX12_readSetLine_0 G d K h) : zCv G (d + 1) mX12_readSetLine [vr 12 466] h K := z_entry (by decide +kernel) (Nat.le_of_ble_eq_true rfl) rfl k
def tX12_keepsRanges_0 (G : zG) (d : Nat) (K : zH → Prop) (l1 : Int) (l2 : Int) (l3 : Int) (l4 : Int) (h : zH) : Prop := zTv G d mX12_keepsRanges K 0 [some (vr 12 466), some (vi l1), some (vr 13 l2), some (vr 13 l3), some (vr 13 l4), none] [] h
def tX12_keepsRanges_10 (G : zG) (d : Nat) (K : zH → Prop) (l1 : Int) (l3 : Int) (l4 : Int) (l5 : Int) (h : zH) : Prop := zTv G d mX12_keepsRanges K 10 [some (vr 12 466), some (vi l1), none, some (vr 13 l3), some (vr 13 l4), some (vi l5)] [] h
theorem bX12_keepsRanges_0 {G : zG} {d : Nat} {K : zH → Prop} {l1 : Int} {l2 : Int} {l3 : Int} {l4 : Int} {h : zH} (k : ((0 : Int) ≤ l1 ∧ l1 < zln l2) ∧ tX12_keepsRanges_10 G d K l1 l3 l4 0 (zup h l2 l1 (h 466 17))) : tX12_keepsRanges_0 G d K l1 l2 l3 l4 h := by
  unfold tX12_keepsRanges_0
  refine z_aload_n 2 dX12_keepsRanges_0 rfl rfl (Nat.le_of_ble_eq_true rfl) rfl ?_
  refine z_iload_n 1 dX12_keepsRanges_1 rfl rfl rfl ?_
  refine z_aload_n 0 dX12_keepsRanges_2 rfl rfl (Nat.le_of_ble_eq_true rfl) rfl ?_
  refine z_getI 12 (x := (h 466 17)) fX12_370 rfl dX12_keepsRanges_3 rfl rfl ?_
  obtain ⟨i9, k⟩ := k
  refine z_iast dX12_keepsRanges_6 i9 rfl ?_
  refine z_iconst dX12_keepsRanges_7 rfl ?_
  refine z_istore dX12_keepsRanges_8 (Nat.le_of_ble_eq_true rfl) (L' := [some (vr 12 466), some (vi l1), some (vr 13 l2), some (vr 13 l3), some (vr 13 l4), some (vi 0)]) rfl rfl ?_
  exact z_sub (L' := [some (vr 12 466), some (vi l1), none, some (vr 13 l3), some (vr 13 l4), some (vi 0)]) (And.intro rfl (And.intro rfl (And.intro rfl (And.intro rfl (And.intro rfl trivial))))) k
theorem bX12_keepsRanges_10 {G : zG} {d : Nat} {K : zH → Prop} {l1 : Int} {l3 : Int} {l4 : Int} {l5 : Int} {h : zH} (k : zR l5 ∧ zR (h 466 17) ∧ ((h 466 17) ≤ l5 → K h) ∧ (¬ (h 466 17) ≤ l5 → ((0 : Int) ≤ l5 ∧ l5 < 24) ∧ ((0 : Int) ≤ ((l1 * 24) + l5) ∧ ((l1 * 24) + l5) < zln l3) ∧ ((0 : Int) ≤ l5 ∧ l5 < 24) ∧ ((0 : Int) ≤ ((l1 * 24) + l5) ∧ ((l1 * 24) + l5) < zln l4) ∧ tX12_keepsRanges_10 G d K l1 l3 l4 (l5 + 1) (zup (zup h l3 ((l1 * 24) + l5) (h 469 l5)) l4 ((l1 * 24) + l5) ((zup h l3 ((l1 * 24) + l5) (h 469 l5)) 470 l5)))) : tX12_keepsRanges_10 G d K l1 l3 l4 l5 h := by
  unfold tX12_keepsRanges_10
  refine z_iload dX12_keepsRanges_10 rfl rfl ?_
  refine z_aload_n 0 dX12_keepsRanges_12 rfl rfl (Nat.le_of_ble_eq_true rfl) rfl ?_
  refine z_getI 12 (x := (h 466 17)) fX12_370 rfl dX12_keepsRanges_13 rfl rfl ?_
  obtain ⟨r1, r2, ka, kb⟩ := k
  refine z_icmp_ge (tgt := 58) dX12_keepsRanges_16 rfl r1 r2 rfl ⟨fun q => ?_, fun q => ?_⟩
  · have k := ka q
    exact z_return rfl dX12_keepsRanges_58 ⟨rfl, k⟩
  · have k := kb q
    refine z_aload_n 3 dX12_keepsRanges_19 rfl rfl (Nat.le_of_ble_eq_true rfl) rfl ?_
    refine z_iload_n 1 dX12_keepsRanges_20 rfl rfl rfl ?_
    refine z_bipush dX12_keepsRanges_21 rfl rfl ?_
    refine z_imul dX12_keepsRanges_23 rfl ?_
    refine z_iload dX12_keepsRanges_24 rfl rfl ?_
    refine z_iadd dX12_keepsRanges_26 rfl ?_
    refine z_aload_n 0 dX12_keepsRanges_27 rfl rfl (Nat.le_of_ble_eq_true rfl) rfl ?_
    refine z_getF 12 13 (x := 469) fX12_21 rfl dX12_keepsRanges_28 rfl rfl ?_
    refine z_iload dX12_keepsRanges_31 rfl rfl ?_
    obtain ⟨i9, k⟩ := k
    refine z_iald (x := (h 469 l5)) dX12_keepsRanges_33 (by rw [zl_469]; exact i9) rfl rfl ?_
    obtain ⟨i9, k⟩ := k
    refine z_iast dX12_keepsRanges_34 i9 rfl ?_
    refine z_aload dX12_keepsRanges_35 rfl (Nat.le_of_ble_eq_true rfl) rfl ?_
    refine z_iload_n 1 dX12_keepsRanges_37 rfl rfl rfl ?_
    refine z_bipush dX12_keepsRanges_38 rfl rfl ?_
    refine z_imul dX12_keepsRanges_40 rfl ?_
    refine z_iload dX12_keepsRanges_41 rfl rfl ?_
    refine z_iadd dX12_keepsRanges_43 rfl ?_
    refine z_aload_n 0 dX12_keepsRanges_44 rfl rfl (Nat.le_of_ble_eq_true rfl) rfl ?_
    refine z_getF 12 13 (x := 470) fX12_25 rfl dX12_keepsRanges_45 rfl rfl ?_
    refine z_iload dX12_keepsRanges_48 rfl rfl ?_
    obtain ⟨i9, k⟩ := k
    refine z_iald (x := ((zup h l3 ((l1 * 24) + l5) (h 469 l5)) 470 l5)) dX12_keepsRanges_50 (by rw [zl_470]; exact i9) rfl rfl ?_
    obtain ⟨i9, k⟩ := k
    refine z_iast dX12_keepsRanges_51 i9 rfl ?_
    refine z_iinc dX12_keepsRanges_52 rfl (Nat.le_of_ble_eq_true rfl) (L' := [some (vr 12 466), some (vi l1), none, some (vr 13 l3), some (vr 13 l4), some (vi (l5 + 1))]) rfl rfl ?_
    refine z_goto (tgt := 10) dX12_keepsRanges_55 rfl ?_
    exact z_sub (L' := [some (vr 12 466), some (vi l1), none, some (vr 13 l3), some (vr 13 l4), some (vi (l5 + 1))]) (And.intro rfl (And.intro rfl (And.intro rfl (And.intro rfl (And.intro rfl trivial))))) k
theorem eX12_keepsRanges {G : zG} {d : Nat} {K : zH → Prop} {l1 : Int} {l2 : Int} {l3 : Int} {l4 : Int} {h : zH} (k : tX12_keepsRanges_0 G d K l1 l2 l3 l4 h) : zCv G d mX12_keepsRanges [vr 12 466, vi l1, vr 13 l2, vr 13 l3, vr 13 l4] h K := z_entry (by decide +kernel) (Nat.le_of_ble_eq_true rfl) rfl k
def tX12_readMachine_0 (G : zG) (d : Nat) (K : zH → Prop) (h : zH) : Prop := zTv G (d + 1) mX12_readMachine K 0 [some (vr 12 466), none] [] h
theorem bX12_readMachine_0 {G : zG} {d : Nat} {K : zH → Prop} {h : zH} (k : zR (h 466 35) ∧ (¬ (h 466 35) = 4 → zCv G d mX12_next [vr 12 466] h (fun h2 => zCi G d mX12_whole [vr 12 466, vi 1, vi 12] h2 (fun x3 h4 => zR (h4 466 10) ∧ ((h4 466 10) ≤ 0 → ((0 : Int) ≤ (h4 466 35) ∧ (h4 466 35) < 4) ∧ ((0 : Int) ≤ (h4 466 35) ∧ (h4 466 35) < 4) ∧ ((0 : Int) ≤ (h4 466 35) ∧ (h4 466 35) < 4) ∧ ((0 : Int) ≤ (h4 466 35) ∧ (h4 466 35) < 4) ∧ K (zup (zup (zup (zup (zup h4 475 (h4 466 35) x3) 476 (h4 466 35) 0) 477 (h4 466 35) 0) 485 (h4 466 35) 0) 466 35 ((h4 466 35) + 1))) ∧ (¬ (h4 466 10) ≤ 0 → K h4)))) ∧ ((h 466 35) = 4 → zCv G d mX12_wrong [vr 12 466, vi 5] h (fun h6 => zCv G d mX12_next [vr 12 466] h6 (fun h8 => zCi G d mX12_whole [vr 12 466, vi 1, vi 12] h8 (fun x9 h10 => zR (h10 466 10) ∧ ((h10 466 10) ≤ 0 → ((0 : Int) ≤ (h10 466 35) ∧ (h10 466 35) < 4) ∧ ((0 : Int) ≤ (h10 466 35) ∧ (h10 466 35) < 4) ∧ ((0 : Int) ≤ (h10 466 35) ∧ (h10 466 35) < 4) ∧ ((0 : Int) ≤ (h10 466 35) ∧ (h10 466 35) < 4) ∧ K (zup (zup (zup (zup (zup h10 475 (h10 466 35) x9) 476 (h10 466 35) 0) 477 (h10 466 35) 0) 485 (h10 466 35) 0) 466 35 ((h10 466 35) + 1))) ∧ (¬ (h10 466 10) ≤ 0 → K h10)))))) : tX12_readMachine_0 G d K h := by
  unfold tX12_readMachine_0
  refine z_aload_n 0 dX12_readMachine_0 rfl rfl (Nat.le_of_ble_eq_true rfl) rfl ?_
  refine z_getI 12 (x := (h 466 35)) fX12_383 rfl dX12_readMachine_1 rfl rfl ?_
  refine z_iconst dX12_readMachine_4 rfl ?_
  obtain ⟨r1, ka, kb⟩ := k
  refine z_icmp_ne (tgt := 13) dX12_readMachine_5 rfl r1 ⟨by decide, by decide⟩ rfl ⟨fun q => ?_, fun q => ?_⟩
  · have k := ka q
    refine z_aload_n 0 dX12_readMachine_13 rfl rfl (Nat.le_of_ble_eq_true rfl) rfl ?_
    refine z_callVv vX12_next kX12_262 dX12_readMachine_14 rfl (zRo_d d) (as := []) (rest := []) (Nat.le_of_ble_eq_true rfl) rfl rfl (zCv_mono (fun h2 k => ?_) k)
    refine z_aload_n 0 dX12_readMachine_17 rfl rfl (Nat.le_of_ble_eq_true rfl) rfl ?_
    refine z_iconst dX12_readMachine_18 rfl ?_
    refine z_bipush dX12_readMachine_19 rfl rfl ?_
    refine z_callVi vX12_whole kX12_350 dX12_readMachine_21 rfl (zRo_d d) (as := [vi 1, vi 12]) (rest := []) (Nat.le_of_ble_eq_true rfl) rfl rfl (zCi_mono (fun x3 h4 k => ?_) k)
    refine z_istore_n 1 dX12_readMachine_24 rfl (Nat.le_of_ble_eq_true rfl) (L' := [some (vr 12 466), some (vi x3)]) rfl rfl ?_
    refine z_aload_n 0 dX12_readMachine_25 rfl rfl (Nat.le_of_ble_eq_true rfl) rfl ?_
    refine z_getI 12 (x := (h4 466 10)) fX12_208 rfl dX12_readMachine_26 rfl rfl ?_
    obtain ⟨r1, ka, kb⟩ := k
    refine z_if_le (tgt := 33) dX12_readMachine_29 rfl r1 rfl ⟨fun q => ?_, fun q => ?_⟩
    · have k := ka q
      refine z_aload_n 0 dX12_readMachine_33 rfl rfl (Nat.le_of_ble_eq_true rfl) rfl ?_
      refine z_getF 12 13 (x := 475) fX12_40 rfl dX12_readMachine_34 rfl rfl ?_
      refine z_aload_n 0 dX12_readMachine_37 rfl rfl (Nat.le_of_ble_eq_true rfl) rfl ?_
      refine z_getI 12 (x := (h4 466 35)) fX12_383 rfl dX12_readMachine_38 rfl rfl ?_
      refine z_iload_n 1 dX12_readMachine_41 rfl rfl rfl ?_
      obtain ⟨i9, k⟩ := k
      refine z_iast dX12_readMachine_42 (by rw [zl_475]; exact i9) rfl ?_
      refine z_aload_n 0 dX12_readMachine_43 rfl rfl (Nat.le_of_ble_eq_true rfl) rfl ?_
      refine z_getF 12 13 (x := 476) fX12_43 rfl dX12_readMachine_44 rfl rfl ?_
      refine z_aload_n 0 dX12_readMachine_47 rfl rfl (Nat.le_of_ble_eq_true rfl) rfl ?_
      refine z_getI 12 (x := (h4 466 35)) fX12_383 rfl dX12_readMachine_48 (by simp [zup]) rfl ?_
      refine z_iconst dX12_readMachine_51 rfl ?_
      obtain ⟨i9, k⟩ := k
      refine z_iast dX12_readMachine_52 (by rw [zl_476]; exact i9) rfl ?_
      refine z_aload_n 0 dX12_readMachine_53 rfl rfl (Nat.le_of_ble_eq_true rfl) rfl ?_
      refine z_getF 12 13 (x := 477) fX12_46 rfl dX12_readMachine_54 rfl rfl ?_
      refine z_aload_n 0 dX12_readMachine_57 rfl rfl (Nat.le_of_ble_eq_true rfl) rfl ?_
      refine z_getI 12 (x := (h4 466 35)) fX12_383 rfl dX12_readMachine_58 (by simp [zup]) rfl ?_
      refine z_iconst dX12_readMachine_61 rfl ?_
      obtain ⟨i9, k⟩ := k
      refine z_iast dX12_readMachine_62 (by rw [zl_477]; exact i9) rfl ?_
      refine z_aload_n 0 dX12_readMachine_63 rfl rfl (Nat.le_of_ble_eq_true rfl) rfl ?_
      refine z_getF 12 14 (x := 485) fX12_70 rfl dX12_readMachine_64 rfl rfl ?_
      refine z_aload_n 0 dX12_readMachine_67 rfl rfl (Nat.le_of_ble_eq_true rfl) rfl ?_
      refine z_getI 12 (x := (h4 466 35)) fX12_383 rfl dX12_readMachine_68 (by simp [zup]) rfl ?_
      refine z_lconst (x := 0) dX12_readMachine_71 rfl rfl ?_
      obtain ⟨i9, k⟩ := k
      refine z_last dX12_readMachine_72 (by rw [zl_485]; exact i9) rfl ?_
      refine z_aload_n 0 dX12_readMachine_73 rfl rfl (Nat.le_of_ble_eq_true rfl) rfl ?_
      refine z_dup dX12_readMachine_74 (fun q => by cases q) rfl ?_
      refine z_getI 12 (x := (h4 466 35)) fX12_383 rfl dX12_readMachine_75 (by simp [zup]) rfl ?_
      refine z_iconst dX12_readMachine_78 rfl ?_
      refine z_iadd dX12_readMachine_79 rfl ?_
      refine z_putI 12 gX12_383 dX12_readMachine_80 rfl ?_
      exact z_return rfl dX12_readMachine_83 ⟨rfl, k⟩
    · have k := kb q
      exact z_return rfl dX12_readMachine_32 ⟨rfl, k⟩
  · have k := kb q
    refine z_aload_n 0 dX12_readMachine_8 rfl rfl (Nat.le_of_ble_eq_true rfl) rfl ?_
    refine z_iconst dX12_readMachine_9 rfl ?_
    refine z_callVv vX12_wrong kX12_268 dX12_readMachine_10 rfl (zRo_d d) (as := [vi 5]) (rest := []) (Nat.le_of_ble_eq_true rfl) rfl rfl (zCv_mono (fun h6 k => ?_) k)
    refine z_aload_n 0 dX12_readMachine_13 rfl rfl (Nat.le_of_ble_eq_true rfl) rfl ?_
    refine z_callVv vX12_next kX12_262 dX12_readMachine_14 rfl (zRo_d d) (as := []) (rest := []) (Nat.le_of_ble_eq_true rfl) rfl rfl (zCv_mono (fun h8 k => ?_) k)
    refine z_aload_n 0 dX12_readMachine_17 rfl rfl (Nat.le_of_ble_eq_true rfl) rfl ?_
    refine z_iconst dX12_readMachine_18 rfl ?_
    refine z_bipush dX12_readMachine_19 rfl rfl ?_
    refine z_callVi vX12_whole kX12_350 dX12_readMachine_21 rfl (zRo_d d) (as := [vi 1, vi 12]) (rest := []) (Nat.le_of_ble_eq_true rfl) rfl rfl (zCi_mono (fun x9 h10 k => ?_) k)
    refine z_istore_n 1 dX12_readMachine_24 rfl (Nat.le_of_ble_eq_true rfl) (L' := [some (vr 12 466), some (vi x9)]) rfl rfl ?_
    refine z_aload_n 0 dX12_readMachine_25 rfl rfl (Nat.le_of_ble_eq_true rfl) rfl ?_
    refine z_getI 12 (x := (h10 466 10)) fX12_208 rfl dX12_readMachine_26 rfl rfl ?_
    obtain ⟨r1, ka, kb⟩ := k
    refine z_if_le (tgt := 33) dX12_readMachine_29 rfl r1 rfl ⟨fun q => ?_, fun q => ?_⟩
    · have k := ka q
      refine z_aload_n 0 dX12_readMachine_33 rfl rfl (Nat.le_of_ble_eq_true rfl) rfl ?_
      refine z_getF 12 13 (x := 475) fX12_40 rfl dX12_readMachine_34 rfl rfl ?_
      refine z_aload_n 0 dX12_readMachine_37 rfl rfl (Nat.le_of_ble_eq_true rfl) rfl ?_
      refine z_getI 12 (x := (h10 466 35)) fX12_383 rfl dX12_readMachine_38 rfl rfl ?_
      refine z_iload_n 1 dX12_readMachine_41 rfl rfl rfl ?_
      obtain ⟨i9, k⟩ := k
      refine z_iast dX12_readMachine_42 (by rw [zl_475]; exact i9) rfl ?_
      refine z_aload_n 0 dX12_readMachine_43 rfl rfl (Nat.le_of_ble_eq_true rfl) rfl ?_
      refine z_getF 12 13 (x := 476) fX12_43 rfl dX12_readMachine_44 rfl rfl ?_
      refine z_aload_n 0 dX12_readMachine_47 rfl rfl (Nat.le_of_ble_eq_true rfl) rfl ?_
      refine z_getI 12 (x := (h10 466 35)) fX12_383 rfl dX12_readMachine_48 (by simp [zup]) rfl ?_
      refine z_iconst dX12_readMachine_51 rfl ?_
      obtain ⟨i9, k⟩ := k
      refine z_iast dX12_readMachine_52 (by rw [zl_476]; exact i9) rfl ?_
      refine z_aload_n 0 dX12_readMachine_53 rfl rfl (Nat.le_of_ble_eq_true rfl) rfl ?_
      refine z_getF 12 13 (x := 477) fX12_46 rfl dX12_readMachine_54 rfl rfl ?_
      refine z_aload_n 0 dX12_readMachine_57 rfl rfl (Nat.le_of_ble_eq_true rfl) rfl ?_
      refine z_getI 12 (x := (h10 466 35)) fX12_383 rfl dX12_readMachine_58 (by simp [zup]) rfl ?_
      refine z_iconst dX12_readMachine_61 rfl ?_
      obtain ⟨i9, k⟩ := k
      refine z_iast dX12_readMachine_62 (by rw [zl_477]; exact i9) rfl ?_
      refine z_aload_n 0 dX12_readMachine_63 rfl rfl (Nat.le_of_ble_eq_true rfl) rfl ?_
      refine z_getF 12 14 (x := 485) fX12_70 rfl dX12_readMachine_64 rfl rfl ?_
      refine z_aload_n 0 dX12_readMachine_67 rfl rfl (Nat.le_of_ble_eq_true rfl) rfl ?_
      refine z_getI 12 (x := (h10 466 35)) fX12_383 rfl dX12_readMachine_68 (by simp [zup]) rfl ?_
      refine z_lconst (x := 0) dX12_readMachine_71 rfl rfl ?_
      obtain ⟨i9, k⟩ := k
      refine z_last dX12_readMachine_72 (by rw [zl_485]; exact i9) rfl ?_
      refine z_aload_n 0 dX12_readMachine_73 rfl rfl (Nat.le_of_ble_eq_true rfl) rfl ?_
      refine z_dup dX12_readMachine_74 (fun q => by cases q) rfl ?_
      refine z_getI 12 (x := (h10 466 35)) fX12_383 rfl dX12_readMachine_75 (by simp [zup]) rfl ?_
      refine z_iconst dX12_readMachine_78 rfl ?_
      refine z_iadd dX12_readMachine_79 rfl ?_
      refine z_putI 12 gX12_383 dX12_readMachine_80 rfl ?_
      exact z_return rfl dX12_readMachine_83 ⟨rfl, k⟩
    · have k := kb q
      exact z_return rfl dX12_readMachine_32 ⟨rfl, k⟩
theorem eX12_readMachine {G : zG} {d : Nat} {K : zH → Prop} {h : zH} (k : tX12_readMachine_0 G d K h) : zCv G (d + 1) mX12_readMachine [vr 12 466] h K := z_entry (by decide +kernel) (Nat.le_of_ble_eq_true rfl) rfl k
def tX12_latest_0 (G : zG) (d : Nat) (K : Int → zH → Prop) (h : zH) : Prop := zTi G (d + 1) mX12_latest K 0 [some (vr 12 466)] [] h
theorem bX12_latest_0 {G : zG} {d : Nat} {K : Int → zH → Prop} {h : zH} (k : zR (h 466 35) ∧ (¬ (h 466 35) = 0 → zR (h 466 10) ∧ ((h 466 10) ≤ 0 → K ((h 466 35) - 1) h) ∧ (¬ (h 466 10) ≤ 0 → K 0 h)) ∧ ((h 466 35) = 0 → zCv G d mX12_wrong [vr 12 466, vi 7] h (fun h2 => zR (h2 466 10) ∧ ((h2 466 10) ≤ 0 → K ((h2 466 35) - 1) h2) ∧ (¬ (h2 466 10) ≤ 0 → K 0 h2)))) : tX12_latest_0 G d K h := by
  unfold tX12_latest_0
  refine z_aload_n 0 dX12_latest_0 rfl rfl (Nat.le_of_ble_eq_true rfl) rfl ?_
  refine z_getI 12 (x := (h 466 35)) fX12_383 rfl dX12_latest_1 rfl rfl ?_
  obtain ⟨r1, ka, kb⟩ := k
  refine z_if_ne (tgt := 13) dX12_latest_4 rfl r1 rfl ⟨fun q => ?_, fun q => ?_⟩
  · have k := ka q
    refine z_aload_n 0 dX12_latest_13 rfl rfl (Nat.le_of_ble_eq_true rfl) rfl ?_
    refine z_getI 12 (x := (h 466 10)) fX12_208 rfl dX12_latest_14 rfl rfl ?_
    obtain ⟨r1, ka, kb⟩ := k
    refine z_if_le (tgt := 24) dX12_latest_17 rfl r1 rfl ⟨fun q => ?_, fun q => ?_⟩
    · have k := ka q
      refine z_aload_n 0 dX12_latest_24 rfl rfl (Nat.le_of_ble_eq_true rfl) rfl ?_
      refine z_getI 12 (x := (h 466 35)) fX12_383 rfl dX12_latest_25 rfl rfl ?_
      refine z_iconst dX12_latest_28 rfl ?_
      refine z_isub dX12_latest_29 rfl ?_
      exact z_ireturn rfl dX12_latest_30 ⟨_, rfl, k⟩
    · have k := kb q
      refine z_iconst dX12_latest_20 rfl ?_
      refine z_goto (tgt := 30) dX12_latest_21 rfl ?_
      exact z_ireturn rfl dX12_latest_30 ⟨_, rfl, k⟩
  · have k := kb q
    refine z_aload_n 0 dX12_latest_7 rfl rfl (Nat.le_of_ble_eq_true rfl) rfl ?_
    refine z_bipush dX12_latest_8 rfl rfl ?_
    refine z_callVv vX12_wrong kX12_268 dX12_latest_10 rfl (zRo_d d) (as := [vi 7]) (rest := []) (Nat.le_of_ble_eq_true rfl) rfl rfl (zCv_mono (fun h2 k => ?_) k)
    refine z_aload_n 0 dX12_latest_13 rfl rfl (Nat.le_of_ble_eq_true rfl) rfl ?_
    refine z_getI 12 (x := (h2 466 10)) fX12_208 rfl dX12_latest_14 rfl rfl ?_
    obtain ⟨r1, ka, kb⟩ := k
    refine z_if_le (tgt := 24) dX12_latest_17 rfl r1 rfl ⟨fun q => ?_, fun q => ?_⟩
    · have k := ka q
      refine z_aload_n 0 dX12_latest_24 rfl rfl (Nat.le_of_ble_eq_true rfl) rfl ?_
      refine z_getI 12 (x := (h2 466 35)) fX12_383 rfl dX12_latest_25 rfl rfl ?_
      refine z_iconst dX12_latest_28 rfl ?_
      refine z_isub dX12_latest_29 rfl ?_
      exact z_ireturn rfl dX12_latest_30 ⟨_, rfl, k⟩
    · have k := kb q
      refine z_iconst dX12_latest_20 rfl ?_
      refine z_goto (tgt := 30) dX12_latest_21 rfl ?_
      exact z_ireturn rfl dX12_latest_30 ⟨_, rfl, k⟩
theorem eX12_latest {G : zG} {d : Nat} {K : Int → zH → Prop} {h : zH} (k : tX12_latest_0 G d K h) : zCi G (d + 1) mX12_latest [vr 12 466] h K := z_entry (by decide +kernel) (Nat.le_of_ble_eq_true rfl) rfl k
def tX12_state_0 (G : zG) (d : Nat) (K : Int → zH → Prop) (h : zH) : Prop := zTi G (d + 1) mX12_state K 0 [some (vr 12 466)] [] h
theorem bX12_state_0 {G : zG} {d : Nat} {K : Int → zH → Prop} {h : zH} (k : zR (h 466 7) ∧ ((h 466 7) = 3 → ((0 : Int) ≤ ((h 466 35) - 1) ∧ ((h 466 35) - 1) < 4) ∧ zR (h 466 9) ∧ zR (h 475 ((h 466 35) - 1)) ∧ ((h 466 9) < (h 475 ((h 466 35) - 1)) → zR (h 466 10) ∧ ((h 466 10) ≤ 0 → K (h 466 9) h) ∧ (¬ (h 466 10) ≤ 0 → K 0 h)) ∧ (¬ (h 466 9) < (h 475 ((h 466 35) - 1)) → zCv G d mX12_wrong [vr 12 466, vi 2] h (fun h2 => zR (h2 466 10) ∧ ((h2 466 10) ≤ 0 → K (h2 466 9) h2) ∧ (¬ (h2 466 10) ≤ 0 → K 0 h2)))) ∧ (¬ (h 466 7) = 3 → zCv G d mX12_wrong [vr 12 466, vi 1] h (fun h4 => zR (h4 466 10) ∧ ((h4 466 10) ≤ 0 → K (h4 466 9) h4) ∧ (¬ (h4 466 10) ≤ 0 → K 0 h4)))) : tX12_state_0 G d K h := by
  unfold tX12_state_0
  refine z_aload_n 0 dX12_state_0 rfl rfl (Nat.le_of_ble_eq_true rfl) rfl ?_
  refine z_getI 12 (x := (h 466 7)) fX12_220 rfl dX12_state_1 rfl rfl ?_
  refine z_iconst dX12_state_4 rfl ?_
  obtain ⟨r1, ka, kb⟩ := k
  refine z_icmp_eq (tgt := 16) dX12_state_5 rfl r1 ⟨by decide, by decide⟩ rfl ⟨fun q => ?_, fun q => ?_⟩
  · have k := ka q
    refine z_aload_n 0 dX12_state_16 rfl rfl (Nat.le_of_ble_eq_true rfl) rfl ?_
    refine z_getI 12 (x := (h 466 9)) fX12_252 rfl dX12_state_17 rfl rfl ?_
    refine z_aload_n 0 dX12_state_20 rfl rfl (Nat.le_of_ble_eq_true rfl) rfl ?_
    refine z_getF 12 13 (x := 475) fX12_40 rfl dX12_state_21 rfl rfl ?_
    refine z_aload_n 0 dX12_state_24 rfl rfl (Nat.le_of_ble_eq_true rfl) rfl ?_
    refine z_getI 12 (x := (h 466 35)) fX12_383 rfl dX12_state_25 rfl rfl ?_
    refine z_iconst dX12_state_28 rfl ?_
    refine z_isub dX12_state_29 rfl ?_
    obtain ⟨i9, k⟩ := k
    refine z_iald (x := (h 475 ((h 466 35) - 1))) dX12_state_30 (by rw [zl_475]; exact i9) rfl rfl ?_
    obtain ⟨r1, r2, ka, kb⟩ := k
    refine z_icmp_lt (tgt := 39) dX12_state_31 rfl r1 r2 rfl ⟨fun q => ?_, fun q => ?_⟩
    · have k := ka q
      refine z_aload_n 0 dX12_state_39 rfl rfl (Nat.le_of_ble_eq_true rfl) rfl ?_
      refine z_getI 12 (x := (h 466 10)) fX12_208 rfl dX12_state_40 rfl rfl ?_
      obtain ⟨r1, ka, kb⟩ := k
      refine z_if_le (tgt := 50) dX12_state_43 rfl r1 rfl ⟨fun q => ?_, fun q => ?_⟩
      · have k := ka q
        refine z_aload_n 0 dX12_state_50 rfl rfl (Nat.le_of_ble_eq_true rfl) rfl ?_
        refine z_getI 12 (x := (h 466 9)) fX12_252 rfl dX12_state_51 rfl rfl ?_
        exact z_ireturn rfl dX12_state_54 ⟨_, rfl, k⟩
      · have k := kb q
        refine z_iconst dX12_state_46 rfl ?_
        refine z_goto (tgt := 54) dX12_state_47 rfl ?_
        exact z_ireturn rfl dX12_state_54 ⟨_, rfl, k⟩
    · have k := kb q
      refine z_aload_n 0 dX12_state_34 rfl rfl (Nat.le_of_ble_eq_true rfl) rfl ?_
      refine z_iconst dX12_state_35 rfl ?_
      refine z_callVv vX12_wrong kX12_268 dX12_state_36 rfl (zRo_d d) (as := [vi 2]) (rest := []) (Nat.le_of_ble_eq_true rfl) rfl rfl (zCv_mono (fun h2 k => ?_) k)
      refine z_aload_n 0 dX12_state_39 rfl rfl (Nat.le_of_ble_eq_true rfl) rfl ?_
      refine z_getI 12 (x := (h2 466 10)) fX12_208 rfl dX12_state_40 rfl rfl ?_
      obtain ⟨r1, ka, kb⟩ := k
      refine z_if_le (tgt := 50) dX12_state_43 rfl r1 rfl ⟨fun q => ?_, fun q => ?_⟩
      · have k := ka q
        refine z_aload_n 0 dX12_state_50 rfl rfl (Nat.le_of_ble_eq_true rfl) rfl ?_
        refine z_getI 12 (x := (h2 466 9)) fX12_252 rfl dX12_state_51 rfl rfl ?_
        exact z_ireturn rfl dX12_state_54 ⟨_, rfl, k⟩
      · have k := kb q
        refine z_iconst dX12_state_46 rfl ?_
        refine z_goto (tgt := 54) dX12_state_47 rfl ?_
        exact z_ireturn rfl dX12_state_54 ⟨_, rfl, k⟩
  · have k := kb q
    refine z_aload_n 0 dX12_state_8 rfl rfl (Nat.le_of_ble_eq_true rfl) rfl ?_
    refine z_iconst dX12_state_9 rfl ?_
    refine z_callVv vX12_wrong kX12_268 dX12_state_10 rfl (zRo_d d) (as := [vi 1]) (rest := []) (Nat.le_of_ble_eq_true rfl) rfl rfl (zCv_mono (fun h4 k => ?_) k)
    refine z_goto (tgt := 39) dX12_state_13 rfl ?_
    refine z_aload_n 0 dX12_state_39 rfl rfl (Nat.le_of_ble_eq_true rfl) rfl ?_
    refine z_getI 12 (x := (h4 466 10)) fX12_208 rfl dX12_state_40 rfl rfl ?_
    obtain ⟨r1, ka, kb⟩ := k
    refine z_if_le (tgt := 50) dX12_state_43 rfl r1 rfl ⟨fun q => ?_, fun q => ?_⟩
    · have k := ka q
      refine z_aload_n 0 dX12_state_50 rfl rfl (Nat.le_of_ble_eq_true rfl) rfl ?_
      refine z_getI 12 (x := (h4 466 9)) fX12_252 rfl dX12_state_51 rfl rfl ?_
      exact z_ireturn rfl dX12_state_54 ⟨_, rfl, k⟩
    · have k := kb q
      refine z_iconst dX12_state_46 rfl ?_
      refine z_goto (tgt := 54) dX12_state_47 rfl ?_
      exact z_ireturn rfl dX12_state_54 ⟨_, rfl, k⟩
theorem eX12_state {G : zG} {d : Nat} {K : Int → zH → Prop} {h : zH} (k : tX12_state_0 G d K h) : zCi G (d + 1) mX12_state [vr 12 466] h K := z_entry (by decide +kernel) (Nat.le_of_ble_eq_true rfl) rfl k
def tX12_readState_0 (G : zG) (d : Nat) (K : Int → zH → Prop) (h : zH) : Prop := zTi G (d + 1) mX12_readState K 0 [some (vr 12 466), none] [] h
theorem bX12_readState_0 {G : zG} {d : Nat} {K : Int → zH → Prop} {h : zH} (k : zCi G d mX12_state [vr 12 466] h (fun x1 h2 => zCv G d mX12_next [vr 12 466] h2 (fun h4 => K x1 h4))) : tX12_readState_0 G d K h := by
  unfold tX12_readState_0
  refine z_aload_n 0 dX12_readState_0 rfl rfl (Nat.le_of_ble_eq_true rfl) rfl ?_
  refine z_callVi vX12_state kX12_414 dX12_readState_1 rfl (zRo_d d) (as := []) (rest := []) (Nat.le_of_ble_eq_true rfl) rfl rfl (zCi_mono (fun x1 h2 k => ?_) k)
  refine z_istore_n 1 dX12_readState_4 rfl (Nat.le_of_ble_eq_true rfl) (L' := [some (vr 12 466), some (vi x1)]) rfl rfl ?_
  refine z_aload_n 0 dX12_readState_5 rfl rfl (Nat.le_of_ble_eq_true rfl) rfl ?_
  refine z_callVv vX12_next kX12_262 dX12_readState_6 rfl (zRo_d d) (as := []) (rest := []) (Nat.le_of_ble_eq_true rfl) rfl rfl (zCv_mono (fun h4 k => ?_) k)
  refine z_iload_n 1 dX12_readState_9 rfl rfl rfl ?_
  exact z_ireturn rfl dX12_readState_10 ⟨_, rfl, k⟩
theorem eX12_readState {G : zG} {d : Nat} {K : Int → zH → Prop} {h : zH} (k : tX12_readState_0 G d K h) : zCi G (d + 1) mX12_readState [vr 12 466] h K := z_entry (by decide +kernel) (Nat.le_of_ble_eq_true rfl) rfl k
def tX12_readEdge_0 (G : zG) (d : Nat) (K : zH → Prop) (h : zH) : Prop := zTv G (d + 1) mX12_readEdge K 0 [some (vr 12 466), none, none, none, none] [] h
theorem bX12_readEdge_0 {G : zG} {d : Nat} {K : zH → Prop} {h : zH} (k : zCi G d mX12_latest [vr 12 466] h (fun x1 h2 => zR (h2 466 10) ∧ (¬ (h2 466 10) = 0 → zCv G d mX12_next [vr 12 466] h2 (fun h4 => zCi G d mX12_readState [vr 12 466] h4 (fun x5 h6 => zCi G d mX12_readState [vr 12 466] h6 (fun x7 h8 => zCv G d mX12_readSet [vr 12 466] h8 (fun h10 => zR (h10 466 10) ∧ ((h10 466 10) ≤ 0 → ((0 : Int) ≤ x1 ∧ x1 < 4) ∧ ((0 : Int) ≤ ((x1 * 24) + (h10 476 x1)) ∧ ((x1 * 24) + (h10 476 x1)) < 96) ∧ ((0 : Int) ≤ ((x1 * 24) + (h10 476 x1)) ∧ ((x1 * 24) + (h10 476 x1)) < 96) ∧ zCv G d mX12_keepsRanges [vr 12 466, vi ((x1 * 24) + (h10 476 x1)), vr 13 480, vr 13 481, vr 13 482] (zup (zup h10 478 ((x1 * 24) + (h10 476 x1)) x5) 479 ((x1 * 24) + (h10 476 x1)) x7) (fun h12 => ((0 : Int) ≤ x1 ∧ x1 < 4) ∧ ((0 : Int) ≤ x1 ∧ x1 < 4) ∧ K (zup h12 476 x1 ((h12 476 x1) + 1)))) ∧ (¬ (h10 466 10) ≤ 0 → K h10)))))) ∧ ((h2 466 10) = 0 → ((0 : Int) ≤ x1 ∧ x1 < 4) ∧ zR (h2 476 x1) ∧ (¬ (h2 476 x1) = 24 → zCv G d mX12_next [vr 12 466] h2 (fun h14 => zCi G d mX12_readState [vr 12 466] h14 (fun x15 h16 => zCi G d mX12_readState [vr 12 466] h16 (fun x17 h18 => zCv G d mX12_readSet [vr 12 466] h18 (fun h20 => zR (h20 466 10) ∧ ((h20 466 10) ≤ 0 → ((0 : Int) ≤ x1 ∧ x1 < 4) ∧ ((0 : Int) ≤ ((x1 * 24) + (h20 476 x1)) ∧ ((x1 * 24) + (h20 476 x1)) < 96) ∧ ((0 : Int) ≤ ((x1 * 24) + (h20 476 x1)) ∧ ((x1 * 24) + (h20 476 x1)) < 96) ∧ zCv G d mX12_keepsRanges [vr 12 466, vi ((x1 * 24) + (h20 476 x1)), vr 13 480, vr 13 481, vr 13 482] (zup (zup h20 478 ((x1 * 24) + (h20 476 x1)) x15) 479 ((x1 * 24) + (h20 476 x1)) x17) (fun h22 => ((0 : Int) ≤ x1 ∧ x1 < 4) ∧ ((0 : Int) ≤ x1 ∧ x1 < 4) ∧ K (zup h22 476 x1 ((h22 476 x1) + 1)))) ∧ (¬ (h20 466 10) ≤ 0 → K h20)))))) ∧ ((h2 476 x1) = 24 → zCv G d mX12_wrong [vr 12 466, vi 5] h2 (fun h24 => zCv G d mX12_next [vr 12 466] h24 (fun h26 => zCi G d mX12_readState [vr 12 466] h26 (fun x27 h28 => zCi G d mX12_readState [vr 12 466] h28 (fun x29 h30 => zCv G d mX12_readSet [vr 12 466] h30 (fun h32 => zR (h32 466 10) ∧ ((h32 466 10) ≤ 0 → ((0 : Int) ≤ x1 ∧ x1 < 4) ∧ ((0 : Int) ≤ ((x1 * 24) + (h32 476 x1)) ∧ ((x1 * 24) + (h32 476 x1)) < 96) ∧ ((0 : Int) ≤ ((x1 * 24) + (h32 476 x1)) ∧ ((x1 * 24) + (h32 476 x1)) < 96) ∧ zCv G d mX12_keepsRanges [vr 12 466, vi ((x1 * 24) + (h32 476 x1)), vr 13 480, vr 13 481, vr 13 482] (zup (zup h32 478 ((x1 * 24) + (h32 476 x1)) x27) 479 ((x1 * 24) + (h32 476 x1)) x29) (fun h34 => ((0 : Int) ≤ x1 ∧ x1 < 4) ∧ ((0 : Int) ≤ x1 ∧ x1 < 4) ∧ K (zup h34 476 x1 ((h34 476 x1) + 1)))) ∧ (¬ (h32 466 10) ≤ 0 → K h32)))))))))) : tX12_readEdge_0 G d K h := by
  unfold tX12_readEdge_0
  refine z_aload_n 0 dX12_readEdge_0 rfl rfl (Nat.le_of_ble_eq_true rfl) rfl ?_
  refine z_callVi vX12_latest kX12_417 dX12_readEdge_1 rfl (zRo_d d) (as := []) (rest := []) (Nat.le_of_ble_eq_true rfl) rfl rfl (zCi_mono (fun x1 h2 k => ?_) k)
  refine z_istore_n 1 dX12_readEdge_4 rfl (Nat.le_of_ble_eq_true rfl) (L' := [some (vr 12 466), some (vi x1), none, none, none]) rfl rfl ?_
  refine z_aload_n 0 dX12_readEdge_5 rfl rfl (Nat.le_of_ble_eq_true rfl) rfl ?_
  refine z_getI 12 (x := (h2 466 10)) fX12_208 rfl dX12_readEdge_6 rfl rfl ?_
  obtain ⟨r1, ka, kb⟩ := k
  refine z_if_ne (tgt := 28) dX12_readEdge_9 rfl r1 rfl ⟨fun q => ?_, fun q => ?_⟩
  · have k := ka q
    refine z_aload_n 0 dX12_readEdge_28 rfl rfl (Nat.le_of_ble_eq_true rfl) rfl ?_
    refine z_callVv vX12_next kX12_262 dX12_readEdge_29 rfl (zRo_d d) (as := []) (rest := []) (Nat.le_of_ble_eq_true rfl) rfl rfl (zCv_mono (fun h4 k => ?_) k)
    refine z_aload_n 0 dX12_readEdge_32 rfl rfl (Nat.le_of_ble_eq_true rfl) rfl ?_
    refine z_callVi vX12_readState kX12_420 dX12_readEdge_33 rfl (zRo_d d) (as := []) (rest := []) (Nat.le_of_ble_eq_true rfl) rfl rfl (zCi_mono (fun x5 h6 k => ?_) k)
    refine z_istore_n 2 dX12_readEdge_36 rfl (Nat.le_of_ble_eq_true rfl) (L' := [some (vr 12 466), some (vi x1), some (vi x5), none, none]) rfl rfl ?_
    refine z_aload_n 0 dX12_readEdge_37 rfl rfl (Nat.le_of_ble_eq_true rfl) rfl ?_
    refine z_callVi vX12_readState kX12_420 dX12_readEdge_38 rfl (zRo_d d) (as := []) (rest := []) (Nat.le_of_ble_eq_true rfl) rfl rfl (zCi_mono (fun x7 h8 k => ?_) k)
    refine z_istore_n 3 dX12_readEdge_41 rfl (Nat.le_of_ble_eq_true rfl) (L' := [some (vr 12 466), some (vi x1), some (vi x5), some (vi x7), none]) rfl rfl ?_
    refine z_aload_n 0 dX12_readEdge_42 rfl rfl (Nat.le_of_ble_eq_true rfl) rfl ?_
    refine z_callVv vX12_readSet kX12_407 dX12_readEdge_43 rfl (zRo_d d) (as := []) (rest := []) (Nat.le_of_ble_eq_true rfl) rfl rfl (zCv_mono (fun h10 k => ?_) k)
    refine z_aload_n 0 dX12_readEdge_46 rfl rfl (Nat.le_of_ble_eq_true rfl) rfl ?_
    refine z_getI 12 (x := (h10 466 10)) fX12_208 rfl dX12_readEdge_47 rfl rfl ?_
    obtain ⟨r1, ka, kb⟩ := k
    refine z_if_le (tgt := 54) dX12_readEdge_50 rfl r1 rfl ⟨fun q => ?_, fun q => ?_⟩
    · have k := ka q
      refine z_iload_n 1 dX12_readEdge_54 rfl rfl rfl ?_
      refine z_bipush dX12_readEdge_55 rfl rfl ?_
      refine z_imul dX12_readEdge_57 rfl ?_
      refine z_aload_n 0 dX12_readEdge_58 rfl rfl (Nat.le_of_ble_eq_true rfl) rfl ?_
      refine z_getF 12 13 (x := 476) fX12_43 rfl dX12_readEdge_59 rfl rfl ?_
      refine z_iload_n 1 dX12_readEdge_62 rfl rfl rfl ?_
      obtain ⟨i9, k⟩ := k
      refine z_iald (x := (h10 476 x1)) dX12_readEdge_63 (by rw [zl_476]; exact i9) rfl rfl ?_
      refine z_iadd dX12_readEdge_64 rfl ?_
      refine z_istore dX12_readEdge_65 (Nat.le_of_ble_eq_true rfl) (L' := [some (vr 12 466), some (vi x1), some (vi x5), some (vi x7), some (vi ((x1 * 24) + (h10 476 x1)))]) rfl rfl ?_
      refine z_aload_n 0 dX12_readEdge_67 rfl rfl (Nat.le_of_ble_eq_true rfl) rfl ?_
      refine z_getF 12 13 (x := 478) fX12_49 rfl dX12_readEdge_68 rfl rfl ?_
      refine z_iload dX12_readEdge_71 rfl rfl ?_
      refine z_iload_n 2 dX12_readEdge_73 rfl rfl rfl ?_
      obtain ⟨i9, k⟩ := k
      refine z_iast dX12_readEdge_74 (by rw [zl_478]; exact i9) rfl ?_
      refine z_aload_n 0 dX12_readEdge_75 rfl rfl (Nat.le_of_ble_eq_true rfl) rfl ?_
      refine z_getF 12 13 (x := 479) fX12_52 rfl dX12_readEdge_76 rfl rfl ?_
      refine z_iload dX12_readEdge_79 rfl rfl ?_
      refine z_iload_n 3 dX12_readEdge_81 rfl rfl rfl ?_
      obtain ⟨i9, k⟩ := k
      refine z_iast dX12_readEdge_82 (by rw [zl_479]; exact i9) rfl ?_
      refine z_aload_n 0 dX12_readEdge_83 rfl rfl (Nat.le_of_ble_eq_true rfl) rfl ?_
      refine z_iload dX12_readEdge_84 rfl rfl ?_
      refine z_aload_n 0 dX12_readEdge_86 rfl rfl (Nat.le_of_ble_eq_true rfl) rfl ?_
      refine z_getF 12 13 (x := 480) fX12_55 rfl dX12_readEdge_87 rfl rfl ?_
      refine z_aload_n 0 dX12_readEdge_90 rfl rfl (Nat.le_of_ble_eq_true rfl) rfl ?_
      refine z_getF 12 13 (x := 481) fX12_58 rfl dX12_readEdge_91 rfl rfl ?_
      refine z_aload_n 0 dX12_readEdge_94 rfl rfl (Nat.le_of_ble_eq_true rfl) rfl ?_
      refine z_getF 12 13 (x := 482) fX12_61 rfl dX12_readEdge_95 rfl rfl ?_
      refine z_callVv vX12_keepsRanges kX12_410 dX12_readEdge_98 rfl (zRo_d d) (as := [vi ((x1 * 24) + (h10 476 x1)), vr 13 480, vr 13 481, vr 13 482]) (rest := []) (Nat.le_of_ble_eq_true rfl) rfl rfl (zCv_mono (fun h12 k => ?_) k)
      refine z_aload_n 0 dX12_readEdge_101 rfl rfl (Nat.le_of_ble_eq_true rfl) rfl ?_
      refine z_getF 12 13 (x := 476) fX12_43 rfl dX12_readEdge_102 rfl rfl ?_
      refine z_iload_n 1 dX12_readEdge_105 rfl rfl rfl ?_
      refine z_dup2 dX12_readEdge_106 (fun q => by cases q) (fun q => by cases q) rfl ?_
      obtain ⟨i9, k⟩ := k
      refine z_iald (x := (h12 476 x1)) dX12_readEdge_107 (by rw [zl_476]; exact i9) rfl rfl ?_
      refine z_iconst dX12_readEdge_108 rfl ?_
      refine z_iadd dX12_readEdge_109 rfl ?_
      obtain ⟨i9, k⟩ := k
      refine z_iast dX12_readEdge_110 (by rw [zl_476]; exact i9) rfl ?_
      exact z_return rfl dX12_readEdge_111 ⟨rfl, k⟩
    · have k := kb q
      exact z_return rfl dX12_readEdge_53 ⟨rfl, k⟩
  · have k := kb q
    refine z_aload_n 0 dX12_readEdge_12 rfl rfl (Nat.le_of_ble_eq_true rfl) rfl ?_
    refine z_getF 12 13 (x := 476) fX12_43 rfl dX12_readEdge_13 rfl rfl ?_
    refine z_iload_n 1 dX12_readEdge_16 rfl rfl rfl ?_
    obtain ⟨i9, k⟩ := k
    refine z_iald (x := (h2 476 x1)) dX12_readEdge_17 (by rw [zl_476]; exact i9) rfl rfl ?_
    refine z_bipush dX12_readEdge_18 rfl rfl ?_
    obtain ⟨r1, ka, kb⟩ := k
    refine z_icmp_ne (tgt := 28) dX12_readEdge_20 rfl r1 ⟨by decide, by decide⟩ rfl ⟨fun q => ?_, fun q => ?_⟩
    · have k := ka q
      refine z_aload_n 0 dX12_readEdge_28 rfl rfl (Nat.le_of_ble_eq_true rfl) rfl ?_
      refine z_callVv vX12_next kX12_262 dX12_readEdge_29 rfl (zRo_d d) (as := []) (rest := []) (Nat.le_of_ble_eq_true rfl) rfl rfl (zCv_mono (fun h14 k => ?_) k)
      refine z_aload_n 0 dX12_readEdge_32 rfl rfl (Nat.le_of_ble_eq_true rfl) rfl ?_
      refine z_callVi vX12_readState kX12_420 dX12_readEdge_33 rfl (zRo_d d) (as := []) (rest := []) (Nat.le_of_ble_eq_true rfl) rfl rfl (zCi_mono (fun x15 h16 k => ?_) k)
      refine z_istore_n 2 dX12_readEdge_36 rfl (Nat.le_of_ble_eq_true rfl) (L' := [some (vr 12 466), some (vi x1), some (vi x15), none, none]) rfl rfl ?_
      refine z_aload_n 0 dX12_readEdge_37 rfl rfl (Nat.le_of_ble_eq_true rfl) rfl ?_
      refine z_callVi vX12_readState kX12_420 dX12_readEdge_38 rfl (zRo_d d) (as := []) (rest := []) (Nat.le_of_ble_eq_true rfl) rfl rfl (zCi_mono (fun x17 h18 k => ?_) k)
      refine z_istore_n 3 dX12_readEdge_41 rfl (Nat.le_of_ble_eq_true rfl) (L' := [some (vr 12 466), some (vi x1), some (vi x15), some (vi x17), none]) rfl rfl ?_
      refine z_aload_n 0 dX12_readEdge_42 rfl rfl (Nat.le_of_ble_eq_true rfl) rfl ?_
      refine z_callVv vX12_readSet kX12_407 dX12_readEdge_43 rfl (zRo_d d) (as := []) (rest := []) (Nat.le_of_ble_eq_true rfl) rfl rfl (zCv_mono (fun h20 k => ?_) k)
      refine z_aload_n 0 dX12_readEdge_46 rfl rfl (Nat.le_of_ble_eq_true rfl) rfl ?_
      refine z_getI 12 (x := (h20 466 10)) fX12_208 rfl dX12_readEdge_47 rfl rfl ?_
      obtain ⟨r1, ka, kb⟩ := k
      refine z_if_le (tgt := 54) dX12_readEdge_50 rfl r1 rfl ⟨fun q => ?_, fun q => ?_⟩
      · have k := ka q
        refine z_iload_n 1 dX12_readEdge_54 rfl rfl rfl ?_
        refine z_bipush dX12_readEdge_55 rfl rfl ?_
        refine z_imul dX12_readEdge_57 rfl ?_
        refine z_aload_n 0 dX12_readEdge_58 rfl rfl (Nat.le_of_ble_eq_true rfl) rfl ?_
        refine z_getF 12 13 (x := 476) fX12_43 rfl dX12_readEdge_59 rfl rfl ?_
        refine z_iload_n 1 dX12_readEdge_62 rfl rfl rfl ?_
        obtain ⟨i9, k⟩ := k
        refine z_iald (x := (h20 476 x1)) dX12_readEdge_63 (by rw [zl_476]; exact i9) rfl rfl ?_
        refine z_iadd dX12_readEdge_64 rfl ?_
        refine z_istore dX12_readEdge_65 (Nat.le_of_ble_eq_true rfl) (L' := [some (vr 12 466), some (vi x1), some (vi x15), some (vi x17), some (vi ((x1 * 24) + (h20 476 x1)))]) rfl rfl ?_
        refine z_aload_n 0 dX12_readEdge_67 rfl rfl (Nat.le_of_ble_eq_true rfl) rfl ?_
        refine z_getF 12 13 (x := 478) fX12_49 rfl dX12_readEdge_68 rfl rfl ?_
        refine z_iload dX12_readEdge_71 rfl rfl ?_
        refine z_iload_n 2 dX12_readEdge_73 rfl rfl rfl ?_
        obtain ⟨i9, k⟩ := k
        refine z_iast dX12_readEdge_74 (by rw [zl_478]; exact i9) rfl ?_
        refine z_aload_n 0 dX12_readEdge_75 rfl rfl (Nat.le_of_ble_eq_true rfl) rfl ?_
        refine z_getF 12 13 (x := 479) fX12_52 rfl dX12_readEdge_76 rfl rfl ?_
        refine z_iload dX12_readEdge_79 rfl rfl ?_
        refine z_iload_n 3 dX12_readEdge_81 rfl rfl rfl ?_
        obtain ⟨i9, k⟩ := k
        refine z_iast dX12_readEdge_82 (by rw [zl_479]; exact i9) rfl ?_
        refine z_aload_n 0 dX12_readEdge_83 rfl rfl (Nat.le_of_ble_eq_true rfl) rfl ?_
        refine z_iload dX12_readEdge_84 rfl rfl ?_
        refine z_aload_n 0 dX12_readEdge_86 rfl rfl (Nat.le_of_ble_eq_true rfl) rfl ?_
        refine z_getF 12 13 (x := 480) fX12_55 rfl dX12_readEdge_87 rfl rfl ?_
        refine z_aload_n 0 dX12_readEdge_90 rfl rfl (Nat.le_of_ble_eq_true rfl) rfl ?_
        refine z_getF 12 13 (x := 481) fX12_58 rfl dX12_readEdge_91 rfl rfl ?_
        refine z_aload_n 0 dX12_readEdge_94 rfl rfl (Nat.le_of_ble_eq_true rfl) rfl ?_
        refine z_getF 12 13 (x := 482) fX12_61 rfl dX12_readEdge_95 rfl rfl ?_
        refine z_callVv vX12_keepsRanges kX12_410 dX12_readEdge_98 rfl (zRo_d d) (as := [vi ((x1 * 24) + (h20 476 x1)), vr 13 480, vr 13 481, vr 13 482]) (rest := []) (Nat.le_of_ble_eq_true rfl) rfl rfl (zCv_mono (fun h22 k => ?_) k)
        refine z_aload_n 0 dX12_readEdge_101 rfl rfl (Nat.le_of_ble_eq_true rfl) rfl ?_
        refine z_getF 12 13 (x := 476) fX12_43 rfl dX12_readEdge_102 rfl rfl ?_
        refine z_iload_n 1 dX12_readEdge_105 rfl rfl rfl ?_
        refine z_dup2 dX12_readEdge_106 (fun q => by cases q) (fun q => by cases q) rfl ?_
        obtain ⟨i9, k⟩ := k
        refine z_iald (x := (h22 476 x1)) dX12_readEdge_107 (by rw [zl_476]; exact i9) rfl rfl ?_
        refine z_iconst dX12_readEdge_108 rfl ?_
        refine z_iadd dX12_readEdge_109 rfl ?_
        obtain ⟨i9, k⟩ := k
        refine z_iast dX12_readEdge_110 (by rw [zl_476]; exact i9) rfl ?_
        exact z_return rfl dX12_readEdge_111 ⟨rfl, k⟩
      · have k := kb q
        exact z_return rfl dX12_readEdge_53 ⟨rfl, k⟩
    · have k := kb q
      refine z_aload_n 0 dX12_readEdge_23 rfl rfl (Nat.le_of_ble_eq_true rfl) rfl ?_
      refine z_iconst dX12_readEdge_24 rfl ?_
      refine z_callVv vX12_wrong kX12_268 dX12_readEdge_25 rfl (zRo_d d) (as := [vi 5]) (rest := []) (Nat.le_of_ble_eq_true rfl) rfl rfl (zCv_mono (fun h24 k => ?_) k)
      refine z_aload_n 0 dX12_readEdge_28 rfl rfl (Nat.le_of_ble_eq_true rfl) rfl ?_
      refine z_callVv vX12_next kX12_262 dX12_readEdge_29 rfl (zRo_d d) (as := []) (rest := []) (Nat.le_of_ble_eq_true rfl) rfl rfl (zCv_mono (fun h26 k => ?_) k)
      refine z_aload_n 0 dX12_readEdge_32 rfl rfl (Nat.le_of_ble_eq_true rfl) rfl ?_
      refine z_callVi vX12_readState kX12_420 dX12_readEdge_33 rfl (zRo_d d) (as := []) (rest := []) (Nat.le_of_ble_eq_true rfl) rfl rfl (zCi_mono (fun x27 h28 k => ?_) k)
      refine z_istore_n 2 dX12_readEdge_36 rfl (Nat.le_of_ble_eq_true rfl) (L' := [some (vr 12 466), some (vi x1), some (vi x27), none, none]) rfl rfl ?_
      refine z_aload_n 0 dX12_readEdge_37 rfl rfl (Nat.le_of_ble_eq_true rfl) rfl ?_
      refine z_callVi vX12_readState kX12_420 dX12_readEdge_38 rfl (zRo_d d) (as := []) (rest := []) (Nat.le_of_ble_eq_true rfl) rfl rfl (zCi_mono (fun x29 h30 k => ?_) k)
      refine z_istore_n 3 dX12_readEdge_41 rfl (Nat.le_of_ble_eq_true rfl) (L' := [some (vr 12 466), some (vi x1), some (vi x27), some (vi x29), none]) rfl rfl ?_
      refine z_aload_n 0 dX12_readEdge_42 rfl rfl (Nat.le_of_ble_eq_true rfl) rfl ?_
      refine z_callVv vX12_readSet kX12_407 dX12_readEdge_43 rfl (zRo_d d) (as := []) (rest := []) (Nat.le_of_ble_eq_true rfl) rfl rfl (zCv_mono (fun h32 k => ?_) k)
      refine z_aload_n 0 dX12_readEdge_46 rfl rfl (Nat.le_of_ble_eq_true rfl) rfl ?_
      refine z_getI 12 (x := (h32 466 10)) fX12_208 rfl dX12_readEdge_47 rfl rfl ?_
      obtain ⟨r1, ka, kb⟩ := k
      refine z_if_le (tgt := 54) dX12_readEdge_50 rfl r1 rfl ⟨fun q => ?_, fun q => ?_⟩
      · have k := ka q
        refine z_iload_n 1 dX12_readEdge_54 rfl rfl rfl ?_
        refine z_bipush dX12_readEdge_55 rfl rfl ?_
        refine z_imul dX12_readEdge_57 rfl ?_
        refine z_aload_n 0 dX12_readEdge_58 rfl rfl (Nat.le_of_ble_eq_true rfl) rfl ?_
        refine z_getF 12 13 (x := 476) fX12_43 rfl dX12_readEdge_59 rfl rfl ?_
        refine z_iload_n 1 dX12_readEdge_62 rfl rfl rfl ?_
        obtain ⟨i9, k⟩ := k
        refine z_iald (x := (h32 476 x1)) dX12_readEdge_63 (by rw [zl_476]; exact i9) rfl rfl ?_
        refine z_iadd dX12_readEdge_64 rfl ?_
        refine z_istore dX12_readEdge_65 (Nat.le_of_ble_eq_true rfl) (L' := [some (vr 12 466), some (vi x1), some (vi x27), some (vi x29), some (vi ((x1 * 24) + (h32 476 x1)))]) rfl rfl ?_
        refine z_aload_n 0 dX12_readEdge_67 rfl rfl (Nat.le_of_ble_eq_true rfl) rfl ?_
        refine z_getF 12 13 (x := 478) fX12_49 rfl dX12_readEdge_68 rfl rfl ?_
        refine z_iload dX12_readEdge_71 rfl rfl ?_
        refine z_iload_n 2 dX12_readEdge_73 rfl rfl rfl ?_
        obtain ⟨i9, k⟩ := k
        refine z_iast dX12_readEdge_74 (by rw [zl_478]; exact i9) rfl ?_
        refine z_aload_n 0 dX12_readEdge_75 rfl rfl (Nat.le_of_ble_eq_true rfl) rfl ?_
        refine z_getF 12 13 (x := 479) fX12_52 rfl dX12_readEdge_76 rfl rfl ?_
        refine z_iload dX12_readEdge_79 rfl rfl ?_
        refine z_iload_n 3 dX12_readEdge_81 rfl rfl rfl ?_
        obtain ⟨i9, k⟩ := k
        refine z_iast dX12_readEdge_82 (by rw [zl_479]; exact i9) rfl ?_
        refine z_aload_n 0 dX12_readEdge_83 rfl rfl (Nat.le_of_ble_eq_true rfl) rfl ?_
        refine z_iload dX12_readEdge_84 rfl rfl ?_
        refine z_aload_n 0 dX12_readEdge_86 rfl rfl (Nat.le_of_ble_eq_true rfl) rfl ?_
        refine z_getF 12 13 (x := 480) fX12_55 rfl dX12_readEdge_87 rfl rfl ?_
        refine z_aload_n 0 dX12_readEdge_90 rfl rfl (Nat.le_of_ble_eq_true rfl) rfl ?_
        refine z_getF 12 13 (x := 481) fX12_58 rfl dX12_readEdge_91 rfl rfl ?_
        refine z_aload_n 0 dX12_readEdge_94 rfl rfl (Nat.le_of_ble_eq_true rfl) rfl ?_
        refine z_getF 12 13 (x := 482) fX12_61 rfl dX12_readEdge_95 rfl rfl ?_
        refine z_callVv vX12_keepsRanges kX12_410 dX12_readEdge_98 rfl (zRo_d d) (as := [vi ((x1 * 24) + (h32 476 x1)), vr 13 480, vr 13 481, vr 13 482]) (rest := []) (Nat.le_of_ble_eq_true rfl) rfl rfl (zCv_mono (fun h34 k => ?_) k)
        refine z_aload_n 0 dX12_readEdge_101 rfl rfl (Nat.le_of_ble_eq_true rfl) rfl ?_
        refine z_getF 12 13 (x := 476) fX12_43 rfl dX12_readEdge_102 rfl rfl ?_
        refine z_iload_n 1 dX12_readEdge_105 rfl rfl rfl ?_
        refine z_dup2 dX12_readEdge_106 (fun q => by cases q) (fun q => by cases q) rfl ?_
        obtain ⟨i9, k⟩ := k
        refine z_iald (x := (h34 476 x1)) dX12_readEdge_107 (by rw [zl_476]; exact i9) rfl rfl ?_
        refine z_iconst dX12_readEdge_108 rfl ?_
        refine z_iadd dX12_readEdge_109 rfl ?_
        obtain ⟨i9, k⟩ := k
        refine z_iast dX12_readEdge_110 (by rw [zl_476]; exact i9) rfl ?_
        exact z_return rfl dX12_readEdge_111 ⟨rfl, k⟩
      · have k := kb q
        exact z_return rfl dX12_readEdge_53 ⟨rfl, k⟩
theorem eX12_readEdge {G : zG} {d : Nat} {K : zH → Prop} {h : zH} (k : tX12_readEdge_0 G d K h) : zCv G (d + 1) mX12_readEdge [vr 12 466] h K := z_entry (by decide +kernel) (Nat.le_of_ble_eq_true rfl) rfl k
def tX12_readFree_0 (G : zG) (d : Nat) (K : zH → Prop) (h : zH) : Prop := zTv G (d + 1) mX12_readFree K 0 [some (vr 12 466), none, none, none] [] h
theorem bX12_readFree_0 {G : zG} {d : Nat} {K : zH → Prop} {h : zH} (k : zCi G d mX12_latest [vr 12 466] h (fun x1 h2 => zR (h2 466 10) ∧ (¬ (h2 466 10) = 0 → zCv G d mX12_next [vr 12 466] h2 (fun h4 => zCi G d mX12_readState [vr 12 466] h4 (fun x5 h6 => zCi G d mX12_readState [vr 12 466] h6 (fun x7 h8 => zR (h8 466 10) ∧ ((h8 466 10) ≤ 0 → ((0 : Int) ≤ x1 ∧ x1 < 4) ∧ ((0 : Int) ≤ ((x1 * 8) + (h8 477 x1)) ∧ ((x1 * 8) + (h8 477 x1)) < 32) ∧ ((0 : Int) ≤ x1 ∧ x1 < 4) ∧ ((0 : Int) ≤ ((x1 * 8) + (h8 477 x1)) ∧ ((x1 * 8) + (h8 477 x1)) < 32) ∧ ((0 : Int) ≤ x1 ∧ x1 < 4) ∧ ((0 : Int) ≤ x1 ∧ x1 < 4) ∧ K (zup (zup (zup h8 483 ((x1 * 8) + (h8 477 x1)) x5) 484 ((x1 * 8) + (h8 477 x1)) x7) 477 x1 ((h8 477 x1) + 1))) ∧ (¬ (h8 466 10) ≤ 0 → K h8))))) ∧ ((h2 466 10) = 0 → ((0 : Int) ≤ x1 ∧ x1 < 4) ∧ zR (h2 477 x1) ∧ (¬ (h2 477 x1) = 8 → zCv G d mX12_next [vr 12 466] h2 (fun h10 => zCi G d mX12_readState [vr 12 466] h10 (fun x11 h12 => zCi G d mX12_readState [vr 12 466] h12 (fun x13 h14 => zR (h14 466 10) ∧ ((h14 466 10) ≤ 0 → ((0 : Int) ≤ x1 ∧ x1 < 4) ∧ ((0 : Int) ≤ ((x1 * 8) + (h14 477 x1)) ∧ ((x1 * 8) + (h14 477 x1)) < 32) ∧ ((0 : Int) ≤ x1 ∧ x1 < 4) ∧ ((0 : Int) ≤ ((x1 * 8) + (h14 477 x1)) ∧ ((x1 * 8) + (h14 477 x1)) < 32) ∧ ((0 : Int) ≤ x1 ∧ x1 < 4) ∧ ((0 : Int) ≤ x1 ∧ x1 < 4) ∧ K (zup (zup (zup h14 483 ((x1 * 8) + (h14 477 x1)) x11) 484 ((x1 * 8) + (h14 477 x1)) x13) 477 x1 ((h14 477 x1) + 1))) ∧ (¬ (h14 466 10) ≤ 0 → K h14))))) ∧ ((h2 477 x1) = 8 → zCv G d mX12_wrong [vr 12 466, vi 5] h2 (fun h16 => zCv G d mX12_next [vr 12 466] h16 (fun h18 => zCi G d mX12_readState [vr 12 466] h18 (fun x19 h20 => zCi G d mX12_readState [vr 12 466] h20 (fun x21 h22 => zR (h22 466 10) ∧ ((h22 466 10) ≤ 0 → ((0 : Int) ≤ x1 ∧ x1 < 4) ∧ ((0 : Int) ≤ ((x1 * 8) + (h22 477 x1)) ∧ ((x1 * 8) + (h22 477 x1)) < 32) ∧ ((0 : Int) ≤ x1 ∧ x1 < 4) ∧ ((0 : Int) ≤ ((x1 * 8) + (h22 477 x1)) ∧ ((x1 * 8) + (h22 477 x1)) < 32) ∧ ((0 : Int) ≤ x1 ∧ x1 < 4) ∧ ((0 : Int) ≤ x1 ∧ x1 < 4) ∧ K (zup (zup (zup h22 483 ((x1 * 8) + (h22 477 x1)) x19) 484 ((x1 * 8) + (h22 477 x1)) x21) 477 x1 ((h22 477 x1) + 1))) ∧ (¬ (h22 466 10) ≤ 0 → K h22))))))))) : tX12_readFree_0 G d K h := by
  unfold tX12_readFree_0
  refine z_aload_n 0 dX12_readFree_0 rfl rfl (Nat.le_of_ble_eq_true rfl) rfl ?_
  refine z_callVi vX12_latest kX12_417 dX12_readFree_1 rfl (zRo_d d) (as := []) (rest := []) (Nat.le_of_ble_eq_true rfl) rfl rfl (zCi_mono (fun x1 h2 k => ?_) k)
  refine z_istore_n 1 dX12_readFree_4 rfl (Nat.le_of_ble_eq_true rfl) (L' := [some (vr 12 466), some (vi x1), none, none]) rfl rfl ?_
  refine z_aload_n 0 dX12_readFree_5 rfl rfl (Nat.le_of_ble_eq_true rfl) rfl ?_
  refine z_getI 12 (x := (h2 466 10)) fX12_208 rfl dX12_readFree_6 rfl rfl ?_
  obtain ⟨r1, ka, kb⟩ := k
  refine z_if_ne (tgt := 28) dX12_readFree_9 rfl r1 rfl ⟨fun q => ?_, fun q => ?_⟩
  · have k := ka q
    refine z_aload_n 0 dX12_readFree_28 rfl rfl (Nat.le_of_ble_eq_true rfl) rfl ?_
    refine z_callVv vX12_next kX12_262 dX12_readFree_29 rfl (zRo_d d) (as := []) (rest := []) (Nat.le_of_ble_eq_true rfl) rfl rfl (zCv_mono (fun h4 k => ?_) k)
    refine z_aload_n 0 dX12_readFree_32 rfl rfl (Nat.le_of_ble_eq_true rfl) rfl ?_
    refine z_callVi vX12_readState kX12_420 dX12_readFree_33 rfl (zRo_d d) (as := []) (rest := []) (Nat.le_of_ble_eq_true rfl) rfl rfl (zCi_mono (fun x5 h6 k => ?_) k)
    refine z_istore_n 2 dX12_readFree_36 rfl (Nat.le_of_ble_eq_true rfl) (L' := [some (vr 12 466), some (vi x1), some (vi x5), none]) rfl rfl ?_
    refine z_aload_n 0 dX12_readFree_37 rfl rfl (Nat.le_of_ble_eq_true rfl) rfl ?_
    refine z_callVi vX12_readState kX12_420 dX12_readFree_38 rfl (zRo_d d) (as := []) (rest := []) (Nat.le_of_ble_eq_true rfl) rfl rfl (zCi_mono (fun x7 h8 k => ?_) k)
    refine z_istore_n 3 dX12_readFree_41 rfl (Nat.le_of_ble_eq_true rfl) (L' := [some (vr 12 466), some (vi x1), some (vi x5), some (vi x7)]) rfl rfl ?_
    refine z_aload_n 0 dX12_readFree_42 rfl rfl (Nat.le_of_ble_eq_true rfl) rfl ?_
    refine z_getI 12 (x := (h8 466 10)) fX12_208 rfl dX12_readFree_43 rfl rfl ?_
    obtain ⟨r1, ka, kb⟩ := k
    refine z_if_le (tgt := 50) dX12_readFree_46 rfl r1 rfl ⟨fun q => ?_, fun q => ?_⟩
    · have k := ka q
      refine z_aload_n 0 dX12_readFree_50 rfl rfl (Nat.le_of_ble_eq_true rfl) rfl ?_
      refine z_getF 12 13 (x := 483) fX12_64 rfl dX12_readFree_51 rfl rfl ?_
      refine z_iload_n 1 dX12_readFree_54 rfl rfl rfl ?_
      refine z_bipush dX12_readFree_55 rfl rfl ?_
      refine z_imul dX12_readFree_57 rfl ?_
      refine z_aload_n 0 dX12_readFree_58 rfl rfl (Nat.le_of_ble_eq_true rfl) rfl ?_
      refine z_getF 12 13 (x := 477) fX12_46 rfl dX12_readFree_59 rfl rfl ?_
      refine z_iload_n 1 dX12_readFree_62 rfl rfl rfl ?_
      obtain ⟨i9, k⟩ := k
      refine z_iald (x := (h8 477 x1)) dX12_readFree_63 (by rw [zl_477]; exact i9) rfl rfl ?_
      refine z_iadd dX12_readFree_64 rfl ?_
      refine z_iload_n 2 dX12_readFree_65 rfl rfl rfl ?_
      obtain ⟨i9, k⟩ := k
      refine z_iast dX12_readFree_66 (by rw [zl_483]; exact i9) rfl ?_
      refine z_aload_n 0 dX12_readFree_67 rfl rfl (Nat.le_of_ble_eq_true rfl) rfl ?_
      refine z_getF 12 13 (x := 484) fX12_67 rfl dX12_readFree_68 rfl rfl ?_
      refine z_iload_n 1 dX12_readFree_71 rfl rfl rfl ?_
      refine z_bipush dX12_readFree_72 rfl rfl ?_
      refine z_imul dX12_readFree_74 rfl ?_
      refine z_aload_n 0 dX12_readFree_75 rfl rfl (Nat.le_of_ble_eq_true rfl) rfl ?_
      refine z_getF 12 13 (x := 477) fX12_46 rfl dX12_readFree_76 rfl rfl ?_
      refine z_iload_n 1 dX12_readFree_79 rfl rfl rfl ?_
      obtain ⟨i9, k⟩ := k
      refine z_iald (x := (h8 477 x1)) dX12_readFree_80 (by rw [zl_477]; exact i9) (by simp [zup]) rfl ?_
      refine z_iadd dX12_readFree_81 rfl ?_
      refine z_iload_n 3 dX12_readFree_82 rfl rfl rfl ?_
      obtain ⟨i9, k⟩ := k
      refine z_iast dX12_readFree_83 (by rw [zl_484]; exact i9) rfl ?_
      refine z_aload_n 0 dX12_readFree_84 rfl rfl (Nat.le_of_ble_eq_true rfl) rfl ?_
      refine z_getF 12 13 (x := 477) fX12_46 rfl dX12_readFree_85 rfl rfl ?_
      refine z_iload_n 1 dX12_readFree_88 rfl rfl rfl ?_
      refine z_dup2 dX12_readFree_89 (fun q => by cases q) (fun q => by cases q) rfl ?_
      obtain ⟨i9, k⟩ := k
      refine z_iald (x := (h8 477 x1)) dX12_readFree_90 (by rw [zl_477]; exact i9) (by simp [zup]) rfl ?_
      refine z_iconst dX12_readFree_91 rfl ?_
      refine z_iadd dX12_readFree_92 rfl ?_
      obtain ⟨i9, k⟩ := k
      refine z_iast dX12_readFree_93 (by rw [zl_477]; exact i9) rfl ?_
      exact z_return rfl dX12_readFree_94 ⟨rfl, k⟩
    · have k := kb q
      exact z_return rfl dX12_readFree_49 ⟨rfl, k⟩
  · have k := kb q
    refine z_aload_n 0 dX12_readFree_12 rfl rfl (Nat.le_of_ble_eq_true rfl) rfl ?_
    refine z_getF 12 13 (x := 477) fX12_46 rfl dX12_readFree_13 rfl rfl ?_
    refine z_iload_n 1 dX12_readFree_16 rfl rfl rfl ?_
    obtain ⟨i9, k⟩ := k
    refine z_iald (x := (h2 477 x1)) dX12_readFree_17 (by rw [zl_477]; exact i9) rfl rfl ?_
    refine z_bipush dX12_readFree_18 rfl rfl ?_
    obtain ⟨r1, ka, kb⟩ := k
    refine z_icmp_ne (tgt := 28) dX12_readFree_20 rfl r1 ⟨by decide, by decide⟩ rfl ⟨fun q => ?_, fun q => ?_⟩
    · have k := ka q
      refine z_aload_n 0 dX12_readFree_28 rfl rfl (Nat.le_of_ble_eq_true rfl) rfl ?_
      refine z_callVv vX12_next kX12_262 dX12_readFree_29 rfl (zRo_d d) (as := []) (rest := []) (Nat.le_of_ble_eq_true rfl) rfl rfl (zCv_mono (fun h10 k => ?_) k)
      refine z_aload_n 0 dX12_readFree_32 rfl rfl (Nat.le_of_ble_eq_true rfl) rfl ?_
      refine z_callVi vX12_readState kX12_420 dX12_readFree_33 rfl (zRo_d d) (as := []) (rest := []) (Nat.le_of_ble_eq_true rfl) rfl rfl (zCi_mono (fun x11 h12 k => ?_) k)
      refine z_istore_n 2 dX12_readFree_36 rfl (Nat.le_of_ble_eq_true rfl) (L' := [some (vr 12 466), some (vi x1), some (vi x11), none]) rfl rfl ?_
      refine z_aload_n 0 dX12_readFree_37 rfl rfl (Nat.le_of_ble_eq_true rfl) rfl ?_
      refine z_callVi vX12_readState kX12_420 dX12_readFree_38 rfl (zRo_d d) (as := []) (rest := []) (Nat.le_of_ble_eq_true rfl) rfl rfl (zCi_mono (fun x13 h14 k => ?_) k)
      refine z_istore_n 3 dX12_readFree_41 rfl (Nat.le_of_ble_eq_true rfl) (L' := [some (vr 12 466), some (vi x1), some (vi x11), some (vi x13)]) rfl rfl ?_
      refine z_aload_n 0 dX12_readFree_42 rfl rfl (Nat.le_of_ble_eq_true rfl) rfl ?_
      refine z_getI 12 (x := (h14 466 10)) fX12_208 rfl dX12_readFree_43 rfl rfl ?_
      obtain ⟨r1, ka, kb⟩ := k
      refine z_if_le (tgt := 50) dX12_readFree_46 rfl r1 rfl ⟨fun q => ?_, fun q => ?_⟩
      · have k := ka q
        refine z_aload_n 0 dX12_readFree_50 rfl rfl (Nat.le_of_ble_eq_true rfl) rfl ?_
        refine z_getF 12 13 (x := 483) fX12_64 rfl dX12_readFree_51 rfl rfl ?_
        refine z_iload_n 1 dX12_readFree_54 rfl rfl rfl ?_
        refine z_bipush dX12_readFree_55 rfl rfl ?_
        refine z_imul dX12_readFree_57 rfl ?_
        refine z_aload_n 0 dX12_readFree_58 rfl rfl (Nat.le_of_ble_eq_true rfl) rfl ?_
        refine z_getF 12 13 (x := 477) fX12_46 rfl dX12_readFree_59 rfl rfl ?_
        refine z_iload_n 1 dX12_readFree_62 rfl rfl rfl ?_
        obtain ⟨i9, k⟩ := k
        refine z_iald (x := (h14 477 x1)) dX12_readFree_63 (by rw [zl_477]; exact i9) rfl rfl ?_
        refine z_iadd dX12_readFree_64 rfl ?_
        refine z_iload_n 2 dX12_readFree_65 rfl rfl rfl ?_
        obtain ⟨i9, k⟩ := k
        refine z_iast dX12_readFree_66 (by rw [zl_483]; exact i9) rfl ?_
        refine z_aload_n 0 dX12_readFree_67 rfl rfl (Nat.le_of_ble_eq_true rfl) rfl ?_
        refine z_getF 12 13 (x := 484) fX12_67 rfl dX12_readFree_68 rfl rfl ?_
        refine z_iload_n 1 dX12_readFree_71 rfl rfl rfl ?_
        refine z_bipush dX12_readFree_72 rfl rfl ?_
        refine z_imul dX12_readFree_74 rfl ?_
        refine z_aload_n 0 dX12_readFree_75 rfl rfl (Nat.le_of_ble_eq_true rfl) rfl ?_
        refine z_getF 12 13 (x := 477) fX12_46 rfl dX12_readFree_76 rfl rfl ?_
        refine z_iload_n 1 dX12_readFree_79 rfl rfl rfl ?_
        obtain ⟨i9, k⟩ := k
        refine z_iald (x := (h14 477 x1)) dX12_readFree_80 (by rw [zl_477]; exact i9) (by simp [zup]) rfl ?_
        refine z_iadd dX12_readFree_81 rfl ?_
        refine z_iload_n 3 dX12_readFree_82 rfl rfl rfl ?_
        obtain ⟨i9, k⟩ := k
        refine z_iast dX12_readFree_83 (by rw [zl_484]; exact i9) rfl ?_
        refine z_aload_n 0 dX12_readFree_84 rfl rfl (Nat.le_of_ble_eq_true rfl) rfl ?_
        refine z_getF 12 13 (x := 477) fX12_46 rfl dX12_readFree_85 rfl rfl ?_
        refine z_iload_n 1 dX12_readFree_88 rfl rfl rfl ?_
        refine z_dup2 dX12_readFree_89 (fun q => by cases q) (fun q => by cases q) rfl ?_
        obtain ⟨i9, k⟩ := k
        refine z_iald (x := (h14 477 x1)) dX12_readFree_90 (by rw [zl_477]; exact i9) (by simp [zup]) rfl ?_
        refine z_iconst dX12_readFree_91 rfl ?_
        refine z_iadd dX12_readFree_92 rfl ?_
        obtain ⟨i9, k⟩ := k
        refine z_iast dX12_readFree_93 (by rw [zl_477]; exact i9) rfl ?_
        exact z_return rfl dX12_readFree_94 ⟨rfl, k⟩
      · have k := kb q
        exact z_return rfl dX12_readFree_49 ⟨rfl, k⟩
    · have k := kb q
      refine z_aload_n 0 dX12_readFree_23 rfl rfl (Nat.le_of_ble_eq_true rfl) rfl ?_
      refine z_iconst dX12_readFree_24 rfl ?_
      refine z_callVv vX12_wrong kX12_268 dX12_readFree_25 rfl (zRo_d d) (as := [vi 5]) (rest := []) (Nat.le_of_ble_eq_true rfl) rfl rfl (zCv_mono (fun h16 k => ?_) k)
      refine z_aload_n 0 dX12_readFree_28 rfl rfl (Nat.le_of_ble_eq_true rfl) rfl ?_
      refine z_callVv vX12_next kX12_262 dX12_readFree_29 rfl (zRo_d d) (as := []) (rest := []) (Nat.le_of_ble_eq_true rfl) rfl rfl (zCv_mono (fun h18 k => ?_) k)
      refine z_aload_n 0 dX12_readFree_32 rfl rfl (Nat.le_of_ble_eq_true rfl) rfl ?_
      refine z_callVi vX12_readState kX12_420 dX12_readFree_33 rfl (zRo_d d) (as := []) (rest := []) (Nat.le_of_ble_eq_true rfl) rfl rfl (zCi_mono (fun x19 h20 k => ?_) k)
      refine z_istore_n 2 dX12_readFree_36 rfl (Nat.le_of_ble_eq_true rfl) (L' := [some (vr 12 466), some (vi x1), some (vi x19), none]) rfl rfl ?_
      refine z_aload_n 0 dX12_readFree_37 rfl rfl (Nat.le_of_ble_eq_true rfl) rfl ?_
      refine z_callVi vX12_readState kX12_420 dX12_readFree_38 rfl (zRo_d d) (as := []) (rest := []) (Nat.le_of_ble_eq_true rfl) rfl rfl (zCi_mono (fun x21 h22 k => ?_) k)
      refine z_istore_n 3 dX12_readFree_41 rfl (Nat.le_of_ble_eq_true rfl) (L' := [some (vr 12 466), some (vi x1), some (vi x19), some (vi x21)]) rfl rfl ?_
      refine z_aload_n 0 dX12_readFree_42 rfl rfl (Nat.le_of_ble_eq_true rfl) rfl ?_
      refine z_getI 12 (x := (h22 466 10)) fX12_208 rfl dX12_readFree_43 rfl rfl ?_
      obtain ⟨r1, ka, kb⟩ := k
      refine z_if_le (tgt := 50) dX12_readFree_46 rfl r1 rfl ⟨fun q => ?_, fun q => ?_⟩
      · have k := ka q
        refine z_aload_n 0 dX12_readFree_50 rfl rfl (Nat.le_of_ble_eq_true rfl) rfl ?_
        refine z_getF 12 13 (x := 483) fX12_64 rfl dX12_readFree_51 rfl rfl ?_
        refine z_iload_n 1 dX12_readFree_54 rfl rfl rfl ?_
        refine z_bipush dX12_readFree_55 rfl rfl ?_
        refine z_imul dX12_readFree_57 rfl ?_
        refine z_aload_n 0 dX12_readFree_58 rfl rfl (Nat.le_of_ble_eq_true rfl) rfl ?_
        refine z_getF 12 13 (x := 477) fX12_46 rfl dX12_readFree_59 rfl rfl ?_
        refine z_iload_n 1 dX12_readFree_62 rfl rfl rfl ?_
        obtain ⟨i9, k⟩ := k
        refine z_iald (x := (h22 477 x1)) dX12_readFree_63 (by rw [zl_477]; exact i9) rfl rfl ?_
        refine z_iadd dX12_readFree_64 rfl ?_
        refine z_iload_n 2 dX12_readFree_65 rfl rfl rfl ?_
        obtain ⟨i9, k⟩ := k
        refine z_iast dX12_readFree_66 (by rw [zl_483]; exact i9) rfl ?_
        refine z_aload_n 0 dX12_readFree_67 rfl rfl (Nat.le_of_ble_eq_true rfl) rfl ?_
        refine z_getF 12 13 (x := 484) fX12_67 rfl dX12_readFree_68 rfl rfl ?_
        refine z_iload_n 1 dX12_readFree_71 rfl rfl rfl ?_
        refine z_bipush dX12_readFree_72 rfl rfl ?_
        refine z_imul dX12_readFree_74 rfl ?_
        refine z_aload_n 0 dX12_readFree_75 rfl rfl (Nat.le_of_ble_eq_true rfl) rfl ?_
        refine z_getF 12 13 (x := 477) fX12_46 rfl dX12_readFree_76 rfl rfl ?_
        refine z_iload_n 1 dX12_readFree_79 rfl rfl rfl ?_
        obtain ⟨i9, k⟩ := k
        refine z_iald (x := (h22 477 x1)) dX12_readFree_80 (by rw [zl_477]; exact i9) (by simp [zup]) rfl ?_
        refine z_iadd dX12_readFree_81 rfl ?_
        refine z_iload_n 3 dX12_readFree_82 rfl rfl rfl ?_
        obtain ⟨i9, k⟩ := k
        refine z_iast dX12_readFree_83 (by rw [zl_484]; exact i9) rfl ?_
        refine z_aload_n 0 dX12_readFree_84 rfl rfl (Nat.le_of_ble_eq_true rfl) rfl ?_
        refine z_getF 12 13 (x := 477) fX12_46 rfl dX12_readFree_85 rfl rfl ?_
        refine z_iload_n 1 dX12_readFree_88 rfl rfl rfl ?_
        refine z_dup2 dX12_readFree_89 (fun q => by cases q) (fun q => by cases q) rfl ?_
        obtain ⟨i9, k⟩ := k
        refine z_iald (x := (h22 477 x1)) dX12_readFree_90 (by rw [zl_477]; exact i9) (by simp [zup]) rfl ?_
        refine z_iconst dX12_readFree_91 rfl ?_
        refine z_iadd dX12_readFree_92 rfl ?_
        obtain ⟨i9, k⟩ := k
        refine z_iast dX12_readFree_93 (by rw [zl_477]; exact i9) rfl ?_
        exact z_return rfl dX12_readFree_94 ⟨rfl, k⟩
      · have k := kb q
        exact z_return rfl dX12_readFree_49 ⟨rfl, k⟩
theorem eX12_readFree {G : zG} {d : Nat} {K : zH → Prop} {h : zH} (k : tX12_readFree_0 G d K h) : zCv G (d + 1) mX12_readFree [vr 12 466] h K := z_entry (by decide +kernel) (Nat.le_of_ble_eq_true rfl) rfl k
def tX12_readEnd_0 (G : zG) (d : Nat) (K : zH → Prop) (h : zH) : Prop := zTv G (d + 1) mX12_readEnd K 0 [some (vr 12 466), none, none] [] h
theorem bX12_readEnd_0 {G : zG} {d : Nat} {K : zH → Prop} {h : zH} (k : zCi G d mX12_latest [vr 12 466] h (fun x1 h2 => zCv G d mX12_next [vr 12 466] h2 (fun h4 => zCi G d mX12_state [vr 12 466] h4 (fun x5 h6 => zR (h6 466 10) ∧ (¬ (h6 466 10) = 0 → zCv G d mX12_next [vr 12 466] h6 (fun h8 => zR (h8 466 10) ∧ (¬ (h8 466 10) = 0 → K h8) ∧ ((h8 466 10) = 0 → ((0 : Int) ≤ x1 ∧ x1 < 4) ∧ ((0 : Int) ≤ x1 ∧ x1 < 4) ∧ K (zup h8 485 x1 (zlor (h8 485 x1) (zlshl 1 x5)))))) ∧ ((h6 466 10) = 0 → ((0 : Int) ≤ x1 ∧ x1 < 4) ∧ zCb G d mX12_bit [vl (h6 485 x1), vi x5] h6 (fun x9 h10 => (x9 = false → zCv G d mX12_next [vr 12 466] h10 (fun h12 => zR (h12 466 10) ∧ (¬ (h12 466 10) = 0 → K h12) ∧ ((h12 466 10) = 0 → ((0 : Int) ≤ x1 ∧ x1 < 4) ∧ ((0 : Int) ≤ x1 ∧ x1 < 4) ∧ K (zup h12 485 x1 (zlor (h12 485 x1) (zlshl 1 x5)))))) ∧ (x9 = true → zCv G d mX12_wrong [vr 12 466, vi 3] h10 (fun h14 => zCv G d mX12_next [vr 12 466] h14 (fun h16 => zR (h16 466 10) ∧ (¬ (h16 466 10) = 0 → K h16) ∧ ((h16 466 10) = 0 → ((0 : Int) ≤ x1 ∧ x1 < 4) ∧ ((0 : Int) ≤ x1 ∧ x1 < 4) ∧ K (zup h16 485 x1 (zlor (h16 485 x1) (zlshl 1 x5))))))))))))) : tX12_readEnd_0 G d K h := by
  unfold tX12_readEnd_0
  refine z_aload_n 0 dX12_readEnd_0 rfl rfl (Nat.le_of_ble_eq_true rfl) rfl ?_
  refine z_callVi vX12_latest kX12_417 dX12_readEnd_1 rfl (zRo_d d) (as := []) (rest := []) (Nat.le_of_ble_eq_true rfl) rfl rfl (zCi_mono (fun x1 h2 k => ?_) k)
  refine z_istore_n 1 dX12_readEnd_4 rfl (Nat.le_of_ble_eq_true rfl) (L' := [some (vr 12 466), some (vi x1), none]) rfl rfl ?_
  refine z_aload_n 0 dX12_readEnd_5 rfl rfl (Nat.le_of_ble_eq_true rfl) rfl ?_
  refine z_callVv vX12_next kX12_262 dX12_readEnd_6 rfl (zRo_d d) (as := []) (rest := []) (Nat.le_of_ble_eq_true rfl) rfl rfl (zCv_mono (fun h4 k => ?_) k)
  refine z_aload_n 0 dX12_readEnd_9 rfl rfl (Nat.le_of_ble_eq_true rfl) rfl ?_
  refine z_callVi vX12_state kX12_414 dX12_readEnd_10 rfl (zRo_d d) (as := []) (rest := []) (Nat.le_of_ble_eq_true rfl) rfl rfl (zCi_mono (fun x5 h6 k => ?_) k)
  refine z_istore_n 2 dX12_readEnd_13 rfl (Nat.le_of_ble_eq_true rfl) (L' := [some (vr 12 466), some (vi x1), some (vi x5)]) rfl rfl ?_
  refine z_aload_n 0 dX12_readEnd_14 rfl rfl (Nat.le_of_ble_eq_true rfl) rfl ?_
  refine z_getI 12 (x := (h6 466 10)) fX12_208 rfl dX12_readEnd_15 rfl rfl ?_
  obtain ⟨r1, ka, kb⟩ := k
  refine z_if_ne (tgt := 39) dX12_readEnd_18 rfl r1 rfl ⟨fun q => ?_, fun q => ?_⟩
  · have k := ka q
    refine z_aload_n 0 dX12_readEnd_39 rfl rfl (Nat.le_of_ble_eq_true rfl) rfl ?_
    refine z_callVv vX12_next kX12_262 dX12_readEnd_40 rfl (zRo_d d) (as := []) (rest := []) (Nat.le_of_ble_eq_true rfl) rfl rfl (zCv_mono (fun h8 k => ?_) k)
    refine z_aload_n 0 dX12_readEnd_43 rfl rfl (Nat.le_of_ble_eq_true rfl) rfl ?_
    refine z_getI 12 (x := (h8 466 10)) fX12_208 rfl dX12_readEnd_44 rfl rfl ?_
    obtain ⟨r1, ka, kb⟩ := k
    refine z_if_ne (tgt := 62) dX12_readEnd_47 rfl r1 rfl ⟨fun q => ?_, fun q => ?_⟩
    · have k := ka q
      exact z_return rfl dX12_readEnd_62 ⟨rfl, k⟩
    · have k := kb q
      refine z_aload_n 0 dX12_readEnd_50 rfl rfl (Nat.le_of_ble_eq_true rfl) rfl ?_
      refine z_getF 12 14 (x := 485) fX12_70 rfl dX12_readEnd_51 rfl rfl ?_
      refine z_iload_n 1 dX12_readEnd_54 rfl rfl rfl ?_
      refine z_dup2 dX12_readEnd_55 (fun q => by cases q) (fun q => by cases q) rfl ?_
      obtain ⟨i9, k⟩ := k
      refine z_lald (x := (h8 485 x1)) dX12_readEnd_56 (by rw [zl_485]; exact i9) rfl rfl ?_
      refine z_lconst (x := 1) dX12_readEnd_57 rfl rfl ?_
      refine z_iload_n 2 dX12_readEnd_58 rfl rfl rfl ?_
      refine z_lshl dX12_readEnd_59 rfl ?_
      refine z_lor dX12_readEnd_60 rfl ?_
      obtain ⟨i9, k⟩ := k
      refine z_last dX12_readEnd_61 (by rw [zl_485]; exact i9) rfl ?_
      exact z_return rfl dX12_readEnd_62 ⟨rfl, k⟩
  · have k := kb q
    refine z_aload_n 0 dX12_readEnd_21 rfl rfl (Nat.le_of_ble_eq_true rfl) rfl ?_
    refine z_getF 12 14 (x := 485) fX12_70 rfl dX12_readEnd_22 rfl rfl ?_
    refine z_iload_n 1 dX12_readEnd_25 rfl rfl rfl ?_
    obtain ⟨i9, k⟩ := k
    refine z_lald (x := (h6 485 x1)) dX12_readEnd_26 (by rw [zl_485]; exact i9) rfl rfl ?_
    refine z_iload_n 2 dX12_readEnd_27 rfl rfl rfl ?_
    refine z_callSb sX12_bit kX12_366 dX12_readEnd_28 rfl (zRo_d d) (as := [vl (h6 485 x1), vi x5]) (rest := []) (Nat.le_of_ble_eq_true rfl) rfl rfl (zCb_mono (fun x9 h10 k => ?_) k)
    obtain ⟨ka, kb⟩ := k
    refine z_ifb_eq (tgt := 39) dX12_readEnd_31 rfl rfl ⟨fun q => ?_, fun q => ?_⟩
    · have k := ka q
      refine z_aload_n 0 dX12_readEnd_39 rfl rfl (Nat.le_of_ble_eq_true rfl) rfl ?_
      refine z_callVv vX12_next kX12_262 dX12_readEnd_40 rfl (zRo_d d) (as := []) (rest := []) (Nat.le_of_ble_eq_true rfl) rfl rfl (zCv_mono (fun h12 k => ?_) k)
      refine z_aload_n 0 dX12_readEnd_43 rfl rfl (Nat.le_of_ble_eq_true rfl) rfl ?_
      refine z_getI 12 (x := (h12 466 10)) fX12_208 rfl dX12_readEnd_44 rfl rfl ?_
      obtain ⟨r1, ka, kb⟩ := k
      refine z_if_ne (tgt := 62) dX12_readEnd_47 rfl r1 rfl ⟨fun q => ?_, fun q => ?_⟩
      · have k := ka q
        exact z_return rfl dX12_readEnd_62 ⟨rfl, k⟩
      · have k := kb q
        refine z_aload_n 0 dX12_readEnd_50 rfl rfl (Nat.le_of_ble_eq_true rfl) rfl ?_
        refine z_getF 12 14 (x := 485) fX12_70 rfl dX12_readEnd_51 rfl rfl ?_
        refine z_iload_n 1 dX12_readEnd_54 rfl rfl rfl ?_
        refine z_dup2 dX12_readEnd_55 (fun q => by cases q) (fun q => by cases q) rfl ?_
        obtain ⟨i9, k⟩ := k
        refine z_lald (x := (h12 485 x1)) dX12_readEnd_56 (by rw [zl_485]; exact i9) rfl rfl ?_
        refine z_lconst (x := 1) dX12_readEnd_57 rfl rfl ?_
        refine z_iload_n 2 dX12_readEnd_58 rfl rfl rfl ?_
        refine z_lshl dX12_readEnd_59 rfl ?_
        refine z_lor dX12_readEnd_60 rfl ?_
        obtain ⟨i9, k⟩ := k
        refine z_last dX12_readEnd_61 (by rw [zl_485]; exact i9) rfl ?_
        exact z_return rfl dX12_readEnd_62 ⟨rfl, k⟩
    · have k := kb q
      refine z_aload_n 0 dX12_readEnd_34 rfl rfl (Nat.le_of_ble_eq_true rfl) rfl ?_
      refine z_iconst dX12_readEnd_35 rfl ?_
      refine z_callVv vX12_wrong kX12_268 dX12_readEnd_36 rfl (zRo_d d) (as := [vi 3]) (rest := []) (Nat.le_of_ble_eq_true rfl) rfl rfl (zCv_mono (fun h14 k => ?_) k)
      refine z_aload_n 0 dX12_readEnd_39 rfl rfl (Nat.le_of_ble_eq_true rfl) rfl ?_
      refine z_callVv vX12_next kX12_262 dX12_readEnd_40 rfl (zRo_d d) (as := []) (rest := []) (Nat.le_of_ble_eq_true rfl) rfl rfl (zCv_mono (fun h16 k => ?_) k)
      refine z_aload_n 0 dX12_readEnd_43 rfl rfl (Nat.le_of_ble_eq_true rfl) rfl ?_
      refine z_getI 12 (x := (h16 466 10)) fX12_208 rfl dX12_readEnd_44 rfl rfl ?_
      obtain ⟨r1, ka, kb⟩ := k
      refine z_if_ne (tgt := 62) dX12_readEnd_47 rfl r1 rfl ⟨fun q => ?_, fun q => ?_⟩
      · have k := ka q
        exact z_return rfl dX12_readEnd_62 ⟨rfl, k⟩
      · have k := kb q
        refine z_aload_n 0 dX12_readEnd_50 rfl rfl (Nat.le_of_ble_eq_true rfl) rfl ?_
        refine z_getF 12 14 (x := 485) fX12_70 rfl dX12_readEnd_51 rfl rfl ?_
        refine z_iload_n 1 dX12_readEnd_54 rfl rfl rfl ?_
        refine z_dup2 dX12_readEnd_55 (fun q => by cases q) (fun q => by cases q) rfl ?_
        obtain ⟨i9, k⟩ := k
        refine z_lald (x := (h16 485 x1)) dX12_readEnd_56 (by rw [zl_485]; exact i9) rfl rfl ?_
        refine z_lconst (x := 1) dX12_readEnd_57 rfl rfl ?_
        refine z_iload_n 2 dX12_readEnd_58 rfl rfl rfl ?_
        refine z_lshl dX12_readEnd_59 rfl ?_
        refine z_lor dX12_readEnd_60 rfl ?_
        obtain ⟨i9, k⟩ := k
        refine z_last dX12_readEnd_61 (by rw [zl_485]; exact i9) rfl ?_
        exact z_return rfl dX12_readEnd_62 ⟨rfl, k⟩
theorem eX12_readEnd {G : zG} {d : Nat} {K : zH → Prop} {h : zH} (k : tX12_readEnd_0 G d K h) : zCv G (d + 1) mX12_readEnd [vr 12 466] h K := z_entry (by decide +kernel) (Nat.le_of_ble_eq_true rfl) rfl k
def tX12_feed_0 (G : zG) (d : Nat) (K : Int → zH → Prop) (l1 : Int) (l2 : Int) (l3 : Int) (l4 : Int) (l5 : Int) (h : zH) : Prop := zTi G d mX12_feed K 0 [some (vr 12 466), some (vi l1), some (vi l2), some (vi l3), some (vi l4), some (vi l5), none, none] [] h
def tX12_feed_23 (G : zG) (d : Nat) (K : Int → zH → Prop) (l1 : Int) (l2 : Int) (l3 : Int) (l4 : Int) (l5 : Int) (l6 : Int) (h : zH) : Prop := zTi G d mX12_feed K 23 [some (vr 12 466), some (vi l1), some (vi l2), some (vi l3), some (vi l4), some (vi l5), some (vi l6), none] [] h
theorem bX12_feed_0 {G : zG} {d : Nat} {K : Int → zH → Prop} {l1 : Int} {l2 : Int} {l3 : Int} {l4 : Int} {l5 : Int} {h : zH} (k : zR ((h 466 4) + 20) ∧ (((h 466 4) + 20) ≤ 900 → tX12_feed_23 G d K l1 l2 l3 l4 l5 0 (zup h 466 0 0)) ∧ (¬ ((h 466 4) + 20) ≤ 900 → K (-1) (zup h 466 0 0))) : tX12_feed_0 G d K l1 l2 l3 l4 l5 h := by
  unfold tX12_feed_0
  refine z_aload_n 0 dX12_feed_0 rfl rfl (Nat.le_of_ble_eq_true rfl) rfl ?_
  refine z_iconst dX12_feed_1 rfl ?_
  refine z_putI 12 gX12_190 dX12_feed_2 rfl ?_
  refine z_aload_n 0 dX12_feed_5 rfl rfl (Nat.le_of_ble_eq_true rfl) rfl ?_
  refine z_getI 12 (x := (h 466 4)) fX12_423 rfl dX12_feed_6 (by simp [zup]) rfl ?_
  refine z_bipush dX12_feed_9 rfl rfl ?_
  refine z_iadd dX12_feed_11 rfl ?_
  refine z_sipush dX12_feed_12 rfl rfl ?_
  obtain ⟨r1, ka, kb⟩ := k
  refine z_icmp_le (tgt := 20) dX12_feed_15 rfl r1 ⟨by decide, by decide⟩ rfl ⟨fun q => ?_, fun q => ?_⟩
  · have k := ka q
    refine z_iconst dX12_feed_20 rfl ?_
    refine z_istore dX12_feed_21 (Nat.le_of_ble_eq_true rfl) (L' := [some (vr 12 466), some (vi l1), some (vi l2), some (vi l3), some (vi l4), some (vi l5), some (vi 0), none]) rfl rfl ?_
    exact z_sub (L' := [some (vr 12 466), some (vi l1), some (vi l2), some (vi l3), some (vi l4), some (vi l5), some (vi 0), none]) (And.intro rfl (And.intro rfl (And.intro rfl (And.intro rfl (And.intro rfl (And.intro rfl (And.intro rfl trivial))))))) k
  · have k := kb q
    refine z_iconst dX12_feed_18 rfl ?_
    exact z_ireturn rfl dX12_feed_19 ⟨_, rfl, k⟩
theorem bX12_feed_23 {G : zG} {d : Nat} {K : Int → zH → Prop} {l1 : Int} {l2 : Int} {l3 : Int} {l4 : Int} {l5 : Int} {l6 : Int} {h : zH} (k : zR l6 ∧ (20 ≤ l6 → K (h 466 4) h) ∧ (¬ 20 ≤ l6 → zR l6 ∧ (4 ≤ l6 → zR l6 ∧ (8 ≤ l6 → zR l6 ∧ (12 ≤ l6 → zR l6 ∧ (16 ≤ l6 → (0 ≤ l6 ∧ l6 < 2147483648) ∧ ((0 : Int) ≤ (h 466 4) ∧ (h 466 4) < 900) ∧ tX12_feed_23 G d K l1 l2 l3 l4 l5 (l6 + 1) (zup (zup h 467 (h 466 4) (zi2b (zi2b (zishr l5 (24 - (8 * (l6 % 4))))))) 466 4 ((h 466 4) + 1))) ∧ (¬ 16 ≤ l6 → (0 ≤ l6 ∧ l6 < 2147483648) ∧ ((0 : Int) ≤ (h 466 4) ∧ (h 466 4) < 900) ∧ tX12_feed_23 G d K l1 l2 l3 l4 l5 (l6 + 1) (zup (zup h 467 (h 466 4) (zi2b (zi2b (zishr l4 (24 - (8 * (l6 % 4))))))) 466 4 ((h 466 4) + 1)))) ∧ (¬ 12 ≤ l6 → (0 ≤ l6 ∧ l6 < 2147483648) ∧ ((0 : Int) ≤ (h 466 4) ∧ (h 466 4) < 900) ∧ tX12_feed_23 G d K l1 l2 l3 l4 l5 (l6 + 1) (zup (zup h 467 (h 466 4) (zi2b (zi2b (zishr l3 (24 - (8 * (l6 % 4))))))) 466 4 ((h 466 4) + 1)))) ∧ (¬ 8 ≤ l6 → (0 ≤ l6 ∧ l6 < 2147483648) ∧ ((0 : Int) ≤ (h 466 4) ∧ (h 466 4) < 900) ∧ tX12_feed_23 G d K l1 l2 l3 l4 l5 (l6 + 1) (zup (zup h 467 (h 466 4) (zi2b (zi2b (zishr l2 (24 - (8 * (l6 % 4))))))) 466 4 ((h 466 4) + 1)))) ∧ (¬ 4 ≤ l6 → (0 ≤ l6 ∧ l6 < 2147483648) ∧ ((0 : Int) ≤ (h 466 4) ∧ (h 466 4) < 900) ∧ tX12_feed_23 G d K l1 l2 l3 l4 l5 (l6 + 1) (zup (zup h 467 (h 466 4) (zi2b (zi2b (zishr l1 (24 - (8 * (l6 % 4))))))) 466 4 ((h 466 4) + 1))))) : tX12_feed_23 G d K l1 l2 l3 l4 l5 l6 h := by
  unfold tX12_feed_23
  refine z_iload dX12_feed_23 rfl rfl ?_
  refine z_bipush dX12_feed_25 rfl rfl ?_
  obtain ⟨r1, ka, kb⟩ := k
  refine z_icmp_ge (tgt := 117) dX12_feed_27 rfl r1 ⟨by decide, by decide⟩ rfl ⟨fun q => ?_, fun q => ?_⟩
  · have k := ka q
    refine z_aload_n 0 dX12_feed_117 rfl rfl (Nat.le_of_ble_eq_true rfl) rfl ?_
    refine z_getI 12 (x := (h 466 4)) fX12_423 rfl dX12_feed_118 rfl rfl ?_
    exact z_ireturn rfl dX12_feed_121 ⟨_, rfl, k⟩
  · have k := kb q
    refine z_iload dX12_feed_30 rfl rfl ?_
    refine z_iconst dX12_feed_32 rfl ?_
    obtain ⟨r1, ka, kb⟩ := k
    refine z_icmp_ge (tgt := 40) dX12_feed_33 rfl r1 ⟨by decide, by decide⟩ rfl ⟨fun q => ?_, fun q => ?_⟩
    · have k := ka q
      refine z_iload dX12_feed_40 rfl rfl ?_
      refine z_bipush dX12_feed_42 rfl rfl ?_
      obtain ⟨r1, ka, kb⟩ := k
      refine z_icmp_ge (tgt := 51) dX12_feed_44 rfl r1 ⟨by decide, by decide⟩ rfl ⟨fun q => ?_, fun q => ?_⟩
      · have k := ka q
        refine z_iload dX12_feed_51 rfl rfl ?_
        refine z_bipush dX12_feed_53 rfl rfl ?_
        obtain ⟨r1, ka, kb⟩ := k
        refine z_icmp_ge (tgt := 62) dX12_feed_55 rfl r1 ⟨by decide, by decide⟩ rfl ⟨fun q => ?_, fun q => ?_⟩
        · have k := ka q
          refine z_iload dX12_feed_62 rfl rfl ?_
          refine z_bipush dX12_feed_64 rfl rfl ?_
          obtain ⟨r1, ka, kb⟩ := k
          refine z_icmp_ge (tgt := 74) dX12_feed_66 rfl r1 ⟨by decide, by decide⟩ rfl ⟨fun q => ?_, fun q => ?_⟩
          · have k := ka q
            refine z_iload dX12_feed_74 rfl rfl ?_
            refine z_istore dX12_feed_76 (Nat.le_of_ble_eq_true rfl) (L' := [some (vr 12 466), some (vi l1), some (vi l2), some (vi l3), some (vi l4), some (vi l5), some (vi l6), some (vi l5)]) rfl rfl ?_
            refine z_aload_n 0 dX12_feed_78 rfl rfl (Nat.le_of_ble_eq_true rfl) rfl ?_
            refine z_getF 12 15 (x := 467) fX12_13 rfl dX12_feed_79 rfl rfl ?_
            refine z_aload_n 0 dX12_feed_82 rfl rfl (Nat.le_of_ble_eq_true rfl) rfl ?_
            refine z_getI 12 (x := (h 466 4)) fX12_423 rfl dX12_feed_83 rfl rfl ?_
            refine z_iload dX12_feed_86 rfl rfl ?_
            refine z_bipush dX12_feed_88 rfl rfl ?_
            refine z_bipush dX12_feed_90 rfl rfl ?_
            refine z_iload dX12_feed_92 rfl rfl ?_
            refine z_iconst dX12_feed_94 rfl ?_
            obtain ⟨i9, k⟩ := k
            refine z_irem dX12_feed_95 ⟨i9.1, i9.2, by decide, by decide⟩ rfl ?_
            refine z_imul dX12_feed_96 rfl ?_
            refine z_isub dX12_feed_97 rfl ?_
            refine z_ishr dX12_feed_98 rfl ?_
            refine z_i2b dX12_feed_99 rfl ?_
            obtain ⟨i9, k⟩ := k
            refine z_bast dX12_feed_100 (by rw [zl_467]; exact i9) rfl ?_
            refine z_aload_n 0 dX12_feed_101 rfl rfl (Nat.le_of_ble_eq_true rfl) rfl ?_
            refine z_dup dX12_feed_102 (fun q => by cases q) rfl ?_
            refine z_getI 12 (x := (h 466 4)) fX12_423 rfl dX12_feed_103 (by simp [zup]) rfl ?_
            refine z_iconst dX12_feed_106 rfl ?_
            refine z_iadd dX12_feed_107 rfl ?_
            refine z_putI 12 gX12_423 dX12_feed_108 rfl ?_
            refine z_iinc dX12_feed_111 rfl (Nat.le_of_ble_eq_true rfl) (L' := [some (vr 12 466), some (vi l1), some (vi l2), some (vi l3), some (vi l4), some (vi l5), some (vi (l6 + 1)), some (vi l5)]) rfl rfl ?_
            refine z_goto (tgt := 23) dX12_feed_114 rfl ?_
            exact z_sub (L' := [some (vr 12 466), some (vi l1), some (vi l2), some (vi l3), some (vi l4), some (vi l5), some (vi (l6 + 1)), none]) (And.intro rfl (And.intro rfl (And.intro rfl (And.intro rfl (And.intro rfl (And.intro rfl (And.intro rfl trivial))))))) k
          · have k := kb q
            refine z_iload dX12_feed_69 rfl rfl ?_
            refine z_goto (tgt := 76) dX12_feed_71 rfl ?_
            refine z_istore dX12_feed_76 (Nat.le_of_ble_eq_true rfl) (L' := [some (vr 12 466), some (vi l1), some (vi l2), some (vi l3), some (vi l4), some (vi l5), some (vi l6), some (vi l4)]) rfl rfl ?_
            refine z_aload_n 0 dX12_feed_78 rfl rfl (Nat.le_of_ble_eq_true rfl) rfl ?_
            refine z_getF 12 15 (x := 467) fX12_13 rfl dX12_feed_79 rfl rfl ?_
            refine z_aload_n 0 dX12_feed_82 rfl rfl (Nat.le_of_ble_eq_true rfl) rfl ?_
            refine z_getI 12 (x := (h 466 4)) fX12_423 rfl dX12_feed_83 rfl rfl ?_
            refine z_iload dX12_feed_86 rfl rfl ?_
            refine z_bipush dX12_feed_88 rfl rfl ?_
            refine z_bipush dX12_feed_90 rfl rfl ?_
            refine z_iload dX12_feed_92 rfl rfl ?_
            refine z_iconst dX12_feed_94 rfl ?_
            obtain ⟨i9, k⟩ := k
            refine z_irem dX12_feed_95 ⟨i9.1, i9.2, by decide, by decide⟩ rfl ?_
            refine z_imul dX12_feed_96 rfl ?_
            refine z_isub dX12_feed_97 rfl ?_
            refine z_ishr dX12_feed_98 rfl ?_
            refine z_i2b dX12_feed_99 rfl ?_
            obtain ⟨i9, k⟩ := k
            refine z_bast dX12_feed_100 (by rw [zl_467]; exact i9) rfl ?_
            refine z_aload_n 0 dX12_feed_101 rfl rfl (Nat.le_of_ble_eq_true rfl) rfl ?_
            refine z_dup dX12_feed_102 (fun q => by cases q) rfl ?_
            refine z_getI 12 (x := (h 466 4)) fX12_423 rfl dX12_feed_103 (by simp [zup]) rfl ?_
            refine z_iconst dX12_feed_106 rfl ?_
            refine z_iadd dX12_feed_107 rfl ?_
            refine z_putI 12 gX12_423 dX12_feed_108 rfl ?_
            refine z_iinc dX12_feed_111 rfl (Nat.le_of_ble_eq_true rfl) (L' := [some (vr 12 466), some (vi l1), some (vi l2), some (vi l3), some (vi l4), some (vi l5), some (vi (l6 + 1)), some (vi l4)]) rfl rfl ?_
            refine z_goto (tgt := 23) dX12_feed_114 rfl ?_
            exact z_sub (L' := [some (vr 12 466), some (vi l1), some (vi l2), some (vi l3), some (vi l4), some (vi l5), some (vi (l6 + 1)), none]) (And.intro rfl (And.intro rfl (And.intro rfl (And.intro rfl (And.intro rfl (And.intro rfl (And.intro rfl trivial))))))) k
        · have k := kb q
          refine z_iload_n 3 dX12_feed_58 rfl rfl rfl ?_
          refine z_goto (tgt := 76) dX12_feed_59 rfl ?_
          refine z_istore dX12_feed_76 (Nat.le_of_ble_eq_true rfl) (L' := [some (vr 12 466), some (vi l1), some (vi l2), some (vi l3), some (vi l4), some (vi l5), some (vi l6), some (vi l3)]) rfl rfl ?_
          refine z_aload_n 0 dX12_feed_78 rfl rfl (Nat.le_of_ble_eq_true rfl) rfl ?_
          refine z_getF 12 15 (x := 467) fX12_13 rfl dX12_feed_79 rfl rfl ?_
          refine z_aload_n 0 dX12_feed_82 rfl rfl (Nat.le_of_ble_eq_true rfl) rfl ?_
          refine z_getI 12 (x := (h 466 4)) fX12_423 rfl dX12_feed_83 rfl rfl ?_
          refine z_iload dX12_feed_86 rfl rfl ?_
          refine z_bipush dX12_feed_88 rfl rfl ?_
          refine z_bipush dX12_feed_90 rfl rfl ?_
          refine z_iload dX12_feed_92 rfl rfl ?_
          refine z_iconst dX12_feed_94 rfl ?_
          obtain ⟨i9, k⟩ := k
          refine z_irem dX12_feed_95 ⟨i9.1, i9.2, by decide, by decide⟩ rfl ?_
          refine z_imul dX12_feed_96 rfl ?_
          refine z_isub dX12_feed_97 rfl ?_
          refine z_ishr dX12_feed_98 rfl ?_
          refine z_i2b dX12_feed_99 rfl ?_
          obtain ⟨i9, k⟩ := k
          refine z_bast dX12_feed_100 (by rw [zl_467]; exact i9) rfl ?_
          refine z_aload_n 0 dX12_feed_101 rfl rfl (Nat.le_of_ble_eq_true rfl) rfl ?_
          refine z_dup dX12_feed_102 (fun q => by cases q) rfl ?_
          refine z_getI 12 (x := (h 466 4)) fX12_423 rfl dX12_feed_103 (by simp [zup]) rfl ?_
          refine z_iconst dX12_feed_106 rfl ?_
          refine z_iadd dX12_feed_107 rfl ?_
          refine z_putI 12 gX12_423 dX12_feed_108 rfl ?_
          refine z_iinc dX12_feed_111 rfl (Nat.le_of_ble_eq_true rfl) (L' := [some (vr 12 466), some (vi l1), some (vi l2), some (vi l3), some (vi l4), some (vi l5), some (vi (l6 + 1)), some (vi l3)]) rfl rfl ?_
          refine z_goto (tgt := 23) dX12_feed_114 rfl ?_
          exact z_sub (L' := [some (vr 12 466), some (vi l1), some (vi l2), some (vi l3), some (vi l4), some (vi l5), some (vi (l6 + 1)), none]) (And.intro rfl (And.intro rfl (And.intro rfl (And.intro rfl (And.intro rfl (And.intro rfl (And.intro rfl trivial))))))) k
      · have k := kb q
        refine z_iload_n 2 dX12_feed_47 rfl rfl rfl ?_
        refine z_goto (tgt := 76) dX12_feed_48 rfl ?_
        refine z_istore dX12_feed_76 (Nat.le_of_ble_eq_true rfl) (L' := [some (vr 12 466), some (vi l1), some (vi l2), some (vi l3), some (vi l4), some (vi l5), some (vi l6), some (vi l2)]) rfl rfl ?_
        refine z_aload_n 0 dX12_feed_78 rfl rfl (Nat.le_of_ble_eq_true rfl) rfl ?_
        refine z_getF 12 15 (x := 467) fX12_13 rfl dX12_feed_79 rfl rfl ?_
        refine z_aload_n 0 dX12_feed_82 rfl rfl (Nat.le_of_ble_eq_true rfl) rfl ?_
        refine z_getI 12 (x := (h 466 4)) fX12_423 rfl dX12_feed_83 rfl rfl ?_
        refine z_iload dX12_feed_86 rfl rfl ?_
        refine z_bipush dX12_feed_88 rfl rfl ?_
        refine z_bipush dX12_feed_90 rfl rfl ?_
        refine z_iload dX12_feed_92 rfl rfl ?_
        refine z_iconst dX12_feed_94 rfl ?_
        obtain ⟨i9, k⟩ := k
        refine z_irem dX12_feed_95 ⟨i9.1, i9.2, by decide, by decide⟩ rfl ?_
        refine z_imul dX12_feed_96 rfl ?_
        refine z_isub dX12_feed_97 rfl ?_
        refine z_ishr dX12_feed_98 rfl ?_
        refine z_i2b dX12_feed_99 rfl ?_
        obtain ⟨i9, k⟩ := k
        refine z_bast dX12_feed_100 (by rw [zl_467]; exact i9) rfl ?_
        refine z_aload_n 0 dX12_feed_101 rfl rfl (Nat.le_of_ble_eq_true rfl) rfl ?_
        refine z_dup dX12_feed_102 (fun q => by cases q) rfl ?_
        refine z_getI 12 (x := (h 466 4)) fX12_423 rfl dX12_feed_103 (by simp [zup]) rfl ?_
        refine z_iconst dX12_feed_106 rfl ?_
        refine z_iadd dX12_feed_107 rfl ?_
        refine z_putI 12 gX12_423 dX12_feed_108 rfl ?_
        refine z_iinc dX12_feed_111 rfl (Nat.le_of_ble_eq_true rfl) (L' := [some (vr 12 466), some (vi l1), some (vi l2), some (vi l3), some (vi l4), some (vi l5), some (vi (l6 + 1)), some (vi l2)]) rfl rfl ?_
        refine z_goto (tgt := 23) dX12_feed_114 rfl ?_
        exact z_sub (L' := [some (vr 12 466), some (vi l1), some (vi l2), some (vi l3), some (vi l4), some (vi l5), some (vi (l6 + 1)), none]) (And.intro rfl (And.intro rfl (And.intro rfl (And.intro rfl (And.intro rfl (And.intro rfl (And.intro rfl trivial))))))) k
    · have k := kb q
      refine z_iload_n 1 dX12_feed_36 rfl rfl rfl ?_
      refine z_goto (tgt := 76) dX12_feed_37 rfl ?_
      refine z_istore dX12_feed_76 (Nat.le_of_ble_eq_true rfl) (L' := [some (vr 12 466), some (vi l1), some (vi l2), some (vi l3), some (vi l4), some (vi l5), some (vi l6), some (vi l1)]) rfl rfl ?_
      refine z_aload_n 0 dX12_feed_78 rfl rfl (Nat.le_of_ble_eq_true rfl) rfl ?_
      refine z_getF 12 15 (x := 467) fX12_13 rfl dX12_feed_79 rfl rfl ?_
      refine z_aload_n 0 dX12_feed_82 rfl rfl (Nat.le_of_ble_eq_true rfl) rfl ?_
      refine z_getI 12 (x := (h 466 4)) fX12_423 rfl dX12_feed_83 rfl rfl ?_
      refine z_iload dX12_feed_86 rfl rfl ?_
      refine z_bipush dX12_feed_88 rfl rfl ?_
      refine z_bipush dX12_feed_90 rfl rfl ?_
      refine z_iload dX12_feed_92 rfl rfl ?_
      refine z_iconst dX12_feed_94 rfl ?_
      obtain ⟨i9, k⟩ := k
      refine z_irem dX12_feed_95 ⟨i9.1, i9.2, by decide, by decide⟩ rfl ?_
      refine z_imul dX12_feed_96 rfl ?_
      refine z_isub dX12_feed_97 rfl ?_
      refine z_ishr dX12_feed_98 rfl ?_
      refine z_i2b dX12_feed_99 rfl ?_
      obtain ⟨i9, k⟩ := k
      refine z_bast dX12_feed_100 (by rw [zl_467]; exact i9) rfl ?_
      refine z_aload_n 0 dX12_feed_101 rfl rfl (Nat.le_of_ble_eq_true rfl) rfl ?_
      refine z_dup dX12_feed_102 (fun q => by cases q) rfl ?_
      refine z_getI 12 (x := (h 466 4)) fX12_423 rfl dX12_feed_103 (by simp [zup]) rfl ?_
      refine z_iconst dX12_feed_106 rfl ?_
      refine z_iadd dX12_feed_107 rfl ?_
      refine z_putI 12 gX12_423 dX12_feed_108 rfl ?_
      refine z_iinc dX12_feed_111 rfl (Nat.le_of_ble_eq_true rfl) (L' := [some (vr 12 466), some (vi l1), some (vi l2), some (vi l3), some (vi l4), some (vi l5), some (vi (l6 + 1)), some (vi l1)]) rfl rfl ?_
      refine z_goto (tgt := 23) dX12_feed_114 rfl ?_
      exact z_sub (L' := [some (vr 12 466), some (vi l1), some (vi l2), some (vi l3), some (vi l4), some (vi l5), some (vi (l6 + 1)), none]) (And.intro rfl (And.intro rfl (And.intro rfl (And.intro rfl (And.intro rfl (And.intro rfl (And.intro rfl trivial))))))) k
theorem eX12_feed {G : zG} {d : Nat} {K : Int → zH → Prop} {l1 : Int} {l2 : Int} {l3 : Int} {l4 : Int} {l5 : Int} {h : zH} (k : tX12_feed_0 G d K l1 l2 l3 l4 l5 h) : zCi G d mX12_feed [vr 12 466, vi l1, vi l2, vi l3, vi l4, vi l5] h K := z_entry (by decide +kernel) (Nat.le_of_ble_eq_true rfl) rfl k
def tX12_bench_0 (G : zG) (d : Nat) (K : Int → zH → Prop) (l1 : Int) (h : zH) : Prop := zTi G (d + 1) mX12_bench K 0 [some (vr 12 466), some (vi l1), none] [] h
def tX12_bench_93 (G : zG) (d : Nat) (K : Int → zH → Prop) (l2 : Int) (h : zH) : Prop := zTi G (d + 1) mX12_bench K 93 [some (vr 12 466), none, some (vi l2)] [] h
def tX12_bench_130 (G : zG) (d : Nat) (K : Int → zH → Prop) (l2 : Int) (h : zH) : Prop := zTi G (d + 1) mX12_bench K 130 [some (vr 12 466), none, some (vi l2)] [] h
theorem bX12_bench_0 {G : zG} {d : Nat} {K : Int → zH → Prop} {l1 : Int} {h : zH} (k : zR l1 ∧ (l1 < 0 → zCi G d mX12_refused [vr 12 466, vi 2] (zup h 466 0 0) (fun x1 h2 => K x1 h2)) ∧ (¬ l1 < 0 → zR l1 ∧ zR (h 466 4) ∧ (l1 ≤ (h 466 4) → zCv G d mX12_next [vr 12 466] (zup (zup (zup (zup (zup (zup (zup h 466 0 0) 466 5 l1) 466 4 0) 466 6 0) 466 10 0) 466 23 0) 466 35 0) (fun h4 => zCv G d mX12_readAll [vr 12 466] h4 (fun h6 => zR (h6 466 10) ∧ ((h6 466 10) ≤ 0 → tX12_bench_93 G d K 0 (zup h6 466 22 (h6 466 23))) ∧ (¬ (h6 466 10) ≤ 0 → K (-1) (zup (zup h6 466 1 4) 466 2 (h6 466 8)))))) ∧ (¬ l1 ≤ (h 466 4) → zCi G d mX12_refused [vr 12 466, vi 2] (zup h 466 0 0) (fun x7 h8 => K x7 h8)))) : tX12_bench_0 G d K l1 h := by
  unfold tX12_bench_0
  refine z_aload_n 0 dX12_bench_0 rfl rfl (Nat.le_of_ble_eq_true rfl) rfl ?_
  refine z_iconst dX12_bench_1 rfl ?_
  refine z_putI 12 gX12_190 dX12_bench_2 rfl ?_
  refine z_iload_n 1 dX12_bench_5 rfl rfl rfl ?_
  obtain ⟨r1, ka, kb⟩ := k
  refine z_if_lt (tgt := 17) dX12_bench_6 rfl r1 rfl ⟨fun q => ?_, fun q => ?_⟩
  · have k := ka q
    refine z_aload_n 0 dX12_bench_17 rfl rfl (Nat.le_of_ble_eq_true rfl) rfl ?_
    refine z_iconst dX12_bench_18 rfl ?_
    refine z_callVi vX12_refused kX12_426 dX12_bench_19 rfl (zRo_d d) (as := [vi 2]) (rest := []) (Nat.le_of_ble_eq_true rfl) rfl rfl (zCi_mono (fun x1 h2 k => ?_) k)
    exact z_ireturn rfl dX12_bench_22 ⟨_, rfl, k⟩
  · have k := kb q
    refine z_iload_n 1 dX12_bench_9 rfl rfl rfl ?_
    refine z_aload_n 0 dX12_bench_10 rfl rfl (Nat.le_of_ble_eq_true rfl) rfl ?_
    refine z_getI 12 (x := (h 466 4)) fX12_423 rfl dX12_bench_11 (by simp [zup]) rfl ?_
    obtain ⟨r1, r2, ka, kb⟩ := k
    refine z_icmp_le (tgt := 23) dX12_bench_14 rfl r1 r2 rfl ⟨fun q => ?_, fun q => ?_⟩
    · have k := ka q
      refine z_aload_n 0 dX12_bench_23 rfl rfl (Nat.le_of_ble_eq_true rfl) rfl ?_
      refine z_iload_n 1 dX12_bench_24 rfl rfl rfl ?_
      refine z_putI 12 gX12_205 dX12_bench_25 rfl ?_
      refine z_aload_n 0 dX12_bench_28 rfl rfl (Nat.le_of_ble_eq_true rfl) rfl ?_
      refine z_iconst dX12_bench_29 rfl ?_
      refine z_putI 12 gX12_423 dX12_bench_30 rfl ?_
      refine z_aload_n 0 dX12_bench_33 rfl rfl (Nat.le_of_ble_eq_true rfl) rfl ?_
      refine z_iconst dX12_bench_34 rfl ?_
      refine z_putI 12 gX12_211 dX12_bench_35 rfl ?_
      refine z_aload_n 0 dX12_bench_38 rfl rfl (Nat.le_of_ble_eq_true rfl) rfl ?_
      refine z_iconst dX12_bench_39 rfl ?_
      refine z_putI 12 gX12_208 dX12_bench_40 rfl ?_
      refine z_aload_n 0 dX12_bench_43 rfl rfl (Nat.le_of_ble_eq_true rfl) rfl ?_
      refine z_iconst dX12_bench_44 rfl ?_
      refine z_putI 12 gX12_363 dX12_bench_45 rfl ?_
      refine z_aload_n 0 dX12_bench_48 rfl rfl (Nat.le_of_ble_eq_true rfl) rfl ?_
      refine z_iconst dX12_bench_49 rfl ?_
      refine z_putI 12 gX12_383 dX12_bench_50 rfl ?_
      refine z_aload_n 0 dX12_bench_53 rfl rfl (Nat.le_of_ble_eq_true rfl) rfl ?_
      refine z_callVv vX12_next kX12_262 dX12_bench_54 rfl (zRo_d d) (as := []) (rest := []) (Nat.le_of_ble_eq_true rfl) rfl rfl (zCv_mono (fun h4 k => ?_) k)
      refine z_aload_n 0 dX12_bench_57 rfl rfl (Nat.le_of_ble_eq_true rfl) rfl ?_
      refine z_callVv vX12_readAll kX12_429 dX12_bench_58 rfl (zRo_d d) (as := []) (rest := []) (Nat.le_of_ble_eq_true rfl) rfl rfl (zCv_mono (fun h6 k => ?_) k)
      refine z_aload_n 0 dX12_bench_61 rfl rfl (Nat.le_of_ble_eq_true rfl) rfl ?_
      refine z_getI 12 (x := (h6 466 10)) fX12_208 rfl dX12_bench_62 rfl rfl ?_
      obtain ⟨r1, ka, kb⟩ := k
      refine z_if_le (tgt := 83) dX12_bench_65 rfl r1 rfl ⟨fun q => ?_, fun q => ?_⟩
      · have k := ka q
        refine z_aload_n 0 dX12_bench_83 rfl rfl (Nat.le_of_ble_eq_true rfl) rfl ?_
        refine z_aload_n 0 dX12_bench_84 rfl rfl (Nat.le_of_ble_eq_true rfl) rfl ?_
        refine z_getI 12 (x := (h6 466 23)) fX12_363 rfl dX12_bench_85 rfl rfl ?_
        refine z_putI 12 gX12_432 dX12_bench_88 rfl ?_
        refine z_iconst dX12_bench_91 rfl ?_
        refine z_istore_n 2 dX12_bench_92 rfl (Nat.le_of_ble_eq_true rfl) (L' := [some (vr 12 466), some (vi l1), some (vi 0)]) rfl rfl ?_
        exact z_sub (L' := [some (vr 12 466), none, some (vi 0)]) (And.intro rfl (And.intro rfl trivial)) k
      · have k := kb q
        refine z_aload_n 0 dX12_bench_68 rfl rfl (Nat.le_of_ble_eq_true rfl) rfl ?_
        refine z_iconst dX12_bench_69 rfl ?_
        refine z_putI 12 gX12_193 dX12_bench_70 rfl ?_
        refine z_aload_n 0 dX12_bench_73 rfl rfl (Nat.le_of_ble_eq_true rfl) rfl ?_
        refine z_aload_n 0 dX12_bench_74 rfl rfl (Nat.le_of_ble_eq_true rfl) rfl ?_
        refine z_getI 12 (x := (h6 466 8)) fX12_217 rfl dX12_bench_75 (by simp [zup]) rfl ?_
        refine z_putI 12 gX12_9 dX12_bench_78 rfl ?_
        refine z_iconst dX12_bench_81 rfl ?_
        exact z_ireturn rfl dX12_bench_82 ⟨_, rfl, k⟩
    · have k := kb q
      refine z_aload_n 0 dX12_bench_17 rfl rfl (Nat.le_of_ble_eq_true rfl) rfl ?_
      refine z_iconst dX12_bench_18 rfl ?_
      refine z_callVi vX12_refused kX12_426 dX12_bench_19 rfl (zRo_d d) (as := [vi 2]) (rest := []) (Nat.le_of_ble_eq_true rfl) rfl rfl (zCi_mono (fun x7 h8 k => ?_) k)
      exact z_ireturn rfl dX12_bench_22 ⟨_, rfl, k⟩
theorem bX12_bench_93 {G : zG} {d : Nat} {K : Int → zH → Prop} {l2 : Int} {h : zH} (k : zR l2 ∧ zR (h 466 22) ∧ ((h 466 22) ≤ l2 → tX12_bench_130 G d K 0 (zup (zup h 466 65 (h 466 35)) 466 64 (h 466 35))) ∧ (¬ (h 466 22) ≤ l2 → zCv G d mX12_keepsSet [vr 12 466, vi l2] h (fun h2 => tX12_bench_93 G d K (l2 + 1) h2))) : tX12_bench_93 G d K l2 h := by
  unfold tX12_bench_93
  refine z_iload_n 2 dX12_bench_93 rfl rfl rfl ?_
  refine z_aload_n 0 dX12_bench_94 rfl rfl (Nat.le_of_ble_eq_true rfl) rfl ?_
  refine z_getI 12 (x := (h 466 22)) fX12_432 rfl dX12_bench_95 rfl rfl ?_
  obtain ⟨r1, r2, ka, kb⟩ := k
  refine z_icmp_ge (tgt := 112) dX12_bench_98 rfl r1 r2 rfl ⟨fun q => ?_, fun q => ?_⟩
  · have k := ka q
    refine z_aload_n 0 dX12_bench_112 rfl rfl (Nat.le_of_ble_eq_true rfl) rfl ?_
    refine z_aload_n 0 dX12_bench_113 rfl rfl (Nat.le_of_ble_eq_true rfl) rfl ?_
    refine z_getI 12 (x := (h 466 35)) fX12_383 rfl dX12_bench_114 rfl rfl ?_
    refine z_putI 12 gX12_438 dX12_bench_117 rfl ?_
    refine z_aload_n 0 dX12_bench_120 rfl rfl (Nat.le_of_ble_eq_true rfl) rfl ?_
    refine z_aload_n 0 dX12_bench_121 rfl rfl (Nat.le_of_ble_eq_true rfl) rfl ?_
    refine z_getI 12 (x := (h 466 35)) fX12_438 rfl dX12_bench_122 (by simp [zup]) rfl ?_
    refine z_putI 12 gX12_441 dX12_bench_125 rfl ?_
    refine z_iconst dX12_bench_128 rfl ?_
    refine z_istore_n 2 dX12_bench_129 rfl (Nat.le_of_ble_eq_true rfl) (L' := [some (vr 12 466), none, some (vi 0)]) rfl rfl ?_
    exact z_sub (L' := [some (vr 12 466), none, some (vi 0)]) (And.intro rfl (And.intro rfl trivial)) k
  · have k := kb q
    refine z_aload_n 0 dX12_bench_101 rfl rfl (Nat.le_of_ble_eq_true rfl) rfl ?_
    refine z_iload_n 2 dX12_bench_102 rfl rfl rfl ?_
    refine z_callVv vX12_keepsSet kX12_435 dX12_bench_103 rfl (zRo_d d) (as := [vi l2]) (rest := []) (Nat.le_of_ble_eq_true rfl) rfl rfl (zCv_mono (fun h2 k => ?_) k)
    refine z_iinc dX12_bench_106 rfl (Nat.le_of_ble_eq_true rfl) (L' := [some (vr 12 466), none, some (vi (l2 + 1))]) rfl rfl ?_
    refine z_goto (tgt := 93) dX12_bench_109 rfl ?_
    exact z_sub (L' := [some (vr 12 466), none, some (vi (l2 + 1))]) (And.intro rfl (And.intro rfl trivial)) k
theorem bX12_bench_130 {G : zG} {d : Nat} {K : Int → zH → Prop} {l2 : Int} {h : zH} (k : zR l2 ∧ zR (h 466 65) ∧ ((h 466 65) ≤ l2 → zCi G d mX12_good [vr 12 466, vi (h 466 65)] h (fun x1 h2 => K x1 h2)) ∧ (¬ (h 466 65) ≤ l2 → zCv G d mX12_keepsMachine [vr 12 466, vi (10 + l2), vi l2] h (fun h4 => tX12_bench_130 G d K (l2 + 1) h4))) : tX12_bench_130 G d K l2 h := by
  unfold tX12_bench_130
  refine z_iload_n 2 dX12_bench_130 rfl rfl rfl ?_
  refine z_aload_n 0 dX12_bench_131 rfl rfl (Nat.le_of_ble_eq_true rfl) rfl ?_
  refine z_getI 12 (x := (h 466 65)) fX12_438 rfl dX12_bench_132 rfl rfl ?_
  obtain ⟨r1, r2, ka, kb⟩ := k
  refine z_icmp_ge (tgt := 153) dX12_bench_135 rfl r1 r2 rfl ⟨fun q => ?_, fun q => ?_⟩
  · have k := ka q
    refine z_aload_n 0 dX12_bench_153 rfl rfl (Nat.le_of_ble_eq_true rfl) rfl ?_
    refine z_aload_n 0 dX12_bench_154 rfl rfl (Nat.le_of_ble_eq_true rfl) rfl ?_
    refine z_getI 12 (x := (h 466 65)) fX12_438 rfl dX12_bench_155 rfl rfl ?_
    refine z_callVi vX12_good kX12_196 dX12_bench_158 rfl (zRo_d d) (as := [vi (h 466 65)]) (rest := []) (Nat.le_of_ble_eq_true rfl) rfl rfl (zCi_mono (fun x1 h2 k => ?_) k)
    exact z_ireturn rfl dX12_bench_161 ⟨_, rfl, k⟩
  · have k := kb q
    refine z_aload_n 0 dX12_bench_138 rfl rfl (Nat.le_of_ble_eq_true rfl) rfl ?_
    refine z_bipush dX12_bench_139 rfl rfl ?_
    refine z_iload_n 2 dX12_bench_141 rfl rfl rfl ?_
    refine z_iadd dX12_bench_142 rfl ?_
    refine z_iload_n 2 dX12_bench_143 rfl rfl rfl ?_
    refine z_callVv vX12_keepsMachine kX12_444 dX12_bench_144 rfl (zRo_d d) (as := [vi (10 + l2), vi l2]) (rest := []) (Nat.le_of_ble_eq_true rfl) rfl rfl (zCv_mono (fun h4 k => ?_) k)
    refine z_iinc dX12_bench_147 rfl (Nat.le_of_ble_eq_true rfl) (L' := [some (vr 12 466), none, some (vi (l2 + 1))]) rfl rfl ?_
    refine z_goto (tgt := 130) dX12_bench_150 rfl ?_
    exact z_sub (L' := [some (vr 12 466), none, some (vi (l2 + 1))]) (And.intro rfl (And.intro rfl trivial)) k
theorem eX12_bench {G : zG} {d : Nat} {K : Int → zH → Prop} {l1 : Int} {h : zH} (k : tX12_bench_0 G d K l1 h) : zCi G (d + 1) mX12_bench [vr 12 466, vi l1] h K := z_entry (by decide +kernel) (Nat.le_of_ble_eq_true rfl) rfl k
def tX12_keepsSet_0 (G : zG) (d : Nat) (K : zH → Prop) (l1 : Int) (h : zH) : Prop := zTv G d mX12_keepsSet K 0 [some (vr 12 466), some (vi l1), none] [] h
def tX12_keepsSet_17 (G : zG) (d : Nat) (K : zH → Prop) (l1 : Int) (l2 : Int) (h : zH) : Prop := zTv G d mX12_keepsSet K 17 [some (vr 12 466), some (vi l1), some (vi l2)] [] h
theorem bX12_keepsSet_0 {G : zG} {d : Nat} {K : zH → Prop} {l1 : Int} {h : zH} (k : ((0 : Int) ≤ (12 + l1) ∧ (12 + l1) < 24) ∧ ((0 : Int) ≤ l1 ∧ l1 < 24) ∧ tX12_keepsSet_17 G d K l1 0 (zup h 471 l1 (h 471 (12 + l1)))) : tX12_keepsSet_0 G d K l1 h := by
  unfold tX12_keepsSet_0
  refine z_aload_n 0 dX12_keepsSet_0 rfl rfl (Nat.le_of_ble_eq_true rfl) rfl ?_
  refine z_getF 12 13 (x := 471) fX12_28 rfl dX12_keepsSet_1 rfl rfl ?_
  refine z_iload_n 1 dX12_keepsSet_4 rfl rfl rfl ?_
  refine z_aload_n 0 dX12_keepsSet_5 rfl rfl (Nat.le_of_ble_eq_true rfl) rfl ?_
  refine z_getF 12 13 (x := 471) fX12_28 rfl dX12_keepsSet_6 rfl rfl ?_
  refine z_bipush dX12_keepsSet_9 rfl rfl ?_
  refine z_iload_n 1 dX12_keepsSet_11 rfl rfl rfl ?_
  refine z_iadd dX12_keepsSet_12 rfl ?_
  obtain ⟨i9, k⟩ := k
  refine z_iald (x := (h 471 (12 + l1))) dX12_keepsSet_13 (by rw [zl_471]; exact i9) rfl rfl ?_
  obtain ⟨i9, k⟩ := k
  refine z_iast dX12_keepsSet_14 (by rw [zl_471]; exact i9) rfl ?_
  refine z_iconst dX12_keepsSet_15 rfl ?_
  refine z_istore_n 2 dX12_keepsSet_16 rfl (Nat.le_of_ble_eq_true rfl) (L' := [some (vr 12 466), some (vi l1), some (vi 0)]) rfl rfl ?_
  exact z_sub (L' := [some (vr 12 466), some (vi l1), some (vi 0)]) (And.intro rfl (And.intro rfl (And.intro rfl trivial))) k
theorem bX12_keepsSet_17 {G : zG} {d : Nat} {K : zH → Prop} {l1 : Int} {l2 : Int} {h : zH} (k : ((0 : Int) ≤ l1 ∧ l1 < 24) ∧ zR l2 ∧ zR (h 471 l1) ∧ ((h 471 l1) ≤ l2 → K h) ∧ (¬ (h 471 l1) ≤ l2 → ((0 : Int) ≤ (((12 + l1) * 24) + l2) ∧ (((12 + l1) * 24) + l2) < 576) ∧ ((0 : Int) ≤ ((l1 * 24) + l2) ∧ ((l1 * 24) + l2) < 576) ∧ ((0 : Int) ≤ (((12 + l1) * 24) + l2) ∧ (((12 + l1) * 24) + l2) < 576) ∧ ((0 : Int) ≤ ((l1 * 24) + l2) ∧ ((l1 * 24) + l2) < 576) ∧ tX12_keepsSet_17 G d K l1 (l2 + 1) (zup (zup h 472 ((l1 * 24) + l2) (h 472 (((12 + l1) * 24) + l2))) 473 ((l1 * 24) + l2) (h 473 (((12 + l1) * 24) + l2))))) : tX12_keepsSet_17 G d K l1 l2 h := by
  unfold tX12_keepsSet_17
  refine z_iload_n 2 dX12_keepsSet_17 rfl rfl rfl ?_
  refine z_aload_n 0 dX12_keepsSet_18 rfl rfl (Nat.le_of_ble_eq_true rfl) rfl ?_
  refine z_getF 12 13 (x := 471) fX12_28 rfl dX12_keepsSet_19 rfl rfl ?_
  refine z_iload_n 1 dX12_keepsSet_22 rfl rfl rfl ?_
  obtain ⟨i9, k⟩ := k
  refine z_iald (x := (h 471 l1)) dX12_keepsSet_23 (by rw [zl_471]; exact i9) rfl rfl ?_
  obtain ⟨r1, r2, ka, kb⟩ := k
  refine z_icmp_ge (tgt := 83) dX12_keepsSet_24 rfl r1 r2 rfl ⟨fun q => ?_, fun q => ?_⟩
  · have k := ka q
    exact z_return rfl dX12_keepsSet_83 ⟨rfl, k⟩
  · have k := kb q
    refine z_aload_n 0 dX12_keepsSet_27 rfl rfl (Nat.le_of_ble_eq_true rfl) rfl ?_
    refine z_getF 12 13 (x := 472) fX12_31 rfl dX12_keepsSet_28 rfl rfl ?_
    refine z_iload_n 1 dX12_keepsSet_31 rfl rfl rfl ?_
    refine z_bipush dX12_keepsSet_32 rfl rfl ?_
    refine z_imul dX12_keepsSet_34 rfl ?_
    refine z_iload_n 2 dX12_keepsSet_35 rfl rfl rfl ?_
    refine z_iadd dX12_keepsSet_36 rfl ?_
    refine z_aload_n 0 dX12_keepsSet_37 rfl rfl (Nat.le_of_ble_eq_true rfl) rfl ?_
    refine z_getF 12 13 (x := 472) fX12_31 rfl dX12_keepsSet_38 rfl rfl ?_
    refine z_bipush dX12_keepsSet_41 rfl rfl ?_
    refine z_iload_n 1 dX12_keepsSet_43 rfl rfl rfl ?_
    refine z_iadd dX12_keepsSet_44 rfl ?_
    refine z_bipush dX12_keepsSet_45 rfl rfl ?_
    refine z_imul dX12_keepsSet_47 rfl ?_
    refine z_iload_n 2 dX12_keepsSet_48 rfl rfl rfl ?_
    refine z_iadd dX12_keepsSet_49 rfl ?_
    obtain ⟨i9, k⟩ := k
    refine z_iald (x := (h 472 (((12 + l1) * 24) + l2))) dX12_keepsSet_50 (by rw [zl_472]; exact i9) rfl rfl ?_
    obtain ⟨i9, k⟩ := k
    refine z_iast dX12_keepsSet_51 (by rw [zl_472]; exact i9) rfl ?_
    refine z_aload_n 0 dX12_keepsSet_52 rfl rfl (Nat.le_of_ble_eq_true rfl) rfl ?_
    refine z_getF 12 13 (x := 473) fX12_34 rfl dX12_keepsSet_53 rfl rfl ?_
    refine z_iload_n 1 dX12_keepsSet_56 rfl rfl rfl ?_
    refine z_bipush dX12_keepsSet_57 rfl rfl ?_
    refine z_imul dX12_keepsSet_59 rfl ?_
    refine z_iload_n 2 dX12_keepsSet_60 rfl rfl rfl ?_
    refine z_iadd dX12_keepsSet_61 rfl ?_
    refine z_aload_n 0 dX12_keepsSet_62 rfl rfl (Nat.le_of_ble_eq_true rfl) rfl ?_
    refine z_getF 12 13 (x := 473) fX12_34 rfl dX12_keepsSet_63 rfl rfl ?_
    refine z_bipush dX12_keepsSet_66 rfl rfl ?_
    refine z_iload_n 1 dX12_keepsSet_68 rfl rfl rfl ?_
    refine z_iadd dX12_keepsSet_69 rfl ?_
    refine z_bipush dX12_keepsSet_70 rfl rfl ?_
    refine z_imul dX12_keepsSet_72 rfl ?_
    refine z_iload_n 2 dX12_keepsSet_73 rfl rfl rfl ?_
    refine z_iadd dX12_keepsSet_74 rfl ?_
    obtain ⟨i9, k⟩ := k
    refine z_iald (x := (h 473 (((12 + l1) * 24) + l2))) dX12_keepsSet_75 (by rw [zl_473]; exact i9) (by simp [zup]) rfl ?_
    obtain ⟨i9, k⟩ := k
    refine z_iast dX12_keepsSet_76 (by rw [zl_473]; exact i9) rfl ?_
    refine z_iinc dX12_keepsSet_77 rfl (Nat.le_of_ble_eq_true rfl) (L' := [some (vr 12 466), some (vi l1), some (vi (l2 + 1))]) rfl rfl ?_
    refine z_goto (tgt := 17) dX12_keepsSet_80 rfl ?_
    exact z_sub (L' := [some (vr 12 466), some (vi l1), some (vi (l2 + 1))]) (And.intro rfl (And.intro rfl (And.intro rfl trivial))) k
theorem eX12_keepsSet {G : zG} {d : Nat} {K : zH → Prop} {l1 : Int} {h : zH} (k : tX12_keepsSet_0 G d K l1 h) : zCv G d mX12_keepsSet [vr 12 466, vi l1] h K := z_entry (by decide +kernel) (Nat.le_of_ble_eq_true rfl) rfl k
