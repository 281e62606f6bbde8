/-! ===== the law's case of twin ===== -/
theorem zl_525 : zln 525 = 1 := by decide +kernel
theorem xCL_mono {G : zG} {d : Nat} {as : List zV} {h : zH} {Q Q' : Option zV → zH → Prop} (hq : ∀ r h', Q r h' → Q' r h') (k : xCL G d as h Q) : xCL G d as h Q' := by
  unfold xCL Met at k ⊢
  intro p e ha hc hk s m args below hf happ hP hT
  obtain ⟨n, o, h1, h2, h3, ⟨⟨⟨r, h', q1, q2, q3, q4, q5⟩, q6⟩, q7⟩⟩ := k p e ha hc hk s m args below hf happ hP hT
  exact ⟨n, o, h1, h2, h3, ⟨⟨⟨r, h', q1, q2, q3, hq _ _ q4, q5⟩, q6⟩, q7⟩⟩
theorem bL_law_2407 {G : zG} {d kc ks : Nat} {l4 : Int} {h : zH} (hR1 : zRo room_1 (kc + 1) (ks + 6) d) (hL : zgL G ≤ 3072) (hi : 0 ≤ l4 ∧ l4 + 6 ≤ zgL G) (k : xCL G d [vr 11 0, vi (zsc G (l4 + 1)), vr 14 525] h (fun r h1 => ∃ x2, r = some (vi x2) ∧ zCi G d mX12_twin [vr 12 466, vi (zsc G (l4 + 1))] h1 (fun x3 h4 => zCi G d mX12_thrown [vr 12 466] h4 (fun x5 h6 => zR x5 ∧ zR x2 ∧ (x5 = x2 → zR x2 ∧ (¬ x2 = 0 → tL_law_2526 G (kc + 1) (ks + 6) l4 h6) ∧ (x2 = 0 → zR x3 ∧ ((zcmp (h6 525 0) x3) = 0 → tL_law_2526 G (kc + 1) (ks + 6) l4 h6) ∧ (¬ (zcmp (h6 525 0) x3) = 0 → False))) ∧ (¬ x5 = x2 → False))))) : tL_law_2407 G kc ks l4 h := by
  unfold tL_law_2407
  refine z_aload_n 1 dL_law_2407 rfl rfl (Nat.le_of_ble_eq_true rfl) rfl ?_
  refine z_aload_n 0 dL_law_2408 rfl rfl (Nat.le_of_ble_eq_true rfl) rfl ?_
  refine z_iload dL_law_2409 rfl rfl ?_
  refine z_iconst dL_law_2411 rfl ?_
  refine z_iadd dL_law_2412 rfl ?_
  refine z_sld (x := (zsc G (l4 + 1))) dL_law_2413 ⟨by omega, by omega⟩ (Nat.le_trans hL (by decide)) rfl rfl ?_
  refine z_aload_n 3 dL_law_2414 rfl rfl (Nat.le_of_ble_eq_true rfl) rfl ?_
  refine x_callL (d := d) dL_law_2415 hR1 rfl rfl (xCL_mono (fun r h1 k => ?_) k)
  obtain ⟨x2, e9, k⟩ := k
  refine ⟨x2, e9, ?_⟩
  refine z_istore dL_law_2418 (Nat.le_of_ble_eq_true rfl) (L' := [some ((41, 0)), some (vr 11 0), some (vr 12 466), some (vr 14 525), some (vi l4), some (vi x2), none]) rfl rfl ?_
  refine z_aload_n 2 dL_law_2420 rfl rfl (Nat.le_of_ble_eq_true rfl) rfl ?_
  refine z_aload_n 0 dL_law_2421 rfl rfl (Nat.le_of_ble_eq_true rfl) rfl ?_
  refine z_iload dL_law_2422 rfl rfl ?_
  refine z_iconst dL_law_2424 rfl ?_
  refine z_iadd dL_law_2425 rfl ?_
  refine z_sld (x := (zsc G (l4 + 1))) dL_law_2426 ⟨by omega, by omega⟩ (Nat.le_trans hL (by decide)) rfl rfl ?_
  refine z_callVi vX12_twin kL_249 dL_law_2427 rfl hR1 (as := [vi (zsc G (l4 + 1))]) (rest := []) (Nat.le_of_ble_eq_true rfl) rfl rfl (zCi_mono (fun x3 h4 k => ?_) k)
  refine z_istore dL_law_2430 (Nat.le_of_ble_eq_true rfl) (L' := [some ((41, 0)), some (vr 11 0), some (vr 12 466), some (vr 14 525), some (vi l4), some (vi x2), some (vi x3)]) rfl rfl ?_
  refine z_aload_n 2 dL_law_2432 rfl rfl (Nat.le_of_ble_eq_true rfl) rfl ?_
  refine z_callVi vX12_thrown kL_250 dL_law_2433 rfl hR1 (as := []) (rest := []) (Nat.le_of_ble_eq_true rfl) rfl rfl (zCi_mono (fun x5 h6 k => ?_) k)
  refine z_iload dL_law_2436 rfl rfl ?_
  obtain ⟨r1, r2, ka, kb⟩ := k
  refine z_icmp_eq (tgt := 2443) dL_law_2438 rfl r1 r2 rfl ⟨fun q => ?_, fun q => ?_⟩
  · have k := ka q
    refine z_iload dL_law_2443 rfl rfl ?_
    obtain ⟨r1, ka, kb⟩ := k
    refine z_if_ne (tgt := 2460) dL_law_2445 rfl r1 rfl ⟨fun q => ?_, fun q => ?_⟩
    · have k := ka q
      refine z_goto (tgt := 2526) dL_law_2460 rfl ?_
      exact z_sub (L' := [some ((41, 0)), some (vr 11 0), some (vr 12 466), some (vr 14 525), some (vi l4), none, none]) (And.intro rfl (And.intro rfl (And.intro rfl (And.intro rfl (And.intro rfl trivial))))) k
    · have k := kb q
      refine z_aload_n 3 dL_law_2448 rfl rfl (Nat.le_of_ble_eq_true rfl) rfl ?_
      refine z_iconst dL_law_2449 rfl ?_
      refine z_lald (x := (h6 525 0)) dL_law_2450 (by rw [zl_525]; decide) rfl rfl ?_
      refine z_iload dL_law_2451 rfl rfl ?_
      obtain ⟨r9, k⟩ := k
      refine z_i2l dL_law_2453 r9 rfl ?_
      refine z_lcmp dL_law_2454 rfl ?_
      obtain ⟨ka, kb⟩ := k
      refine z_if_eq (tgt := 2460) dL_law_2455 rfl (zcmp_R _ _) rfl ⟨fun q => ?_, fun q => ?_⟩
      · have k := ka q
        refine z_goto (tgt := 2526) dL_law_2460 rfl ?_
        exact z_sub (L' := [some ((41, 0)), some (vr 11 0), some (vr 12 466), some (vr 14 525), some (vi l4), none, none]) (And.intro rfl (And.intro rfl (And.intro rfl (And.intro rfl (And.intro rfl trivial))))) k
      · have k := kb q
        refine z_iconst dL_law_2458 rfl ?_
        exact k.elim
  · have k := kb q
    refine z_iconst dL_law_2441 rfl ?_
    exact k.elim
