/-! ===== again, backwards, past ===== -/
theorem bld_k {h h' : zH} (a : ∀ a, ¬ a = 466 → ¬ (486 ≤ a ∧ a ≤ 492) → h' a = h a) (b : ∀ j, ¬ (47 ≤ j ∧ j ≤ 51) → h' 466 j = h 466 j) : mK h h' := ⟨fun x k => a x (by unfold kp at k; omega) (by unfold kp at k; omega), a 0 (by decide) (by decide), fun j k => b j (by unfold kms at k; omega)⟩
theorem mK_50 {h : zH} {x : Int} : mK h (zup h 466 50 x) := ⟨fun a k => zup_ne (by unfold kp at k; omega), zup_ne (by decide), fun j k => zup_ns (by unfold kms at k; omega)⟩
theorem lOK_1 {D : zH} (hD : mOK D) {en : Int} {bk : Bool} {LF : List fT} (h1 : zRL en) (h2 : ∀ k, D 0 0 + 1 ≤ k → k < 64 → tb en k = false) (h3 : ∀ x ∈ LF, (0 ≤ x.1 ∧ x.1 < D 0 0 + 1) ∧ (0 ≤ x.2 ∧ x.2 < D 0 0 + 1)) : lOK (D 0 0 + 1) en (eL D 1 bk (pX D) (D 0 2).toNat) (LF ++ fL D 1 bk (D 0 3).toNat) := by
  have S0 := mO_st hD
  have E0 := mO_ed hD
  have F0 := mO_fr hD
  refine ⟨by omega, ⟨h1, h2⟩, fun x hx => ?_, fun x hx => ?_⟩
  · obtain ⟨e, he, w⟩ := eL_mem hx
    have := mO_e hD he.1 (by omega)
    rcases w with w | w <;> rw [w] <;> dsimp only <;> omega
  · rcases List.mem_append.mp hx with hx | hx
    · exact h3 x hx
    · obtain ⟨i, hi, w⟩ := fL_mem hx
      have := mO_f hD hi.1 (by omega)
      rcases w with w | w <;> rw [w] <;> dsimp only <;> omega
theorem bL_st {D : zH} (hD : mOK D) {x : Int} {f : Int → fT} (hb : ∀ k, D 0 0 ≤ k → k < 64 → tb x k = false) : bL x f 40 = bL x f (D 0 0).toNat := by
  have S0 := mO_st hD
  have := bL_e (x := x) (f := f) (n := (D 0 0).toNat) (40 - (D 0 0).toNat) (fun k a b => hb k (by omega) (by omega))
  rwa [show (D 0 0).toNat + (40 - (D 0 0).toNat) = 40 by omega] at this
section C1
variable {G : zG} {d : Nat} {h : zH}
theorem c_again {m : Int} (hI : Inv h) (hm : zR m) : twI G (d + 8) mX11_again mX12_again [vi m] h := by
  obtain ⟨n1, n2, n3⟩ := iM_n hI
  refine eX11_again (bX11_again_0 (q_mach hI hm (fun q => ⟨fun _ => ?_, fun z => (by cases z)⟩) (fun q => ⟨fun z => (by cases z), fun _ => sp_refused (eX12_again (bX12_again_0 (q_refusesOne (c := h 0 13) (by rw [zhw_m (by decide), n3]) (by omega) hm (fun _ => ⟨⟨by decide, by decide⟩, fun z => absurd z (by decide), fun _ => sm_refused ⟨zR_m1, rfl, Inv_k hI (by omega) (fun _ _ => rfl) rfl rfl (mK_refl _)⟩⟩) (fun z => absurd z q) (fun z => absurd z q))))⟩)))
  obtain ⟨m10, mc, o1, o2, o3, o4⟩ := iM_d hI q.1 q.2
  obtain ⟨D, eD⟩ : ∃ D, D = dOf h m := ⟨_, rfl⟩
  rw [← eD] at o1 o2 o3 o4
  have S0 := mO_st o1
  have mr : ¬ (4 ≤ h 3 m ∧ h 3 m ≤ 11) := by unfold mcell at mc; omega
  rw [o2.1.1]
  refine ⟨m10, sp_begin ⟨by omega, by omega⟩ (fun h1 b1 b2 b3 b4 b5 c1 => sp_addFree (drC_b b2 b3 b4 b5 c1) (fun h2 g1 _ g2 => ?_))⟩
  have fr2 : fr11 h h2 := fr11_t (fun a p => b1 a (by omega) (by omega)) (fr11_d g1)
  rw [fr2 (h 3 m) mr, o2.1.2.1]
  refine sp_freeFromEach g2 (fun h3 u1 u2 => ?_)
  have fr3 : fr11 h h3 := fr11_t fr2 (fr11_d u1)
  rw [bL_st o1 (mO_en o1).2] at u2
  refine sp_copyWhole (bk := false) mc o1 (fr11_c mc fr3 o2) (by omega) u2 (ctS_mv c1 (by rw [u1.1 10 (by decide), g1.1 10 (by decide)]) (by rw [u1.2, g1.2])) (fun h4 w1 w2 w3 => ?_)
  have fr4 : fr11 h (zup h4 4 8 1) := fun a p => by rw [zup_ne (by omega), w1 a p, fr3 a p]
  have f1 : ∀ a, kp a → (zup h4 4 8 1) a = h a := fun a k => fr4 a (by unfold kp at k; omega)
  have lok : lOK (D 0 0 + 1) 1 (eL D 1 false (pX D) (D 0 2).toNat) (([] ++ [(0, 1)]) ++ bL (D 0 1) (fun q => (q + 1, 0)) (D 0 0).toNat ++ fL D 1 false (D 0 3).toNat) := by
    refine lOK_1 o1 zRL_1 (fun k k0 k1 => by rw [tb_1 (by omega), decide_eq_false (by omega)]) (fun x hx => ?_)
    rcases List.mem_append.mp hx with hx | hx
    · rw [List.nil_append, List.mem_singleton] at hx
      rw [hx]
      dsimp only
      omega
    · obtain ⟨k, k0, -, e⟩ := bL_mem hx
      rw [e]
      dsimp only
      omega
  refine q_keepDraft hI f1 (fr4 0 (by decide)) (drC_en w2) lok (lBk_en w3) (fun x h5 kd o => ?_)
  have cx : CX h (zup h4 4 8 1) h5 := ⟨f1, fr4 0 (by decide), fr4 466 (by decide), kd⟩
  refine eX12_again (bX12_again_0 (q_refusesOne (CX_64 hI cx (mK_0 h5)) (by omega) hm (fun z => absurd q z) (fun _ z => ⟨⟨by decide, by decide⟩, fun w => absurd w (by decide), fun _ => q_ref hI cx o (mK_0 h5) (fun w => by omega)⟩) (fun _ z => ⟨⟨by decide, by decide⟩, fun _ => ⟨by omega, ?_⟩, fun w => absurd (by decide) w⟩)))
  rw [(CX_rep hI cx (mK_0 h5) o3).1.1]
  refine sm_builds ⟨by omega, by omega⟩ (fun h6 v1 v2 v3 v4 v5 => sm_buildsFree v5 (fun h7 x1 x2 x3 => ?_))
  have k7 : mK h5 h7 := mK_tr (mK_0 h5) (mK_tr (bld_k v1 v2) (bF_k x1))
  have go : ∀ (f : Nat) (k : Nat) (h8 : zH), k + f = (D 0 0).toNat → mK h5 h8 → h8 488 0 = 0 → drM h8 (D 0 0 + 1) [] (([] ++ [(0, 1)]) ++ bL (D 0 1) (fun q => (q + 1, 0)) k) → tX12_again_41 G (d + 7) (fun y h4 => zR x ∧ x = y ∧ Inv h4) m k h8 := by
    intro f
    induction f with
    | zero =>
      intro k h8 ek k8 p8 d8
      have r8 := CX_rep hI cx k8 o3
      refine bX12_again_41 ?_
      rw [r8.1.1]
      refine ⟨by omega, ⟨by omega, by omega⟩, ⟨by omega, by omega⟩, fun _ => ?_, fun w => absurd (by omega) w⟩
      have ek : k = (D 0 0).toNat := by omega
      subst ek
      refine sm_buildsFrees (bk := false) (by omega) o1 r8 d8 (fun h9 y1 y2 y3 => sm_buildsEdges (bk := false) (by omega) o1 (bF_rep y1 r8) (by omega) y3 (by decide) (by show 0 ≤ h9 488 0 ∧ h9 488 0 ≤ _; rw [y2, p8]; decide) (fun h10 z1 z2 z3 => ?_))
      exact q_makes hI cx.1 cx.2.1 cx.2.2.1 kd o (mK_tr k8 (mK_tr (bF_k y1) (mK_tr (bF_k z1) mK_50))) z lok (drM_en z2) zup_eq (fun ft => by rw [zup_ne (by decide)]; have := z3 ft.2.1; have := ft.2.1; rw [List.nil_append] at *; omega)
    | succ f ih =>
      intro k h8 ek k8 p8 d8
      have r8 := CX_rep hI cx k8 o3
      refine bX12_again_41 ?_
      rw [r8.1.1, r8.1.2.1]
      refine ⟨by omega, ⟨by omega, by omega⟩, ⟨by omega, by omega⟩, fun w => absurd w (by omega), fun _ => ⟨by omega, sm_bit (by omega) ⟨fun w => ih (k + 1) h8 (by omega) k8 p8 ?_, fun w => sm_buildsFree d8 (fun h9 y1 y2 y3 => ih (k + 1) h9 (by omega) (mK_tr k8 (bF_k y1)) (by rw [y2]; exact p8) ?_)⟩⟩⟩
      · rw [bL_s, if_neg (by rw [w]; decide)]
        exact d8
      · rw [bL_s, if_pos w, ← List.append_assoc]
        exact y3
  exact go (D 0 0).toNat 0 h7 (by omega) k7 (by rw [x2]; exact v4) (by show drM h7 (D 0 0 + 1) [] (([] ++ [(0, 1)]) ++ []); rw [List.append_nil]; exact x3)
theorem c_backwards {m : Int} (hI : Inv h) (hm : zR m) : twI G (d + 8) mX11_backwards mX12_backwards [vi m] h := by
  obtain ⟨n1, n2, n3⟩ := iM_n hI
  refine eX11_backwards (bX11_backwards_0 (q_mach hI hm (fun q => ⟨fun _ => ?_, fun z => (by cases z)⟩) (fun q => ⟨fun z => (by cases z), fun _ => sp_refused (eX12_backwards (bX12_backwards_0 (q_refusesOne (c := h 0 13) (by rw [zhw_m (by decide), n3]) (by omega) hm (fun _ => ⟨⟨by decide, by decide⟩, fun z => absurd z (by decide), fun _ => sm_refused ⟨zR_m1, rfl, Inv_k hI (by omega) (fun _ _ => rfl) rfl rfl (mK_refl _)⟩⟩) (fun z => absurd z q) (fun z => absurd z q))))⟩)))
  obtain ⟨m10, mc, o1, o2, o3, o4⟩ := iM_d hI q.1 q.2
  obtain ⟨D, eD⟩ : ∃ D, D = dOf h m := ⟨_, rfl⟩
  rw [← eD] at o1 o2 o3 o4
  have S0 := mO_st o1
  have mr : ¬ (4 ≤ h 3 m ∧ h 3 m ≤ 11) := by unfold mcell at mc; omega
  rw [o2.1.1]
  refine ⟨m10, sp_begin ⟨by omega, by omega⟩ (fun h2 b1 b2 b3 b4 b5 c1 => ?_)⟩
  have g2 := drC_b b2 b3 b4 b5 c1
  have fr2 : fr11 h h2 := fun a p => b1 a (by omega) (by omega)
  rw [fr2 (h 3 m) mr, o2.1.2.1]
  refine sp_freeToEach g2 (fun h3 u1 u2 => ?_)
  have fr3 : fr11 h h3 := fr11_t fr2 (fr11_d u1)
  rw [bL_st o1 (mO_en o1).2] at u2
  refine sp_copyWhole (bk := true) mc o1 (fr11_c mc fr3 o2) (by omega) u2 (ctS_mv c1 (u1.1 10 (by decide)) u1.2) (fun h4 w1 w2 w3 => ?_)
  have fr4 : fr11 h (zup h4 4 8 2) := fun a p => by rw [zup_ne (by omega), w1 a p, fr3 a p]
  have f1 : ∀ a, kp a → (zup h4 4 8 2) a = h a := fun a k => fr4 a (by unfold kp at k; omega)
  have lok : lOK (D 0 0 + 1) 2 (eL D 1 true (pX D) (D 0 2).toNat) ([] ++ bL (D 0 1) (fun q => (0, q + 1)) (D 0 0).toNat ++ fL D 1 true (D 0 3).toNat) := by
    refine lOK_1 o1 ⟨by decide, by decide⟩ (fun k k0 k1 => by rw [show (2 : Int) = zlshl 1 1 by decide +kernel, tb_lshl (by decide) (by decide) (by omega) k1, tb_1 (by omega), decide_eq_false (show ¬ k - 1 = 0 by omega), Bool.and_false]) (fun x hx => ?_)
    rw [List.nil_append] at hx
    obtain ⟨k, k0, -, e⟩ := bL_mem hx
    rw [e]
    dsimp only
    omega
  refine q_keepDraft hI f1 (fr4 0 (by decide)) (drC_en w2) lok (lBk_en w3) (fun x h5 kd o => ?_)
  have cx : CX h (zup h4 4 8 2) h5 := ⟨f1, fr4 0 (by decide), fr4 466 (by decide), kd⟩
  refine eX12_backwards (bX12_backwards_0 (q_refusesOne (CX_64 hI cx (mK_0 h5)) (by omega) hm (fun z => absurd q z) (fun _ z => ⟨⟨by decide, by decide⟩, fun w => absurd w (by decide), fun _ => q_ref hI cx o (mK_0 h5) (fun w => by omega)⟩) (fun _ z => ⟨⟨by decide, by decide⟩, fun _ => ⟨by omega, ?_⟩, fun w => absurd (by decide) w⟩)))
  rw [(CX_rep hI cx (mK_0 h5) o3).1.1]
  refine sm_builds ⟨by omega, by omega⟩ (fun h7 v1 v2 v3 v4 v5 => ?_)
  have k7 : mK h5 h7 := mK_tr (mK_0 h5) (bld_k v1 v2)
  have go : ∀ (f : Nat) (k : Nat) (h8 : zH), k + f = (D 0 0).toNat → mK h5 h8 → h8 488 0 = 0 → drM h8 (D 0 0 + 1) [] ([] ++ bL (D 0 1) (fun q => (0, q + 1)) k) → tX12_backwards_35 G (d + 7) (fun y h4 => zR x ∧ x = y ∧ Inv h4) m k h8 := by
    intro f
    induction f with
    | zero =>
      intro k h8 ek k8 p8 d8
      have r8 := CX_rep hI cx k8 o3
      refine bX12_backwards_35 ?_
      rw [r8.1.1]
      refine ⟨by omega, ⟨by omega, by omega⟩, ⟨by omega, by omega⟩, fun _ => ?_, fun w => absurd (by omega) w⟩
      have ek : k = (D 0 0).toNat := by omega
      subst ek
      refine sm_buildsFrees (bk := true) (by omega) o1 r8 d8 (fun h9 y1 y2 y3 => sm_buildsEdges (bk := true) (by omega) o1 (bF_rep y1 r8) (by omega) y3 (by decide) (by show 0 ≤ h9 488 0 ∧ h9 488 0 ≤ _; rw [y2, p8]; decide) (fun h10 z1 z2 z3 => ?_))
      exact q_makes hI cx.1 cx.2.1 cx.2.2.1 kd o (mK_tr k8 (mK_tr (bF_k y1) (mK_tr (bF_k z1) mK_50))) z lok (drM_en z2) zup_eq (fun ft => by rw [zup_ne (by decide)]; have := z3 ft.2.1; have := ft.2.1; rw [List.nil_append] at *; omega)
    | succ f ih =>
      intro k h8 ek k8 p8 d8
      have r8 := CX_rep hI cx k8 o3
      refine bX12_backwards_35 ?_
      rw [r8.1.1, r8.1.2.1]
      refine ⟨by omega, ⟨by omega, by omega⟩, ⟨by omega, by omega⟩, fun w => absurd w (by omega), fun _ => ⟨by omega, sm_bit (by omega) ⟨fun w => ih (k + 1) h8 (by omega) k8 p8 ?_, fun w => sm_buildsFree d8 (fun h9 y1 y2 y3 => ih (k + 1) h9 (by omega) (mK_tr k8 (bF_k y1)) (by rw [y2]; exact p8) ?_)⟩⟩⟩
      · rw [bL_s, if_neg (by rw [w]; decide)]
        exact d8
      · rw [bL_s, if_pos w, ← List.append_assoc]
        exact y3
  exact go (D 0 0).toNat 0 h7 (by omega) k7 v4 v5
theorem c_past {m l : Int} (hI : Inv h) (hm : zR m) (hl : zR l) : twI G (d + 8) mX11_past mX12_past [vi m, vi l] h := by
  obtain ⟨n1, n2, n3⟩ := iM_n hI
  have no : ∀ w, (w = 1 ∧ ¬ (0 ≤ m ∧ m < h 0 13)) ∨ (w = 2 ∧ (0 ≤ m ∧ m < h 0 13) ∧ ¬ (0 ≤ l ∧ l < 65536)) → zCi G (d + 8) mX12_past [vr 12 466, vi m, vi l] (zup h 0 14 w) (fun y h4 => zR (-1) ∧ -1 = y ∧ Inv h4) := by
    intro w hw
    refine eX12_past (bX12_past_0 (q_machC (c := h 0 13) (by rw [zhw_m (by decide), n3]) (by omega) hm (fun q => ⟨fun _ => sm_isLetter hl ⟨fun z => ?_, fun z => ?_⟩, fun z => (by cases z)⟩) (fun q => ⟨fun z => (by cases z), fun _ => ?_⟩)))
    · have := of_decide_eq_true z
      omega
    · rcases hw with hw | hw
      · exact absurd q hw.2
      · rw [hw.1]
        exact sm_refused ⟨zR_m1, rfl, Inv_k hI (by omega) (fun _ _ => rfl) rfl rfl (mK_refl _)⟩
    · rcases hw with hw | hw
      · rw [hw.1]
        exact sm_refused ⟨zR_m1, rfl, Inv_k hI (by omega) (fun _ _ => rfl) rfl rfl (mK_refl _)⟩
      · exact absurd hw.2.1 q
  refine eX11_past (bX11_past_0 (q_mach hI hm (fun q => ⟨fun _ => sp_isIn hl ⟨by decide, by decide⟩ ⟨fun z => ?_, fun z => sp_refused (no 2 (Or.inr ⟨rfl, q, of_decide_eq_false z⟩))⟩, fun z => (by cases z)⟩) (fun q => ⟨fun z => (by cases z), fun _ => sp_refused (no 1 (Or.inl ⟨rfl, q⟩))⟩)))
  have ql := of_decide_eq_true z
  obtain ⟨m10, mc, o1, o2, o3, o4⟩ := iM_d hI q.1 q.2
  obtain ⟨D, eD⟩ : ∃ D, D = dOf h m := ⟨_, rfl⟩
  rw [← eD] at o1 o2 o3 o4
  have S0 := mO_st o1
  have mr : ¬ (4 ≤ h 3 m ∧ h 3 m ≤ 11) := by unfold mcell at mc; omega
  rw [o2.1.1]
  refine ⟨m10, sp_begin ⟨by omega, by omega⟩ (fun h2 b1 b2 b3 b4 b5 c1 => ?_)⟩
  have g2 := drC_b b2 b3 b4 b5 c1
  have fr2 : fr11 h h2 := fun a p => b1 a (by omega) (by omega)
  have fr7 : ∀ a, h 3 m ≤ a → a ≤ h 3 m + 18 → h2 a = h a := fun a x y => fr2 a (by unfold mcell at mc; omega)
  have bl := (dB_ok o1 ql.1).1
  have hB := mO_bl o1
  have pb := o4.2.1
  have stp := bfs_T pb (s := 0) (b := dB D l) (by omega) (by have := pb.1; omega) bl.1 bl.2 o1
  have t5 := pb.2.2.2.2.1 0 (dB D l) (by omega) (by have := pb.1; omega) bl.1 bl.2 (by have := pb.1; omega)
  have pn := pb.1
  obtain ⟨Y, eY⟩ : ∃ Y, Y = h (h 3 m + 8) (h (h 3 m + 9) (0 * 128 + dB D l)) := ⟨_, rfl⟩
  have lpY : lp Y (dSt D (tS (h (h 3 m + 8) 0)) (dB D l)) := by
    rw [eY]
    exact t5.2.1
  have Yb : ∀ k, D 0 0 ≤ k → k < 64 → tb Y k = false := fun k k0 k1 => by
    cases c : tb Y k
    · rfl
    · obtain ⟨e, e0, e1, -, -, dc⟩ := (lpY.2 k).mp ⟨by omega, k1, c⟩
      have := dc (fun q => q < D 0 0) (fun p ep => by rw [ep]; exact (mO_e o1 e0 e1).2.1.2) (fun i i0 i1 _ => (mO_f o1 i0 i1).2.2)
      omega
  refine sp_blockOf o1 (fr11_c mc fr2 o2) hl (sp_sheafStep ⟨by decide, by decide⟩ (by omega) ?_)
  rw [show h 3 m + 7 + 2 = h 3 m + 9 by omega, fr7 (h 3 m + 9) (by omega) (by omega), fr7 (h 3 m + 8) (by omega) (by omega), ← eY]
  refine ⟨by omega, ?_⟩
  refine sp_freeToEach g2 (fun h3 u1 u2 => ?_)
  have fr3 : fr11 h h3 := fr11_t fr2 (fr11_d u1)
  rw [bL_st o1 Yb] at u2
  refine sp_copyWhole (bk := false) mc o1 (fr11_c mc fr3 o2) (by omega) u2 (ctS_mv c1 (u1.1 10 (by decide)) u1.2) (fun h4 w1 w2 w3 => ?_)
  have e48 : h4 (h 3 m) 8 = D 0 1 := by rw [w1 _ mr, fr3 _ mr, o2.1.2.1]
  rw [e48]
  have fr4 : fr11 h (zup h4 4 8 (zlshl (D 0 1) 1)) := fun a p => by rw [zup_ne (by omega), w1 a p, fr3 a p]
  have f1 : ∀ a, kp a → (zup h4 4 8 (zlshl (D 0 1) 1)) a = h a := fun a k => fr4 a (by unfold kp at k; omega)
  have lok : lOK (D 0 0 + 1) (zlshl (D 0 1) 1) (eL D 1 false (pX D) (D 0 2).toNat) ([] ++ bL Y (fun q => (0, q + 1)) (D 0 0).toNat ++ fL D 1 false (D 0 3).toNat) := by
    refine lOK_1 o1 (zlshl_R _ _) (fun k k0 k1 => by rw [tb_lshl (by decide) (by decide) (by omega) k1, (mO_en o1).2 (k - 1) (by omega) (by omega), Bool.and_false]) (fun x hx => ?_)
    rw [List.nil_append] at hx
    obtain ⟨k, k0, -, e⟩ := bL_mem hx
    rw [e]
    dsimp only
    omega
  refine q_keepDraft hI f1 (fr4 0 (by decide)) (drC_en w2) lok (lBk_en w3) (fun x h5 kd o => ?_)
  have cx : CX h (zup h4 4 8 (zlshl (D 0 1) 1)) h5 := ⟨f1, fr4 0 (by decide), fr4 466 (by decide), kd⟩
  refine eX12_past (bX12_past_0 (q_machC (CX_64 hI cx (mK_0 h5)) (by omega) hm (fun _ => ⟨fun _ => sm_isLetter hl ⟨fun _ => sm_mostMachines (CX_64 hI cx (mK_0 h5)) (by omega) (fun z => ⟨⟨by decide, by decide⟩, fun _ => ?_, fun w => absurd (by decide) w⟩) (fun z => ⟨⟨by decide, by decide⟩, fun w => absurd w (by decide), fun _ => q_ref hI cx o (mK_0 h5) (fun w => by omega)⟩), fun w => absurd (show 0 ≤ l ∧ l ≤ 65535 by omega) (of_decide_eq_false w)⟩, fun z => (by cases z)⟩) (fun z => absurd q z)))
  have r0 := CX_rep hI cx (mK_0 h5) o3
  refine sm_freed o1 (by omega) r0 zRL_1 (fun y1 ly => sm_blockAt o1 (by omega) r0 hl ql.1 (sm_stepped o1 (by omega) r0 ly.1 bl (fun y2 l2 => ⟨by omega, ?_⟩)))
  have ey : y2 = Y := by
    have e0 : y1 = h (h 3 m + 8) 0 := lp_eq ly (lp_iff pb.2.1.1 (fun p => dClk_iff (fun z => tS_1.symm)))
    rw [e0] at l2
    exact lp_eq l2 lpY
  rw [ey, r0.1.1]
  refine sm_builds ⟨by omega, by omega⟩ (fun h7 v1 v2 v3 v4 v5 => ?_)
  have k7 : mK h5 h7 := mK_tr (mK_0 h5) (bld_k v1 v2)
  have go : ∀ (f : Nat) (k : Nat) (h8 : zH), k + f = (D 0 0).toNat → mK h5 h8 → h8 488 0 = 0 → drM h8 (D 0 0 + 1) [] ([] ++ bL Y (fun q => (0, q + 1)) k) → tX12_past_78 G (d + 7) (fun y h4 => zR x ∧ x = y ∧ Inv h4) m Y k h8 := by
    intro f
    induction f with
    | zero =>
      intro k h8 ek k8 p8 d8
      have r8 := CX_rep hI cx k8 o3
      refine bX12_past_78 ?_
      rw [r8.1.1]
      refine ⟨by omega, ⟨by omega, by omega⟩, ⟨by omega, by omega⟩, fun _ => ?_, fun w => absurd (by omega) w⟩
      have ek : k = (D 0 0).toNat := by omega
      subst ek
      refine sm_buildsFrees (bk := false) (by omega) o1 r8 d8 (fun h9 y1 y2 y3 => sm_buildsEdges (bk := false) (by omega) o1 (bF_rep y1 r8) (by omega) y3 (by decide) (by show 0 ≤ h9 488 0 ∧ h9 488 0 ≤ _; rw [y2, p8]; decide) (fun h10 z1 z2 z3 => ⟨by omega, ?_⟩))
      rw [(bF_rep z1 (bF_rep y1 r8)).1.2.1]
      exact q_makes hI cx.1 cx.2.1 cx.2.2.1 kd o (mK_tr k8 (mK_tr (bF_k y1) (mK_tr (bF_k z1) mK_50))) z lok (drM_en z2) zup_eq (fun ft => by rw [zup_ne (by decide)]; have := z3 ft.2.1; have := ft.2.1; rw [List.nil_append] at *; omega)
    | succ f ih =>
      intro k h8 ek k8 p8 d8
      have r8 := CX_rep hI cx k8 o3
      refine bX12_past_78 ?_
      rw [r8.1.1]
      refine ⟨by omega, ⟨by omega, by omega⟩, ⟨by omega, by omega⟩, fun w => absurd w (by omega), fun _ => sm_bit (by omega) ⟨fun w => ih (k + 1) h8 (by omega) k8 p8 ?_, fun w => sm_buildsFree d8 (fun h9 y1 y2 y3 => ih (k + 1) h9 (by omega) (mK_tr k8 (bF_k y1)) (by rw [y2]; exact p8) ?_)⟩⟩
      · rw [bL_s, if_neg (by rw [w]; decide)]
        exact d8
      · rw [bL_s, if_pos w, ← List.append_assoc]
        exact y3
  exact go (D 0 0).toNat 0 h7 (by omega) k7 v4 v5
end C1
