theorem y_n {G : zG} {R : Room} {kc ks : Nat} {Z : State → Array Value → List Frame → State → Prop} {M : zM} {pc : Nat} {L : List (Option zV)} {st : List zV} {n n' : Nat} {h : zH} (hn : n = n') (k : yB G R kc ks Z M pc L st (n', h)) : yB G R kc ks Z M pc L st (n, h) := by
  subst hn
  exact k
theorem yel9_0_0 {a i : Nat} (ha : a ∈ zids9) (hi : i < 12) : ((a + 3) + 2 * i) < 526 ∧ zkdN ((a + 3) + 2 * i) = 3 ∧ ((a + 3) + 2 * i) ∈ zids3 ∧ zlnN (((a + 3) + 2 * i) + 1) = 48 ∧ ((((a + 3) + 2 * i) : Nat) : Int) = zI (((a + 1) : Nat) : Int) i := (show ∀ a ∈ zids9, ∀ i < 12, ((a + 3) + 2 * i) < 526 ∧ zkdN ((a + 3) + 2 * i) = 3 ∧ ((a + 3) + 2 * i) ∈ zids3 ∧ zlnN (((a + 3) + 2 * i) + 1) = 48 ∧ ((((a + 3) + 2 * i) : Nat) : Int) = zI (((a + 1) : Nat) : Int) i by decide +kernel) a ha i hi
theorem yel0_1_0 {i : Nat} (hi : i < 13) : (28 + 4 * i) < 526 ∧ zkdN (28 + 4 * i) = 3 ∧ (28 + 4 * i) ∈ zids3 ∧ zlnN ((28 + 4 * i) + 1) = 902 ∧ (((28 + 4 * i) : Nat) : Int) = zI 18 i := (show ∀ i < 13, (28 + 4 * i) < 526 ∧ zkdN (28 + 4 * i) = 3 ∧ (28 + 4 * i) ∈ zids3 ∧ zlnN ((28 + 4 * i) + 1) = 902 ∧ (((28 + 4 * i) : Nat) : Int) = zI 18 i by decide +kernel) i hi
theorem yel0_2_1 {i : Nat} (hi : i < 13) : (28 + 4 * i + 2) < 526 ∧ zkdN (28 + 4 * i + 2) = 3 ∧ (28 + 4 * i + 2) ∈ zids3 ∧ zlnN ((28 + 4 * i + 2) + 1) = 902 ∧ (((28 + 4 * i + 2) : Nat) : Int) = zI 19 i := (show ∀ i < 13, (28 + 4 * i + 2) < 526 ∧ zkdN (28 + 4 * i + 2) = 3 ∧ (28 + 4 * i + 2) ∈ zids3 ∧ zlnN ((28 + 4 * i + 2) + 1) = 902 ∧ (((28 + 4 * i + 2) : Nat) : Int) = zI 19 i by decide +kernel) i hi
theorem yel8_3_0 {i : Nat} (hi : i < 24) : (109 + 2 * i) < 526 ∧ zkdN (109 + 2 * i) = 3 ∧ (109 + 2 * i) ∈ zids3 ∧ zlnN ((109 + 2 * i) + 1) = 48 ∧ (((109 + 2 * i) : Nat) : Int) = zI 80 i := (show ∀ i < 24, (109 + 2 * i) < 526 ∧ zkdN (109 + 2 * i) = 3 ∧ (109 + 2 * i) ∈ zids3 ∧ zlnN ((109 + 2 * i) + 1) = 48 ∧ (((109 + 2 * i) : Nat) : Int) = zI 80 i by decide +kernel) i hi
theorem yel8_4_0 {i : Nat} (hi : i < 4) : (157 + 19 * i) < 526 ∧ zkdN (157 + 19 * i) = 4 ∧ (157 + 19 * i) ∈ zids4 ∧ True ∧ (((157 + 19 * i) : Nat) : Int) = zI 81 i := (show ∀ i < 4, (157 + 19 * i) < 526 ∧ zkdN (157 + 19 * i) = 4 ∧ (157 + 19 * i) ∈ zids4 ∧ True ∧ (((157 + 19 * i) : Nat) : Int) = zI 81 i by decide +kernel) i hi
theorem yel11_2_0 {i : Nat} (hi : i < 10) : (276 + 19 * i) < 526 ∧ zkdN (276 + 19 * i) = 4 ∧ (276 + 19 * i) ∈ zids4 ∧ True ∧ (((276 + 19 * i) : Nat) : Int) = zI 3 i := (show ∀ i < 10, (276 + 19 * i) < 526 ∧ zkdN (276 + 19 * i) = 4 ∧ (276 + 19 * i) ∈ zids4 ∧ True ∧ (((276 + 19 * i) : Nat) : Int) = zI 3 i by decide +kernel) i hi
set_option maxRecDepth 100000 in
set_option maxHeartbeats 8000000 in
theorem y_X9 {G : zG} {d : Nat} {a : Nat} (ha : a ∈ zids9) {h : zH} (hJ : yJ h) : yC G (d + 2) 26 624 mX9_init [vr 9 a] ((a + 1), h) (yQ h a (a + 27)) := by
  refine y_entry (L := [some (vr 9 (a : Int)), none]) (by decide +kernel) (Nat.le_of_ble_eq_true rfl) rfl ?_
  refine y_aload_n 0 dX9_init_0 rfl rfl (Nat.le_of_ble_eq_true rfl) rfl ?_
  refine y_obj (ci := 9) ⟨koX9_3, kobj.1, kobj.2⟩ (by decide) dX9_init_1 ⟨by show 1 ≤ d + 2; omega, (by show _ ≤ 64 * (d + 2); rw [show zcat _ = 0 from rfl]; omega)⟩ rfl ?_
  refine y_aload_n 0 dX9_init_4 rfl rfl (Nat.le_of_ble_eq_true rfl) rfl ?_
  refine y_bipush dX9_init_5 rfl rfl ?_
  refine y_anew 16 3 (Or.inl ⟨rfl, rfl, rfl⟩) kcX9_9 dX9_init_7 (N := 12) (r := (((a + 1) : Nat) : Int)) ⟨(by have := yid9 ha; omega), (yk9_1 ha).1, (yk9_1 ha).2, rfl⟩ ⟨by show _ ≤ 26; omega, by show _ ≤ 624; omega⟩ rfl rfl ?_
  refine y_set 9 16 pX9_11 rfl rfl (by decide) dX9_init_10 (by omega) hJ (yi9_0 ha) rfl (fun h1 hJ1 hM1 s1 => ?_)
  refine y_aload_n 0 dX9_init_13 rfl rfl (Nat.le_of_ble_eq_true rfl) rfl ?_
  refine y_bipush dX9_init_14 rfl rfl ?_
  refine y_newJ karr_long dX9_init_16 (N := 12) (r := (((a + 2) : Nat) : Int)) ⟨(by have := yid9 ha; omega), (yk9_2 ha).1, (yk9_2 ha).2, rfl⟩ ⟨by show _ ≤ 26; omega, by show _ ≤ 624; omega⟩ rfl rfl ?_
  refine y_set 9 14 pX9_17 rfl rfl (by decide) dX9_init_18 (by omega) hJ1 (yi9_1 ha) rfl (fun h2 hJ2 hM2 s2 => ?_)
  refine y_iconst dX9_init_21 rfl ?_
  refine y_istore_n 1 dX9_init_22 rfl (Nat.le_of_ble_eq_true rfl) (L' := [some (vr 9 (a : Int)), some (vi 0)]) rfl rfl ?_
  refine y_kcs (kc' := 2) (ks' := 24) (by omega) (by omega) ?_
  have loop1 : ∀ (k i : Nat), i + k = 12 → ∀ g1 : zH, yJ g1 → yM h2 g1 → (∀ y : Nat, y < i → g1 (((a + 1) : Nat) : Int) y = zI (((a + 1) : Nat) : Int) y) → yD g1 ((a + 3) : Nat) ((a + 3) + 2 * i : Nat) → yT G (d + 2) 26 624 (2 + 2 * i) (24 + 50 * i) mX9_init (yQ h a (a + 27)) 23 [some (vr 9 (a : Int)), some (vi (i : Int))] [] ((a + 3) + 2 * i, g1) := by
    intro k
    induction k with
    | zero =>
      intro i hi g1 hJg hMg hA0 hDg
      have ei : i = 12 := by omega
      subst ei
      refine y_iload_n 1 dX9_init_23 rfl rfl rfl ?_
      refine y_bipush dX9_init_24 rfl rfl ?_
      refine y_icmp_ge (tgt := 50) dX9_init_26 rfl ⟨by omega, by omega⟩ ⟨by decide, by decide⟩ rfl ⟨fun _ => ?_, fun q => absurd (show (12 : Int) ≤ ((12 : Nat) : Int) by decide) q⟩
      obtain ⟨hJ3, hM3, hD3⟩ : yJ g1 ∧ yM h2 g1 ∧ yD g1 ((a + 3) : Nat) ((a + 27) : Nat) := ⟨hJg, hMg, yD_eq hDg (by omega) (by omega)⟩
      have hB3_0 := hA0
      refine y_n (n' := (a + 27)) (by omega) ?_
      refine y_kcs (kc' := 26) (ks' := 624) (by omega) (by omega) ?_
      exact y_return rfl dX9_init_50 ⟨by omega, hJ3, (yM_tr (yM_tr hM1 hM2) hM3), yD_eq (yD_app (a := ((a : Nat) : Int)) (b := (((a + 1) : Nat) : Int)) (yD_obj' hJ3 (a := a) (fun j hj => have hl : j < 3 := (by have := (yk9_0 ha).2; omega); match j, hl with | 0, _ => Or.inl (hM3 _ _ (hM2 _ _ s1)) | 1, _ => Or.inl (hM3 _ _ s2) | 2, _ => Or.inr (yb9 ha 2 (by decide)) | j + 3, hl => absurd hl (by omega)) (by omega) (by omega)) (yD_app (a := (((a + 1) : Nat) : Int)) (b := (((a + 2) : Nat) : Int)) (yD_obj' hJ3 (a := (a + 1)) (fun j hj => Or.inl ((hB3_0 j (by have := (yk9_1 ha).2; omega)))) (by omega) (by omega)) (yD_app (a := (((a + 2) : Nat) : Int)) (b := (((a + 3) : Nat) : Int)) (yD_num' hJ3 (a := (a + 2)) (Or.inr (Or.inl (yk9_2 ha).1)) (by omega) (by omega)) (show yD _ (((a + 3) : Nat) : Int) (((a + 27) : Nat) : Int) from yD_eq (yD_M hD3 (yM_rf _)) (by omega) (by omega))))) (by omega) (by omega)⟩
    | succ k ih =>
      intro i hi g1 hJg hMg hA0 hDg
      refine y_iload_n 1 dX9_init_23 rfl rfl rfl ?_
      refine y_bipush dX9_init_24 rfl rfl ?_
      refine y_icmp_ge (tgt := 50) dX9_init_26 rfl ⟨by omega, by omega⟩ ⟨by decide, by decide⟩ rfl ⟨fun q => absurd q (by omega), fun _ => ?_⟩
      refine y_aload_n 0 dX9_init_29 rfl rfl (Nat.le_of_ble_eq_true rfl) rfl ?_
      refine y_get 9 16 (x := (((a + 1) : Nat) : Int)) fX9_11 rfl (by decide) dX9_init_30 (by omega) (((hMg _ _ (hM2 _ _ s1))).trans (yi9_0 ha).symm) (zvok_mk (by decide) (by have := yid9 ha; omega) (yk9_1 ha).1) rfl ?_
      refine y_iload_n 1 dX9_init_33 rfl rfl rfl ?_
      refine y_new 3 (r := ((((a + 3) + 2 * i) : Nat) : Int)) zc3 ydef3 kcX9_9 nX3_init.1 nX3_init.2 dX9_init_34 ⟨(yel9_0_0 ha (show i < 12 by omega)).1, (yel9_0_0 ha (show i < 12 by omega)).2.1⟩ ⟨by show _ ≤ 26; omega, by show _ ≤ 624; omega⟩ rfl rfl ?_
      refine y_dup dX9_init_37 (fun q => by cases q) rfl ?_
      refine y_bipush dX9_init_38 rfl rfl ?_
      refine y_callI (ci := 3) (d := d + 1) (mc := 1) (ms := 48) iX3_init (by decide) kiX9_21 dX9_init_40 rfl ⟨by show d + 1 + 1 ≤ d + 2; omega, by show 64 * (d + 1 + 1) ≤ 64 * (d + 2); omega, by show _ ≤ 26; omega, by show _ ≤ 624; omega⟩ (as := [vi 48]) (rest := [vr 3 ((((a + 3) + 2 * i) : Nat) : Int), vi (i : Int), vr 16 (((a + 1) : Nat) : Int)]) (Nat.le_of_ble_eq_true rfl) rfl rfl (yC_mono (fun h9 q9 => ?_) (y_X3 (d := d) (a := ((a + 3) + 2 * i)) (room := 48) (yel9_0_0 ha (show i < 12 by omega)).2.2.1 (yel9_0_0 ha (show i < 12 by omega)).2.2.2.1 hJg))
      obtain ⟨n9, gc1_0⟩ := h9
      obtain ⟨e9, hJc1_0, hMc1_0, hDc1_0⟩ := q9
      dsimp only at e9 hJc1_0 hMc1_0 hDc1_0
      subst e9
      refine ⟨by show _ = _ + _; omega, ?_⟩
      refine y_put17 16 3 3 (Or.inl ⟨rfl, rfl, rfl⟩) dX9_init_43 (by omega) (by omega) ⟨by omega, (by unfold zln; rw [Int.toNat_natCast, (yk9_1 ha).2]; omega)⟩ hJc1_0 (yel9_0_0 ha (show i < 12 by omega)).2.2.2.2 rfl (fun gs1_0 hJs1_0 hMs1_0 ss1_0 => ?_)
      refine y_iinc dX9_init_44 rfl (Nat.le_of_ble_eq_true rfl) (L' := [some (vr 9 (a : Int)), some (vi ((i + 1 : Nat) : Int))]) rfl rfl ?_
      refine y_goto (tgt := 23) dX9_init_47 rfl ?_
      refine y_kcs (kc' := 2 + 2 * (i + 1)) (ks' := 24 + 50 * (i + 1)) (by omega) (by omega) (y_n (n' := (a + 3) + 2 * (i + 1)) (by omega) ?_)
      exact ih (i + 1) (by omega) _ hJs1_0 (yM_tr (yM_tr hMg hMc1_0) hMs1_0) (fun y hy => (by rcases (show y < i ∨ y = i by omega) with q | q; exact (yM_tr hMc1_0 hMs1_0) _ _ (hA0 y q); subst q; exact (yM_rf _) _ _ ss1_0)) (yD_eq (yD_app (yD_eq (yD_M hDg (yM_tr hMc1_0 hMs1_0)) rfl (by omega)) (show yD _ (((a + 3) + 2 * i + 0 : Nat) : Int) (((a + 3) + 2 * i + 2 : Nat) : Int) from yD_eq (yD_M hDc1_0 hMs1_0) (by omega) (by omega))) rfl (by omega))
  exact loop1 12 0 rfl h2 hJ2 (yM_rf _) (fun y hy => absurd hy (by omega)) (fun x y q1 q2 => absurd q2 (by omega))
set_option maxRecDepth 100000 in
set_option maxHeartbeats 8000000 in
theorem y_X0 {G : zG} {d : Nat} {h : zH} (hJ : yJ h) : yC G (d + 2) 62 25368 mX0_init [vr 0 17, vr 10 13] (18, h) (yQ h 17 80) := by
  refine y_entry (L := [some (vr 0 17), some (vr 10 13), none]) (by decide +kernel) (Nat.le_of_ble_eq_true rfl) rfl ?_
  refine y_aload_n 0 dX0_init_0 rfl rfl (Nat.le_of_ble_eq_true rfl) rfl ?_
  refine y_obj (ci := 0) ⟨koX0_3, kobj.1, kobj.2⟩ (by decide) dX0_init_1 ⟨by show 1 ≤ d + 2; omega, (by show _ ≤ 64 * (d + 2); rw [show zcat _ = 0 from rfl]; omega)⟩ rfl ?_
  refine y_aload_n 0 dX0_init_4 rfl rfl (Nat.le_of_ble_eq_true rfl) rfl ?_
  refine y_bipush dX0_init_5 rfl rfl ?_
  refine y_anew 16 3 (Or.inl ⟨rfl, rfl, rfl⟩) kcX0_11 dX0_init_7 (N := 13) (r := 18) ⟨(by decide), (by decide +kernel), (by decide +kernel), rfl⟩ ⟨by show _ ≤ 62; omega, by show _ ≤ 25368; omega⟩ rfl rfl ?_
  refine y_set 0 16 pX0_13 rfl rfl (by decide) dX0_init_10 (by omega) hJ (by decide +kernel) rfl (fun h1 hJ1 hM1 s1 => ?_)
  refine y_aload_n 0 dX0_init_13 rfl rfl (Nat.le_of_ble_eq_true rfl) rfl ?_
  refine y_bipush dX0_init_14 rfl rfl ?_
  refine y_anew 16 3 (Or.inl ⟨rfl, rfl, rfl⟩) kcX0_11 dX0_init_16 (N := 13) (r := 19) ⟨(by decide), (by decide +kernel), (by decide +kernel), rfl⟩ ⟨by show _ ≤ 62; omega, by show _ ≤ 25368; omega⟩ rfl rfl ?_
  refine y_set 0 16 pX0_17 rfl rfl (by decide) dX0_init_19 (by omega) hJ1 (by decide +kernel) rfl (fun h2 hJ2 hM2 s2 => ?_)
  refine y_aload_n 0 dX0_init_22 rfl rfl (Nat.le_of_ble_eq_true rfl) rfl ?_
  refine y_bipush dX0_init_23 rfl rfl ?_
  refine y_newI karr_int dX0_init_25 (N := 13) (r := 20) ⟨(by decide), (by decide +kernel), (by decide +kernel), rfl⟩ ⟨by show _ ≤ 62; omega, by show _ ≤ 25368; omega⟩ rfl rfl ?_
  refine y_set 0 13 pX0_20 rfl rfl (by decide) dX0_init_27 (by omega) hJ2 (by decide +kernel) rfl (fun h3 hJ3 hM3 s3 => ?_)
  refine y_aload_n 0 dX0_init_30 rfl rfl (Nat.le_of_ble_eq_true rfl) rfl ?_
  refine y_bipush dX0_init_31 rfl rfl ?_
  refine y_newI karr_int dX0_init_33 (N := 13) (r := 21) ⟨(by decide), (by decide +kernel), (by decide +kernel), rfl⟩ ⟨by show _ ≤ 62; omega, by show _ ≤ 25368; omega⟩ rfl rfl ?_
  refine y_set 0 13 pX0_24 rfl rfl (by decide) dX0_init_35 (by omega) hJ3 (by decide +kernel) rfl (fun h4 hJ4 hM4 s4 => ?_)
  refine y_aload_n 0 dX0_init_38 rfl rfl (Nat.le_of_ble_eq_true rfl) rfl ?_
  refine y_new 3 (r := 22) zc3 ydef3 kcX0_11 nX3_init.1 nX3_init.2 dX0_init_39 ⟨(by decide), (by decide +kernel)⟩ ⟨by show _ ≤ 62; omega, by show _ ≤ 25368; omega⟩ rfl rfl ?_
  refine y_dup dX0_init_42 (fun q => by cases q) rfl ?_
  refine y_iconst dX0_init_43 rfl ?_
  refine y_callI (ci := 3) (d := d + 1) (mc := 1) (ms := 2) iX3_init (by decide) kiX0_27 dX0_init_44 rfl ⟨by show d + 1 + 1 ≤ d + 2; omega, by show 64 * (d + 1 + 1) ≤ 64 * (d + 2); omega, by show _ ≤ 62; omega, by show _ ≤ 25368; omega⟩ (as := [vi 2]) (rest := [vr 3 22, vr 0 17]) (Nat.le_of_ble_eq_true rfl) rfl rfl (yC_mono (fun h9 q9 => ?_) (y_X3 (d := d) (a := 22) (room := 2) (by decide +kernel) (by decide +kernel) hJ4))
  obtain ⟨n9, h5⟩ := h9
  obtain ⟨e9, hJ5, hM5, hD5⟩ := q9
  dsimp only at e9 hJ5 hM5 hD5
  subst e9
  refine ⟨by show _ = _ + _; omega, ?_⟩
  refine y_set 0 3 pX0_30 rfl rfl (by decide) dX0_init_47 (by omega) hJ5 (by decide +kernel) rfl (fun h6 hJ6 hM6 s6 => ?_)
  refine y_aload_n 0 dX0_init_50 rfl rfl (Nat.le_of_ble_eq_true rfl) rfl ?_
  refine y_new 3 (r := 24) zc3 ydef3 kcX0_11 nX3_init.1 nX3_init.2 dX0_init_51 ⟨(by decide), (by decide +kernel)⟩ ⟨by show _ ≤ 62; omega, by show _ ≤ 25368; omega⟩ rfl rfl ?_
  refine y_dup dX0_init_54 (fun q => by cases q) rfl ?_
  refine y_sipush dX0_init_55 rfl rfl ?_
  refine y_callI (ci := 3) (d := d + 1) (mc := 1) (ms := 902) iX3_init (by decide) kiX0_27 dX0_init_58 rfl ⟨by show d + 1 + 1 ≤ d + 2; omega, by show 64 * (d + 1 + 1) ≤ 64 * (d + 2); omega, by show _ ≤ 62; omega, by show _ ≤ 25368; omega⟩ (as := [vi 902]) (rest := [vr 3 24, vr 0 17]) (Nat.le_of_ble_eq_true rfl) rfl rfl (yC_mono (fun h9 q9 => ?_) (y_X3 (d := d) (a := 24) (room := 902) (by decide +kernel) (by decide +kernel) hJ6))
  obtain ⟨n9, h7⟩ := h9
  obtain ⟨e9, hJ7, hM7, hD7⟩ := q9
  dsimp only at e9 hJ7 hM7 hD7
  subst e9
  refine ⟨by show _ = _ + _; omega, ?_⟩
  refine y_set 0 3 pX0_34 rfl rfl (by decide) dX0_init_61 (by omega) hJ7 (by decide +kernel) rfl (fun h8 hJ8 hM8 s8 => ?_)
  refine y_aload_n 0 dX0_init_64 rfl rfl (Nat.le_of_ble_eq_true rfl) rfl ?_
  refine y_new 3 (r := 26) zc3 ydef3 kcX0_11 nX3_init.1 nX3_init.2 dX0_init_65 ⟨(by decide), (by decide +kernel)⟩ ⟨by show _ ≤ 62; omega, by show _ ≤ 25368; omega⟩ rfl rfl ?_
  refine y_dup dX0_init_68 (fun q => by cases q) rfl ?_
  refine y_sipush dX0_init_69 rfl rfl ?_
  refine y_callI (ci := 3) (d := d + 1) (mc := 1) (ms := 902) iX3_init (by decide) kiX0_27 dX0_init_72 rfl ⟨by show d + 1 + 1 ≤ d + 2; omega, by show 64 * (d + 1 + 1) ≤ 64 * (d + 2); omega, by show _ ≤ 62; omega, by show _ ≤ 25368; omega⟩ (as := [vi 902]) (rest := [vr 3 26, vr 0 17]) (Nat.le_of_ble_eq_true rfl) rfl rfl (yC_mono (fun h9 q9 => ?_) (y_X3 (d := d) (a := 26) (room := 902) (by decide +kernel) (by decide +kernel) hJ8))
  obtain ⟨n9, h9⟩ := h9
  obtain ⟨e9, hJ9, hM9, hD9⟩ := q9
  dsimp only at e9 hJ9 hM9 hD9
  subst e9
  refine ⟨by show _ = _ + _; omega, ?_⟩
  refine y_set 0 3 pX0_37 rfl rfl (by decide) dX0_init_75 (by omega) hJ9 (by decide +kernel) rfl (fun h10 hJ10 hM10 s10 => ?_)
  refine y_aload_n 0 dX0_init_78 rfl rfl (Nat.le_of_ble_eq_true rfl) rfl ?_
  refine y_aload_n 1 dX0_init_79 rfl rfl (Nat.le_of_ble_eq_true rfl) rfl ?_
  refine y_set 0 10 pX0_40 rfl rfl (by decide) dX0_init_80 (by omega) hJ10 (by decide +kernel) rfl (fun h11 hJ11 hM11 s11 => ?_)
  refine y_iconst dX0_init_83 rfl ?_
  refine y_istore_n 2 dX0_init_84 rfl (Nat.le_of_ble_eq_true rfl) (L' := [some (vr 0 17), some (vr 10 13), some (vi 0)]) rfl rfl ?_
  refine y_kcs (kc' := 10) (ks' := 1864) (by omega) (by omega) ?_
  have loop1 : ∀ (k i : Nat), i + k = 13 → ∀ g1 : zH, yJ g1 → yM h11 g1 → (∀ y : Nat, y < i → g1 18 y = zI 18 y) → (∀ y : Nat, y < i → g1 19 y = zI 19 y) → yD g1 (28 : Nat) (28 + 4 * i : Nat) → yT G (d + 2) 62 25368 (10 + 4 * i) (1864 + 1808 * i) mX0_init (yQ h 17 80) 85 [some (vr 0 17), some (vr 10 13), some (vi (i : Int))] [] (28 + 4 * i, g1) := by
    intro k
    induction k with
    | zero =>
      intro i hi g1 hJg hMg hA0 hA1 hDg
      have ei : i = 13 := by omega
      subst ei
      refine y_iload_n 2 dX0_init_85 rfl rfl rfl ?_
      refine y_bipush dX0_init_86 rfl rfl ?_
      refine y_icmp_ge (tgt := 129) dX0_init_88 rfl ⟨by omega, by omega⟩ ⟨by decide, by decide⟩ rfl ⟨fun _ => ?_, fun q => absurd (show (13 : Int) ≤ ((13 : Nat) : Int) by decide) q⟩
      obtain ⟨hJ12, hM12, hD12⟩ : yJ g1 ∧ yM h11 g1 ∧ yD g1 (28 : Nat) (80 : Nat) := ⟨hJg, hMg, yD_eq hDg (by omega) (by omega)⟩
      have hB12_0 := hA0
      have hB12_1 := hA1
      refine y_n (n' := 80) (by omega) ?_
      refine y_kcs (kc' := 62) (ks' := 25368) (by omega) (by omega) ?_
      exact y_return rfl dX0_init_129 ⟨by omega, hJ12, (yM_tr (yM_tr (yM_tr (yM_tr (yM_tr (yM_tr (yM_tr (yM_tr (yM_tr (yM_tr (yM_tr hM1 hM2) hM3) hM4) hM5) hM6) hM7) hM8) hM9) hM10) hM11) hM12), yD_eq (yD_app (a := (17 : Int)) (b := (18 : Int)) (yD_obj' hJ12 (a := 17) (fun j hj => have hl : j < 11 := (by have := (show zlnN 17 = 11 by decide +kernel); omega); match j, hl with | 0, _ => Or.inl (hM12 _ _ s11) | 1, _ => Or.inl (hM12 _ _ (hM11 _ _ (hM10 _ _ (hM9 _ _ (hM8 _ _ (hM7 _ _ (hM6 _ _ (hM5 _ _ (hM4 _ _ (hM3 _ _ (hM2 _ _ s1))))))))))) | 2, _ => Or.inl (hM12 _ _ (hM11 _ _ (hM10 _ _ (hM9 _ _ (hM8 _ _ (hM7 _ _ (hM6 _ _ (hM5 _ _ (hM4 _ _ (hM3 _ _ s2)))))))))) | 3, _ => Or.inl (hM12 _ _ (hM11 _ _ (hM10 _ _ (hM9 _ _ (hM8 _ _ (hM7 _ _ (hM6 _ _ (hM5 _ _ (hM4 _ _ s3))))))))) | 4, _ => Or.inl (hM12 _ _ (hM11 _ _ (hM10 _ _ (hM9 _ _ (hM8 _ _ (hM7 _ _ (hM6 _ _ (hM5 _ _ s4)))))))) | 5, _ => Or.inl (hM12 _ _ (hM11 _ _ (hM10 _ _ (hM9 _ _ (hM8 _ _ (hM7 _ _ s6)))))) | 6, _ => Or.inl (hM12 _ _ (hM11 _ _ (hM10 _ _ (hM9 _ _ s8)))) | 7, _ => Or.inl (hM12 _ _ (hM11 _ _ s10)) | 8, _ => Or.inr (by decide +kernel) | 9, _ => Or.inr (by decide +kernel) | 10, _ => Or.inr (by decide +kernel) | j + 11, hl => absurd hl (by omega)) (by omega) (by omega)) (yD_app (a := (18 : Int)) (b := (19 : Int)) (yD_obj' hJ12 (a := 18) (fun j hj => Or.inl ((hB12_0 j (by have := (show zlnN 18 = 13 by decide +kernel); omega)))) (by omega) (by omega)) (yD_app (a := (19 : Int)) (b := (20 : Int)) (yD_obj' hJ12 (a := 19) (fun j hj => Or.inl ((hB12_1 j (by have := (show zlnN 19 = 13 by decide +kernel); omega)))) (by omega) (by omega)) (yD_app (a := (20 : Int)) (b := (21 : Int)) (yD_num' hJ12 (a := 20) (Or.inl (by decide +kernel)) (by omega) (by omega)) (yD_app (a := (21 : Int)) (b := (22 : Int)) (yD_num' hJ12 (a := 21) (Or.inl (by decide +kernel)) (by omega) (by omega)) (yD_app (a := (22 : Int)) (b := (24 : Int)) (yD_eq (yD_M hD5 (yM_tr (yM_tr (yM_tr (yM_tr (yM_tr (yM_tr hM6 hM7) hM8) hM9) hM10) hM11) hM12)) (by omega) (by omega)) (yD_app (a := (24 : Int)) (b := (26 : Int)) (yD_eq (yD_M hD7 (yM_tr (yM_tr (yM_tr (yM_tr hM8 hM9) hM10) hM11) hM12)) (by omega) (by omega)) (yD_app (a := (26 : Int)) (b := (28 : Int)) (yD_eq (yD_M hD9 (yM_tr (yM_tr hM10 hM11) hM12)) (by omega) (by omega)) (show yD _ (28 : Int) (80 : Int) from yD_eq (yD_M hD12 (yM_rf _)) (by omega) (by omega)))))))))) (by omega) (by omega)⟩
    | succ k ih =>
      intro i hi g1 hJg hMg hA0 hA1 hDg
      refine y_iload_n 2 dX0_init_85 rfl rfl rfl ?_
      refine y_bipush dX0_init_86 rfl rfl ?_
      refine y_icmp_ge (tgt := 129) dX0_init_88 rfl ⟨by omega, by omega⟩ ⟨by decide, by decide⟩ rfl ⟨fun q => absurd q (by omega), fun _ => ?_⟩
      refine y_aload_n 0 dX0_init_91 rfl rfl (Nat.le_of_ble_eq_true rfl) rfl ?_
      refine y_get 0 16 (x := 18) fX0_13 rfl (by decide) dX0_init_92 (by omega) (((hMg _ _ (hM11 _ _ (hM10 _ _ (hM9 _ _ (hM8 _ _ (hM7 _ _ (hM6 _ _ (hM5 _ _ (hM4 _ _ (hM3 _ _ (hM2 _ _ s1)))))))))))).trans (by decide +kernel)) (zvok_mk (k := 18) (by decide) (by decide) (by decide +kernel)) rfl ?_
      refine y_iload_n 2 dX0_init_95 rfl rfl rfl ?_
      refine y_new 3 (r := (((28 + 4 * i) : Nat) : Int)) zc3 ydef3 kcX0_11 nX3_init.1 nX3_init.2 dX0_init_96 ⟨(yel0_1_0 (show i < 13 by omega)).1, (yel0_1_0 (show i < 13 by omega)).2.1⟩ ⟨by show _ ≤ 62; omega, by show _ ≤ 25368; omega⟩ rfl rfl ?_
      refine y_dup dX0_init_99 (fun q => by cases q) rfl ?_
      refine y_sipush dX0_init_100 rfl rfl ?_
      refine y_callI (ci := 3) (d := d + 1) (mc := 1) (ms := 902) iX3_init (by decide) kiX0_27 dX0_init_103 rfl ⟨by show d + 1 + 1 ≤ d + 2; omega, by show 64 * (d + 1 + 1) ≤ 64 * (d + 2); omega, by show _ ≤ 62; omega, by show _ ≤ 25368; omega⟩ (as := [vi 902]) (rest := [vr 3 (((28 + 4 * i) : Nat) : Int), vi (i : Int), vr 16 18]) (Nat.le_of_ble_eq_true rfl) rfl rfl (yC_mono (fun h9 q9 => ?_) (y_X3 (d := d) (a := (28 + 4 * i)) (room := 902) (yel0_1_0 (show i < 13 by omega)).2.2.1 (yel0_1_0 (show i < 13 by omega)).2.2.2.1 hJg))
      obtain ⟨n9, gc1_0⟩ := h9
      obtain ⟨e9, hJc1_0, hMc1_0, hDc1_0⟩ := q9
      dsimp only at e9 hJc1_0 hMc1_0 hDc1_0
      subst e9
      refine ⟨by show _ = _ + _; omega, ?_⟩
      refine y_put17 16 3 3 (Or.inl ⟨rfl, rfl, rfl⟩) dX0_init_106 (by omega) (by omega) ⟨by omega, (by rw [show zln 18 = 13 by decide +kernel]; omega)⟩ hJc1_0 (yel0_1_0 (show i < 13 by omega)).2.2.2.2 rfl (fun gs1_0 hJs1_0 hMs1_0 ss1_0 => ?_)
      refine y_aload_n 0 dX0_init_107 rfl rfl (Nat.le_of_ble_eq_true rfl) rfl ?_
      refine y_get 0 16 (x := 19) fX0_17 rfl (by decide) dX0_init_108 (by omega) (((hMs1_0 _ _ (hMc1_0 _ _ (hMg _ _ (hM11 _ _ (hM10 _ _ (hM9 _ _ (hM8 _ _ (hM7 _ _ (hM6 _ _ (hM5 _ _ (hM4 _ _ (hM3 _ _ s2))))))))))))).trans (by decide +kernel)) (zvok_mk (k := 19) (by decide) (by decide) (by decide +kernel)) rfl ?_
      refine y_iload_n 2 dX0_init_111 rfl rfl rfl ?_
      refine y_new 3 (r := (((28 + 4 * i + 2) : Nat) : Int)) zc3 ydef3 kcX0_11 nX3_init.1 nX3_init.2 dX0_init_112 ⟨(yel0_2_1 (show i < 13 by omega)).1, (yel0_2_1 (show i < 13 by omega)).2.1⟩ ⟨by show _ ≤ 62; omega, by show _ ≤ 25368; omega⟩ rfl rfl ?_
      refine y_dup dX0_init_115 (fun q => by cases q) rfl ?_
      refine y_sipush dX0_init_116 rfl rfl ?_
      refine y_callI (ci := 3) (d := d + 1) (mc := 1) (ms := 902) iX3_init (by decide) kiX0_27 dX0_init_119 rfl ⟨by show d + 1 + 1 ≤ d + 2; omega, by show 64 * (d + 1 + 1) ≤ 64 * (d + 2); omega, by show _ ≤ 62; omega, by show _ ≤ 25368; omega⟩ (as := [vi 902]) (rest := [vr 3 (((28 + 4 * i + 2) : Nat) : Int), vi (i : Int), vr 16 19]) (Nat.le_of_ble_eq_true rfl) rfl rfl (yC_mono (fun h9 q9 => ?_) (y_X3 (d := d) (a := (28 + 4 * i + 2)) (room := 902) (yel0_2_1 (show i < 13 by omega)).2.2.1 (yel0_2_1 (show i < 13 by omega)).2.2.2.1 hJs1_0))
      obtain ⟨n9, gc1_1⟩ := h9
      obtain ⟨e9, hJc1_1, hMc1_1, hDc1_1⟩ := q9
      dsimp only at e9 hJc1_1 hMc1_1 hDc1_1
      subst e9
      refine ⟨by show _ = _ + _; omega, ?_⟩
      refine y_put17 16 3 3 (Or.inl ⟨rfl, rfl, rfl⟩) dX0_init_122 (by omega) (by omega) ⟨by omega, (by rw [show zln 19 = 13 by decide +kernel]; omega)⟩ hJc1_1 (yel0_2_1 (show i < 13 by omega)).2.2.2.2 rfl (fun gs1_1 hJs1_1 hMs1_1 ss1_1 => ?_)
      refine y_iinc dX0_init_123 rfl (Nat.le_of_ble_eq_true rfl) (L' := [some (vr 0 17), some (vr 10 13), some (vi ((i + 1 : Nat) : Int))]) rfl rfl ?_
      refine y_goto (tgt := 85) dX0_init_126 rfl ?_
      refine y_kcs (kc' := 10 + 4 * (i + 1)) (ks' := 1864 + 1808 * (i + 1)) (by omega) (by omega) (y_n (n' := 28 + 4 * (i + 1)) (by omega) ?_)
      exact ih (i + 1) (by omega) _ hJs1_1 (yM_tr (yM_tr (yM_tr (yM_tr hMg hMc1_0) hMs1_0) hMc1_1) hMs1_1) (fun y hy => (by rcases (show y < i ∨ y = i by omega) with q | q; exact (yM_tr (yM_tr (yM_tr hMc1_0 hMs1_0) hMc1_1) hMs1_1) _ _ (hA0 y q); subst q; exact (yM_tr hMc1_1 hMs1_1) _ _ ss1_0)) (fun y hy => (by rcases (show y < i ∨ y = i by omega) with q | q; exact (yM_tr (yM_tr (yM_tr hMc1_0 hMs1_0) hMc1_1) hMs1_1) _ _ (hA1 y q); subst q; exact (yM_rf _) _ _ ss1_1)) (yD_eq (yD_app (yD_eq (yD_M hDg (yM_tr (yM_tr (yM_tr hMc1_0 hMs1_0) hMc1_1) hMs1_1)) rfl (by omega)) (yD_app (a := ((28 + 4 * i + 0 : Nat) : Int)) (b := ((28 + 4 * i + 2 : Nat) : Int)) (yD_eq (yD_M hDc1_0 (yM_tr (yM_tr hMs1_0 hMc1_1) hMs1_1)) (by omega) (by omega)) (show yD _ ((28 + 4 * i + 2 : Nat) : Int) ((28 + 4 * i + 4 : Nat) : Int) from yD_eq (yD_M hDc1_1 hMs1_1) (by omega) (by omega)))) rfl (by omega))
  exact loop1 13 0 rfl h11 hJ11 (yM_rf _) (fun y hy => absurd hy (by omega)) (fun y hy => absurd hy (by omega)) (fun x y q1 q2 => absurd q2 (by omega))
set_option maxRecDepth 100000 in
set_option maxHeartbeats 8000000 in
theorem y_X8 {G : zG} {d : Nat} {h : zH} (hJ : yJ h) : yC G (d + 3) 220 62315 mX8_init [vr 8 12, vr 2 4] (13, h) (yQ h 12 233) := by
  refine y_entry (L := [some (vr 8 12), some (vr 2 4), none]) (by decide +kernel) (Nat.le_of_ble_eq_true rfl) rfl ?_
  refine y_aload_n 0 dX8_init_0 rfl rfl (Nat.le_of_ble_eq_true rfl) rfl ?_
  refine y_obj (ci := 8) ⟨koX8_3, kobj.1, kobj.2⟩ (by decide) dX8_init_1 ⟨by show 1 ≤ d + 3; omega, (by show _ ≤ 64 * (d + 3); rw [show zcat _ = 0 from rfl]; omega)⟩ rfl ?_
  refine y_aload_n 0 dX8_init_4 rfl rfl (Nat.le_of_ble_eq_true rfl) rfl ?_
  refine y_new 10 (r := 13) zc10 ydef10 kcX8_9 nX10_init.1 nX10_init.2 dX8_init_5 ⟨(by decide), (by decide +kernel)⟩ ⟨by show _ ≤ 220; omega, by show _ ≤ 62315; omega⟩ rfl rfl ?_
  refine y_dup dX8_init_8 (fun q => by cases q) rfl ?_
  refine y_callIN (ci := 10) (d := d + 1) (mc := 3) (ms := 2703) (host := "RangedMachines") iX10_init (by decide) (by decide +kernel) dX8_init_9 rfl ⟨by show d + 1 + 1 ≤ d + 3; omega, by show 64 * (d + 1 + 1) ≤ 64 * (d + 3); omega, by show _ ≤ 220; omega, by show _ ≤ 62315; omega⟩ (as := []) (rest := [vr 10 13, vr 8 12]) (Nat.le_of_ble_eq_true rfl) rfl rfl (yC_mono (fun h9 q9 => ?_) (y_X10 (d := d) (h := h) hJ))
  obtain ⟨n9, h1⟩ := h9
  obtain ⟨e9, hJ1, hM1, hD1⟩ := q9
  dsimp only at e9 hJ1 hM1 hD1
  subst e9
  refine ⟨by show _ = _ + _; omega, ?_⟩
  refine y_set 8 10 pX8_12 rfl rfl (by decide) dX8_init_12 (by omega) hJ1 (by decide +kernel) rfl (fun h2 hJ2 hM2 s2 => ?_)
  refine y_aload_n 0 dX8_init_15 rfl rfl (Nat.le_of_ble_eq_true rfl) rfl ?_
  refine y_new 0 (r := 17) zc0 ydef0 kcX8_18 nX0_init.1 nX0_init.2 dX8_init_16 ⟨(by decide), (by decide +kernel)⟩ ⟨by show _ ≤ 220; omega, by show _ ≤ 62315; omega⟩ rfl rfl ?_
  refine y_dup dX8_init_19 (fun q => by cases q) rfl ?_
  refine y_aload_n 0 dX8_init_20 rfl rfl (Nat.le_of_ble_eq_true rfl) rfl ?_
  refine y_get 8 10 (x := 13) fX8_12 rfl (by decide) dX8_init_21 (by omega) ((s2).trans (by decide +kernel)) (zvok_mk (k := 13) (by decide) (by decide) (by decide +kernel)) rfl ?_
  refine y_callI (ci := 0) (d := d + 2) (mc := 62) (ms := 25368) iX0_init (by decide) kiX8_20 dX8_init_24 rfl ⟨by show d + 2 + 1 ≤ d + 3; omega, by show 64 * (d + 2 + 1) ≤ 64 * (d + 3); omega, by show _ ≤ 220; omega, by show _ ≤ 62315; omega⟩ (as := [vr 10 13]) (rest := [vr 0 17, vr 8 12]) (Nat.le_of_ble_eq_true rfl) rfl rfl (yC_mono (fun h9 q9 => ?_) (y_X0 (d := d) (h := h2) hJ2))
  obtain ⟨n9, h3⟩ := h9
  obtain ⟨e9, hJ3, hM3, hD3⟩ := q9
  dsimp only at e9 hJ3 hM3 hD3
  subst e9
  refine ⟨by show _ = _ + _; omega, ?_⟩
  refine y_set 8 0 pX8_23 rfl rfl (by decide) dX8_init_27 (by omega) hJ3 (by decide +kernel) rfl (fun h4 hJ4 hM4 s4 => ?_)
  refine y_aload_n 0 dX8_init_30 rfl rfl (Nat.le_of_ble_eq_true rfl) rfl ?_
  refine y_bipush dX8_init_31 rfl rfl ?_
  refine y_anew 16 3 (Or.inl ⟨rfl, rfl, rfl⟩) kcX8_27 dX8_init_33 (N := 24) (r := 80) ⟨(by decide), (by decide +kernel), (by decide +kernel), rfl⟩ ⟨by show _ ≤ 220; omega, by show _ ≤ 62315; omega⟩ rfl rfl ?_
  refine y_set 8 16 pX8_29 rfl rfl (by decide) dX8_init_36 (by omega) hJ4 (by decide +kernel) rfl (fun h5 hJ5 hM5 s5 => ?_)
  refine y_aload_n 0 dX8_init_39 rfl rfl (Nat.le_of_ble_eq_true rfl) rfl ?_
  refine y_iconst dX8_init_40 rfl ?_
  refine y_anew 17 4 (Or.inr ⟨rfl, rfl, rfl⟩) kcX8_33 dX8_init_41 (N := 4) (r := 81) ⟨(by decide), (by decide +kernel), (by decide +kernel), rfl⟩ ⟨by show _ ≤ 220; omega, by show _ ≤ 62315; omega⟩ rfl rfl ?_
  refine y_set 8 17 pX8_35 rfl rfl (by decide) dX8_init_44 (by omega) hJ5 (by decide +kernel) rfl (fun h6 hJ6 hM6 s6 => ?_)
  refine y_aload_n 0 dX8_init_47 rfl rfl (Nat.le_of_ble_eq_true rfl) rfl ?_
  refine y_new 9 (r := 82) zc9 ydef9 kcX8_39 nX9_init.1 nX9_init.2 dX8_init_48 ⟨(by decide), (by decide +kernel)⟩ ⟨by show _ ≤ 220; omega, by show _ ≤ 62315; omega⟩ rfl rfl ?_
  refine y_dup dX8_init_51 (fun q => by cases q) rfl ?_
  refine y_callI (ci := 9) (d := d + 2) (mc := 26) (ms := 624) iX9_init (by decide) kiX8_41 dX8_init_52 rfl ⟨by show d + 2 + 1 ≤ d + 3; omega, by show 64 * (d + 2 + 1) ≤ 64 * (d + 3); omega, by show _ ≤ 220; omega, by show _ ≤ 62315; omega⟩ (as := []) (rest := [vr 9 82, vr 8 12]) (Nat.le_of_ble_eq_true rfl) rfl rfl (yC_mono (fun h9 q9 => ?_) (y_X9 (d := d) (a := 82) (by decide +kernel) hJ6))
  obtain ⟨n9, h7⟩ := h9
  obtain ⟨e9, hJ7, hM7, hD7⟩ := q9
  dsimp only at e9 hJ7 hM7 hD7
  subst e9
  refine ⟨by show _ = _ + _; omega, ?_⟩
  refine y_set 8 9 pX8_42 rfl rfl (by decide) dX8_init_55 (by omega) hJ7 (by decide +kernel) rfl (fun h8 hJ8 hM8 s8 => ?_)
  refine y_aload_n 0 dX8_init_58 rfl rfl (Nat.le_of_ble_eq_true rfl) rfl ?_
  refine y_aload_n 1 dX8_init_59 rfl rfl (Nat.le_of_ble_eq_true rfl) rfl ?_
  refine y_set 8 2 pX8_46 rfl rfl (by decide) dX8_init_60 (by omega) hJ8 (by decide +kernel) rfl (fun h9 hJ9 hM9 s9 => ?_)
  refine y_iconst dX8_init_63 rfl ?_
  refine y_istore_n 2 dX8_init_64 rfl (Nat.le_of_ble_eq_true rfl) (L' := [some (vr 8 12), some (vr 2 4), some (vi 0)]) rfl rfl ?_
  refine y_kcs (kc' := 96) (ks' := 28747) (by omega) (by omega) ?_
  have loop1 : ∀ (k i : Nat), i + k = 24 → ∀ g1 : zH, yJ g1 → yM h9 g1 → (∀ y : Nat, y < i → g1 80 y = zI 80 y) → yD g1 (109 : Nat) (109 + 2 * i : Nat) → yT G (d + 3) 220 62315 (96 + 2 * i) (28747 + 50 * i) mX8_init (yQ h 12 233) 65 [some (vr 8 12), some (vr 2 4), some (vi (i : Int))] [] (109 + 2 * i, g1) := by
    intro k
    induction k with
    | zero =>
      intro i hi g1 hJg hMg hA0 hDg
      have ei : i = 24 := by omega
      subst ei
      refine y_iload_n 2 dX8_init_65 rfl rfl rfl ?_
      refine y_bipush dX8_init_66 rfl rfl ?_
      refine y_icmp_ge (tgt := 92) dX8_init_68 rfl ⟨by omega, by omega⟩ ⟨by decide, by decide⟩ rfl ⟨fun _ => ?_, fun q => absurd (show (24 : Int) ≤ ((24 : Nat) : Int) by decide) q⟩
      obtain ⟨hJ10, hM10, hD10⟩ : yJ g1 ∧ yM h9 g1 ∧ yD g1 (109 : Nat) (157 : Nat) := ⟨hJg, hMg, yD_eq hDg (by omega) (by omega)⟩
      have hB10_0 := hA0
      refine y_n (n' := 157) (by omega) ?_
      refine y_iconst dX8_init_92 rfl ?_
      refine y_istore_n 2 dX8_init_93 rfl (Nat.le_of_ble_eq_true rfl) (L' := [some (vr 8 12), some (vr 2 4), some (vi 0)]) rfl rfl ?_
      refine y_kcs (kc' := 144) (ks' := 29947) (by omega) (by omega) ?_
      have loop2 : ∀ (k i : Nat), i + k = 4 → ∀ g2 : zH, yJ g2 → yM g1 g2 → (∀ y : Nat, y < i → g2 81 y = zI 81 y) → yD g2 (157 : Nat) (157 + 19 * i : Nat) → yT G (d + 3) 220 62315 (144 + 19 * i) (29947 + 8092 * i) mX8_init (yQ h 12 233) 94 [some (vr 8 12), some (vr 2 4), some (vi (i : Int))] [] (157 + 19 * i, g2) := by
        intro k
        induction k with
        | zero =>
          intro i hi g2 hJg hMg hA0 hDg
          have ei : i = 4 := by omega
          subst ei
          refine y_iload_n 2 dX8_init_94 rfl rfl rfl ?_
          refine y_iconst dX8_init_95 rfl ?_
          refine y_icmp_ge (tgt := 118) dX8_init_96 rfl ⟨by omega, by omega⟩ ⟨by decide, by decide⟩ rfl ⟨fun _ => ?_, fun q => absurd (show (4 : Int) ≤ ((4 : Nat) : Int) by decide) q⟩
          obtain ⟨hJ11, hM11, hD11⟩ : yJ g2 ∧ yM g1 g2 ∧ yD g2 (157 : Nat) (233 : Nat) := ⟨hJg, hMg, yD_eq hDg (by omega) (by omega)⟩
          have hB11_0 := hA0
          refine y_n (n' := 233) (by omega) ?_
          refine y_kcs (kc' := 220) (ks' := 62315) (by omega) (by omega) ?_
          exact y_return rfl dX8_init_118 ⟨by omega, hJ11, (yM_tr (yM_tr (yM_tr (yM_tr (yM_tr (yM_tr (yM_tr (yM_tr (yM_tr (yM_tr hM1 hM2) hM3) hM4) hM5) hM6) hM7) hM8) hM9) hM10) hM11), yD_eq (yD_app (a := (12 : Int)) (b := (13 : Int)) (yD_obj' hJ11 (a := 12) (fun j hj => have hl : j < 8 := (by have := (show zlnN 12 = 8 by decide +kernel); omega); match j, hl with | 0, _ => Or.inl (hM11 _ _ (hM10 _ _ (hM9 _ _ (hM8 _ _ (hM7 _ _ (hM6 _ _ (hM5 _ _ (hM4 _ _ (hM3 _ _ s2))))))))) | 1, _ => Or.inl (hM11 _ _ (hM10 _ _ (hM9 _ _ (hM8 _ _ (hM7 _ _ (hM6 _ _ (hM5 _ _ s4))))))) | 2, _ => Or.inl (hM11 _ _ (hM10 _ _ s9)) | 3, _ => Or.inl (hM11 _ _ (hM10 _ _ (hM9 _ _ (hM8 _ _ (hM7 _ _ (hM6 _ _ s5)))))) | 4, _ => Or.inl (hM11 _ _ (hM10 _ _ (hM9 _ _ (hM8 _ _ (hM7 _ _ s6))))) | 5, _ => Or.inl (hM11 _ _ (hM10 _ _ (hM9 _ _ s8))) | 6, _ => Or.inr (by decide +kernel) | 7, _ => Or.inr (by decide +kernel) | j + 8, hl => absurd hl (by omega)) (by omega) (by omega)) (yD_app (a := (13 : Int)) (b := (17 : Int)) (yD_eq (yD_M hD1 (yM_tr (yM_tr (yM_tr (yM_tr (yM_tr (yM_tr (yM_tr (yM_tr (yM_tr hM2 hM3) hM4) hM5) hM6) hM7) hM8) hM9) hM10) hM11)) (by omega) (by omega)) (yD_app (a := (17 : Int)) (b := (80 : Int)) (yD_eq (yD_M hD3 (yM_tr (yM_tr (yM_tr (yM_tr (yM_tr (yM_tr (yM_tr hM4 hM5) hM6) hM7) hM8) hM9) hM10) hM11)) (by omega) (by omega)) (yD_app (a := (80 : Int)) (b := (81 : Int)) (yD_obj' hJ11 (a := 80) (fun j hj => Or.inl ((hM11 _ _ (hB10_0 j (by have := (show zlnN 80 = 24 by decide +kernel); omega))))) (by omega) (by omega)) (yD_app (a := (81 : Int)) (b := (82 : Int)) (yD_obj' hJ11 (a := 81) (fun j hj => Or.inl ((hB11_0 j (by have := (show zlnN 81 = 4 by decide +kernel); omega)))) (by omega) (by omega)) (yD_app (a := (82 : Int)) (b := (109 : Int)) (yD_eq (yD_M hD7 (yM_tr (yM_tr (yM_tr hM8 hM9) hM10) hM11)) (by omega) (by omega)) (yD_app (a := (109 : Int)) (b := (157 : Int)) (yD_eq (yD_M hD10 hM11) (by omega) (by omega)) (show yD _ (157 : Int) (233 : Int) from yD_eq (yD_M hD11 (yM_rf _)) (by omega) (by omega))))))))) (by omega) (by omega)⟩
        | succ k ih =>
          intro i hi g2 hJg hMg hA0 hDg
          refine y_iload_n 2 dX8_init_94 rfl rfl rfl ?_
          refine y_iconst dX8_init_95 rfl ?_
          refine y_icmp_ge (tgt := 118) dX8_init_96 rfl ⟨by omega, by omega⟩ ⟨by decide, by decide⟩ rfl ⟨fun q => absurd q (by omega), fun _ => ?_⟩
          refine y_aload_n 0 dX8_init_99 rfl rfl (Nat.le_of_ble_eq_true rfl) rfl ?_
          refine y_get 8 17 (x := 81) fX8_35 rfl (by decide) dX8_init_100 (by omega) (((hMg _ _ (hM10 _ _ (hM9 _ _ (hM8 _ _ (hM7 _ _ s6)))))).trans (by decide +kernel)) (zvok_mk (k := 81) (by decide) (by decide) (by decide +kernel)) rfl ?_
          refine y_iload_n 2 dX8_init_103 rfl rfl rfl ?_
          refine y_new 4 (r := (((157 + 19 * i) : Nat) : Int)) zc4 ydef4 kcX8_33 nX4_init.1 nX4_init.2 dX8_init_104 ⟨(yel8_4_0 (show i < 4 by omega)).1, (yel8_4_0 (show i < 4 by omega)).2.1⟩ ⟨by show _ ≤ 220; omega, by show _ ≤ 62315; omega⟩ rfl rfl ?_
          refine y_dup dX8_init_107 (fun q => by cases q) rfl ?_
          refine y_callIN (ci := 4) (d := d + 2) (mc := 18) (ms := 8080) (host := "RangedMachines") iX4_init (by decide) (by decide +kernel) dX8_init_108 rfl ⟨by show d + 2 + 1 ≤ d + 3; omega, by show 64 * (d + 2 + 1) ≤ 64 * (d + 3); omega, by show _ ≤ 220; omega, by show _ ≤ 62315; omega⟩ (as := []) (rest := [vr 4 (((157 + 19 * i) : Nat) : Int), vi (i : Int), vr 17 81]) (Nat.le_of_ble_eq_true rfl) rfl rfl (yC_mono (fun h9 q9 => ?_) (y_X4 (d := d) (a := (157 + 19 * i)) (yel8_4_0 (show i < 4 by omega)).2.2.1 hJg))
          obtain ⟨n9, gc2_0⟩ := h9
          obtain ⟨e9, hJc2_0, hMc2_0, hDc2_0⟩ := q9
          dsimp only at e9 hJc2_0 hMc2_0 hDc2_0
          subst e9
          refine ⟨by show _ = _ + _; omega, ?_⟩
          refine y_put17 17 4 4 (Or.inr ⟨rfl, rfl, rfl⟩) dX8_init_111 (by omega) (by omega) ⟨by omega, (by rw [show zln 81 = 4 by decide +kernel]; omega)⟩ hJc2_0 (yel8_4_0 (show i < 4 by omega)).2.2.2.2 rfl (fun gs2_0 hJs2_0 hMs2_0 ss2_0 => ?_)
          refine y_iinc dX8_init_112 rfl (Nat.le_of_ble_eq_true rfl) (L' := [some (vr 8 12), some (vr 2 4), some (vi ((i + 1 : Nat) : Int))]) rfl rfl ?_
          refine y_goto (tgt := 94) dX8_init_115 rfl ?_
          refine y_kcs (kc' := 144 + 19 * (i + 1)) (ks' := 29947 + 8092 * (i + 1)) (by omega) (by omega) (y_n (n' := 157 + 19 * (i + 1)) (by omega) ?_)
          exact ih (i + 1) (by omega) _ hJs2_0 (yM_tr (yM_tr hMg hMc2_0) hMs2_0) (fun y hy => (by rcases (show y < i ∨ y = i by omega) with q | q; exact (yM_tr hMc2_0 hMs2_0) _ _ (hA0 y q); subst q; exact (yM_rf _) _ _ ss2_0)) (yD_eq (yD_app (yD_eq (yD_M hDg (yM_tr hMc2_0 hMs2_0)) rfl (by omega)) (show yD _ ((157 + 19 * i + 0 : Nat) : Int) ((157 + 19 * i + 19 : Nat) : Int) from yD_eq (yD_M hDc2_0 hMs2_0) (by omega) (by omega))) rfl (by omega))
      exact loop2 4 0 rfl g1 hJ10 (yM_rf _) (fun y hy => absurd hy (by omega)) (fun x y q1 q2 => absurd q2 (by omega))
    | succ k ih =>
      intro i hi g1 hJg hMg hA0 hDg
      refine y_iload_n 2 dX8_init_65 rfl rfl rfl ?_
      refine y_bipush dX8_init_66 rfl rfl ?_
      refine y_icmp_ge (tgt := 92) dX8_init_68 rfl ⟨by omega, by omega⟩ ⟨by decide, by decide⟩ rfl ⟨fun q => absurd q (by omega), fun _ => ?_⟩
      refine y_aload_n 0 dX8_init_71 rfl rfl (Nat.le_of_ble_eq_true rfl) rfl ?_
      refine y_get 8 16 (x := 80) fX8_29 rfl (by decide) dX8_init_72 (by omega) (((hMg _ _ (hM9 _ _ (hM8 _ _ (hM7 _ _ (hM6 _ _ s5)))))).trans (by decide +kernel)) (zvok_mk (k := 80) (by decide) (by decide) (by decide +kernel)) rfl ?_
      refine y_iload_n 2 dX8_init_75 rfl rfl rfl ?_
      refine y_new 3 (r := (((109 + 2 * i) : Nat) : Int)) zc3 ydef3 kcX8_27 nX3_init.1 nX3_init.2 dX8_init_76 ⟨(yel8_3_0 (show i < 24 by omega)).1, (yel8_3_0 (show i < 24 by omega)).2.1⟩ ⟨by show _ ≤ 220; omega, by show _ ≤ 62315; omega⟩ rfl rfl ?_
      refine y_dup dX8_init_79 (fun q => by cases q) rfl ?_
      refine y_bipush dX8_init_80 rfl rfl ?_
      refine y_callI (ci := 3) (d := d + 1) (mc := 1) (ms := 48) iX3_init (by decide) kiX8_50 dX8_init_82 rfl ⟨by show d + 1 + 1 ≤ d + 3; omega, by show 64 * (d + 1 + 1) ≤ 64 * (d + 3); omega, by show _ ≤ 220; omega, by show _ ≤ 62315; omega⟩ (as := [vi 48]) (rest := [vr 3 (((109 + 2 * i) : Nat) : Int), vi (i : Int), vr 16 80]) (Nat.le_of_ble_eq_true rfl) rfl rfl (yC_mono (fun h9 q9 => ?_) (y_X3 (d := d) (a := (109 + 2 * i)) (room := 48) (yel8_3_0 (show i < 24 by omega)).2.2.1 (yel8_3_0 (show i < 24 by omega)).2.2.2.1 hJg))
      obtain ⟨n9, gc1_0⟩ := h9
      obtain ⟨e9, hJc1_0, hMc1_0, hDc1_0⟩ := q9
      dsimp only at e9 hJc1_0 hMc1_0 hDc1_0
      subst e9
      refine ⟨by show _ = _ + _; omega, ?_⟩
      refine y_put17 16 3 3 (Or.inl ⟨rfl, rfl, rfl⟩) dX8_init_85 (by omega) (by omega) ⟨by omega, (by rw [show zln 80 = 24 by decide +kernel]; omega)⟩ hJc1_0 (yel8_3_0 (show i < 24 by omega)).2.2.2.2 rfl (fun gs1_0 hJs1_0 hMs1_0 ss1_0 => ?_)
      refine y_iinc dX8_init_86 rfl (Nat.le_of_ble_eq_true rfl) (L' := [some (vr 8 12), some (vr 2 4), some (vi ((i + 1 : Nat) : Int))]) rfl rfl ?_
      refine y_goto (tgt := 65) dX8_init_89 rfl ?_
      refine y_kcs (kc' := 96 + 2 * (i + 1)) (ks' := 28747 + 50 * (i + 1)) (by omega) (by omega) (y_n (n' := 109 + 2 * (i + 1)) (by omega) ?_)
      exact ih (i + 1) (by omega) _ hJs1_0 (yM_tr (yM_tr hMg hMc1_0) hMs1_0) (fun y hy => (by rcases (show y < i ∨ y = i by omega) with q | q; exact (yM_tr hMc1_0 hMs1_0) _ _ (hA0 y q); subst q; exact (yM_rf _) _ _ ss1_0)) (yD_eq (yD_app (yD_eq (yD_M hDg (yM_tr hMc1_0 hMs1_0)) rfl (by omega)) (show yD _ ((109 + 2 * i + 0 : Nat) : Int) ((109 + 2 * i + 2 : Nat) : Int) from yD_eq (yD_M hDc1_0 hMs1_0) (by omega) (by omega))) rfl (by omega))
  exact loop1 24 0 rfl h9 hJ9 (yM_rf _) (fun y hy => absurd hy (by omega)) (fun x y q1 q2 => absurd q2 (by omega))
set_option maxRecDepth 100000 in
set_option maxHeartbeats 8000000 in
theorem y_X11 {G : zG} {d : Nat} {h : zH} (hJ : yJ h) : yC G (d + 4) 465 157179 mX11_init [vr 11 0] (1, h) (yQ h 0 466) := by
  refine y_entry (L := [some (vr 11 0), none]) (by decide +kernel) (Nat.le_of_ble_eq_true rfl) rfl ?_
  refine y_aload_n 0 dX11_init_0 rfl rfl (Nat.le_of_ble_eq_true rfl) rfl ?_
  refine y_obj (ci := 11) ⟨koX11_3, kobj.1, kobj.2⟩ (by decide) dX11_init_1 ⟨by show 1 ≤ d + 4; omega, (by show _ ≤ 64 * (d + 4); rw [show zcat _ = 0 from rfl]; omega)⟩ rfl ?_
  refine y_aload_n 0 dX11_init_4 rfl rfl (Nat.le_of_ble_eq_true rfl) rfl ?_
  refine y_sipush dX11_init_5 rfl rfl ?_
  refine y_newB karr_byte dX11_init_8 (N := 900) (r := 1) ⟨(by decide), (by decide +kernel), (by decide +kernel), rfl⟩ ⟨by show _ ≤ 465; omega, by show _ ≤ 157179; omega⟩ rfl rfl ?_
  refine y_set 11 15 pX11_9 rfl rfl (by decide) dX11_init_10 (by omega) hJ (by decide +kernel) rfl (fun h1 hJ1 hM1 s1 => ?_)
  refine y_aload_n 0 dX11_init_13 rfl rfl (Nat.le_of_ble_eq_true rfl) rfl ?_
  refine y_bipush dX11_init_14 rfl rfl ?_
  refine y_newI karr_int dX11_init_16 (N := 16) (r := 2) ⟨(by decide), (by decide +kernel), (by decide +kernel), rfl⟩ ⟨by show _ ≤ 465; omega, by show _ ≤ 157179; omega⟩ rfl rfl ?_
  refine y_set 11 13 pX11_13 rfl rfl (by decide) dX11_init_18 (by omega) hJ1 (by decide +kernel) rfl (fun h2 hJ2 hM2 s2 => ?_)
  refine y_aload_n 0 dX11_init_21 rfl rfl (Nat.le_of_ble_eq_true rfl) rfl ?_
  refine y_bipush dX11_init_22 rfl rfl ?_
  refine y_anew 17 4 (Or.inr ⟨rfl, rfl, rfl⟩) kcX11_17 dX11_init_24 (N := 10) (r := 3) ⟨(by decide), (by decide +kernel), (by decide +kernel), rfl⟩ ⟨by show _ ≤ 465; omega, by show _ ≤ 157179; omega⟩ rfl rfl ?_
  refine y_set 11 17 pX11_19 rfl rfl (by decide) dX11_init_27 (by omega) hJ2 (by decide +kernel) rfl (fun h3 hJ3 hM3 s3 => ?_)
  refine y_aload_n 0 dX11_init_30 rfl rfl (Nat.le_of_ble_eq_true rfl) rfl ?_
  refine y_new 2 (r := 4) zc2 ydef2 kcX11_23 nX2_init.1 nX2_init.2 dX11_init_31 ⟨(by decide), (by decide +kernel)⟩ ⟨by show _ ≤ 465; omega, by show _ ≤ 157179; omega⟩ rfl rfl ?_
  refine y_dup dX11_init_34 (fun q => by cases q) rfl ?_
  refine y_callIN (ci := 2) (d := d + 1) (mc := 7) (ms := 1600) (host := "RangedMachines") iX2_init (by decide) (by decide +kernel) dX11_init_35 rfl ⟨by show d + 1 + 1 ≤ d + 4; omega, by show 64 * (d + 1 + 1) ≤ 64 * (d + 4); omega, by show _ ≤ 465; omega, by show _ ≤ 157179; omega⟩ (as := []) (rest := [vr 2 4, vr 11 0]) (Nat.le_of_ble_eq_true rfl) rfl rfl (yC_mono (fun h9 q9 => ?_) (y_X2 (d := d) (h := h3) hJ3))
  obtain ⟨n9, h4⟩ := h9
  obtain ⟨e9, hJ4, hM4, hD4⟩ := q9
  dsimp only at e9 hJ4 hM4 hD4
  subst e9
  refine ⟨by show _ = _ + _; omega, ?_⟩
  refine y_set 11 2 pX11_26 rfl rfl (by decide) dX11_init_38 (by omega) hJ4 (by decide +kernel) rfl (fun h5 hJ5 hM5 s5 => ?_)
  refine y_aload_n 0 dX11_init_41 rfl rfl (Nat.le_of_ble_eq_true rfl) rfl ?_
  refine y_new 8 (r := 12) zc8 ydef8 kcX11_30 nX8_init.1 nX8_init.2 dX11_init_42 ⟨(by decide), (by decide +kernel)⟩ ⟨by show _ ≤ 465; omega, by show _ ≤ 157179; omega⟩ rfl rfl ?_
  refine y_dup dX11_init_45 (fun q => by cases q) rfl ?_
  refine y_aload_n 0 dX11_init_46 rfl rfl (Nat.le_of_ble_eq_true rfl) rfl ?_
  refine y_get 11 2 (x := 4) fX11_26 rfl (by decide) dX11_init_47 (by omega) ((s5).trans (by decide +kernel)) (zvok_mk (k := 4) (by decide) (by decide) (by decide +kernel)) rfl ?_
  refine y_callI (ci := 8) (d := d + 3) (mc := 220) (ms := 62315) iX8_init (by decide) kiX11_32 dX11_init_50 rfl ⟨by show d + 3 + 1 ≤ d + 4; omega, by show 64 * (d + 3 + 1) ≤ 64 * (d + 4); omega, by show _ ≤ 465; omega, by show _ ≤ 157179; omega⟩ (as := [vr 2 4]) (rest := [vr 8 12, vr 11 0]) (Nat.le_of_ble_eq_true rfl) rfl rfl (yC_mono (fun h9 q9 => ?_) (y_X8 (d := d) (h := h5) hJ5))
  obtain ⟨n9, h6⟩ := h9
  obtain ⟨e9, hJ6, hM6, hD6⟩ := q9
  dsimp only at e9 hJ6 hM6 hD6
  subst e9
  refine ⟨by show _ = _ + _; omega, ?_⟩
  refine y_set 11 8 pX11_35 rfl rfl (by decide) dX11_init_53 (by omega) hJ6 (by decide +kernel) rfl (fun h7 hJ7 hM7 s7 => ?_)
  refine y_aload_n 0 dX11_init_56 rfl rfl (Nat.le_of_ble_eq_true rfl) rfl ?_
  refine y_new 6 (r := 233) zc6 ydef6 kcX11_39 nX6_init.1 nX6_init.2 dX11_init_57 ⟨(by decide), (by decide +kernel)⟩ ⟨by show _ ≤ 465; omega, by show _ ≤ 157179; omega⟩ rfl rfl ?_
  refine y_dup dX11_init_60 (fun q => by cases q) rfl ?_
  refine y_aload_n 0 dX11_init_61 rfl rfl (Nat.le_of_ble_eq_true rfl) rfl ?_
  refine y_get 11 2 (x := 4) fX11_26 rfl (by decide) dX11_init_62 (by omega) (((hM7 _ _ (hM6 _ _ s5))).trans (by decide +kernel)) (zvok_mk (k := 4) (by decide) (by decide) (by decide +kernel)) rfl ?_
  refine y_callI (ci := 6) (d := d + 1) (mc := 8) (ms := 10112) iX6_init (by decide) kiX11_41 dX11_init_65 rfl ⟨by show d + 1 + 1 ≤ d + 4; omega, by show 64 * (d + 1 + 1) ≤ 64 * (d + 4); omega, by show _ ≤ 465; omega, by show _ ≤ 157179; omega⟩ (as := [vr 2 4]) (rest := [vr 6 233, vr 11 0]) (Nat.le_of_ble_eq_true rfl) rfl rfl (yC_mono (fun h9 q9 => ?_) (y_X6 (d := d) (h := h7) hJ7))
  obtain ⟨n9, h8⟩ := h9
  obtain ⟨e9, hJ8, hM8, hD8⟩ := q9
  dsimp only at e9 hJ8 hM8 hD8
  subst e9
  refine ⟨by show _ = _ + _; omega, ?_⟩
  refine y_set 11 6 pX11_42 rfl rfl (by decide) dX11_init_68 (by omega) hJ8 (by decide +kernel) rfl (fun h9 hJ9 hM9 s9 => ?_)
  refine y_aload_n 0 dX11_init_71 rfl rfl (Nat.le_of_ble_eq_true rfl) rfl ?_
  refine y_new 1 (r := 242) zc1 ydef1 kcX11_46 nX1_init.1 nX1_init.2 dX11_init_72 ⟨(by decide), (by decide +kernel)⟩ ⟨by show _ ≤ 465; omega, by show _ ≤ 157179; omega⟩ rfl rfl ?_
  refine y_dup dX11_init_75 (fun q => by cases q) rfl ?_
  refine y_callIN (ci := 1) (d := d + 1) (mc := 1) (ms := 160) (host := "RangedMachines") iX1_init (by decide) (by decide +kernel) dX11_init_76 rfl ⟨by show d + 1 + 1 ≤ d + 4; omega, by show 64 * (d + 1 + 1) ≤ 64 * (d + 4); omega, by show _ ≤ 465; omega, by show _ ≤ 157179; omega⟩ (as := []) (rest := [vr 1 242, vr 11 0]) (Nat.le_of_ble_eq_true rfl) rfl rfl (yC_mono (fun h9 q9 => ?_) (y_X1 (d := d) (h := h9) hJ9))
  obtain ⟨n9, h10⟩ := h9
  obtain ⟨e9, hJ10, hM10, hD10⟩ := q9
  dsimp only at e9 hJ10 hM10 hD10
  subst e9
  refine ⟨by show _ = _ + _; omega, ?_⟩
  refine y_set 11 1 pX11_49 rfl rfl (by decide) dX11_init_79 (by omega) hJ10 (by decide +kernel) rfl (fun h11 hJ11 hM11 s11 => ?_)
  refine y_aload_n 0 dX11_init_82 rfl rfl (Nat.le_of_ble_eq_true rfl) rfl ?_
  refine y_new 5 (r := 244) zc5 ydef5 kcX11_53 nX5_init.1 nX5_init.2 dX11_init_83 ⟨(by decide), (by decide +kernel)⟩ ⟨by show _ ≤ 465; omega, by show _ ≤ 157179; omega⟩ rfl rfl ?_
  refine y_dup dX11_init_86 (fun q => by cases q) rfl ?_
  refine y_callIN (ci := 5) (d := d + 1) (mc := 2) (ms := 384) (host := "RangedMachines") iX5_init (by decide) (by decide +kernel) dX11_init_87 rfl ⟨by show d + 1 + 1 ≤ d + 4; omega, by show 64 * (d + 1 + 1) ≤ 64 * (d + 4); omega, by show _ ≤ 465; omega, by show _ ≤ 157179; omega⟩ (as := []) (rest := [vr 5 244, vr 11 0]) (Nat.le_of_ble_eq_true rfl) rfl rfl (yC_mono (fun h9 q9 => ?_) (y_X5 (d := d) (h := h11) hJ11))
  obtain ⟨n9, h12⟩ := h9
  obtain ⟨e9, hJ12, hM12, hD12⟩ := q9
  dsimp only at e9 hJ12 hM12 hD12
  subst e9
  refine ⟨by show _ = _ + _; omega, ?_⟩
  refine y_set 11 5 pX11_56 rfl rfl (by decide) dX11_init_90 (by omega) hJ12 (by decide +kernel) rfl (fun h13 hJ13 hM13 s13 => ?_)
  refine y_aload_n 0 dX11_init_93 rfl rfl (Nat.le_of_ble_eq_true rfl) rfl ?_
  refine y_new 3 (r := 247) zc3 ydef3 kcX11_60 nX3_init.1 nX3_init.2 dX11_init_94 ⟨(by decide), (by decide +kernel)⟩ ⟨by show _ ≤ 465; omega, by show _ ≤ 157179; omega⟩ rfl rfl ?_
  refine y_dup dX11_init_97 (fun q => by cases q) rfl ?_
  refine y_bipush dX11_init_98 rfl rfl ?_
  refine y_callI (ci := 3) (d := d + 1) (mc := 1) (ms := 98) iX3_init (by decide) kiX11_62 dX11_init_100 rfl ⟨by show d + 1 + 1 ≤ d + 4; omega, by show 64 * (d + 1 + 1) ≤ 64 * (d + 4); omega, by show _ ≤ 465; omega, by show _ ≤ 157179; omega⟩ (as := [vi 98]) (rest := [vr 3 247, vr 11 0]) (Nat.le_of_ble_eq_true rfl) rfl rfl (yC_mono (fun h9 q9 => ?_) (y_X3 (d := d) (a := 247) (room := 98) (by decide +kernel) (by decide +kernel) hJ13))
  obtain ⟨n9, h14⟩ := h9
  obtain ⟨e9, hJ14, hM14, hD14⟩ := q9
  dsimp only at e9 hJ14 hM14 hD14
  subst e9
  refine ⟨by show _ = _ + _; omega, ?_⟩
  refine y_set 11 3 pX11_65 rfl rfl (by decide) dX11_init_103 (by omega) hJ14 (by decide +kernel) rfl (fun h15 hJ15 hM15 s15 => ?_)
  refine y_aload_n 0 dX11_init_106 rfl rfl (Nat.le_of_ble_eq_true rfl) rfl ?_
  refine y_new 9 (r := 249) zc9 ydef9 kcX11_69 nX9_init.1 nX9_init.2 dX11_init_107 ⟨(by decide), (by decide +kernel)⟩ ⟨by show _ ≤ 465; omega, by show _ ≤ 157179; omega⟩ rfl rfl ?_
  refine y_dup dX11_init_110 (fun q => by cases q) rfl ?_
  refine y_callI (ci := 9) (d := d + 2) (mc := 26) (ms := 624) iX9_init (by decide) kiX11_71 dX11_init_111 rfl ⟨by show d + 2 + 1 ≤ d + 4; omega, by show 64 * (d + 2 + 1) ≤ 64 * (d + 4); omega, by show _ ≤ 465; omega, by show _ ≤ 157179; omega⟩ (as := []) (rest := [vr 9 249, vr 11 0]) (Nat.le_of_ble_eq_true rfl) rfl rfl (yC_mono (fun h9 q9 => ?_) (y_X9 (d := d) (a := 249) (by decide +kernel) hJ15))
  obtain ⟨n9, h16⟩ := h9
  obtain ⟨e9, hJ16, hM16, hD16⟩ := q9
  dsimp only at e9 hJ16 hM16 hD16
  subst e9
  refine ⟨by show _ = _ + _; omega, ?_⟩
  refine y_set 11 9 pX11_72 rfl rfl (by decide) dX11_init_114 (by omega) hJ16 (by decide +kernel) rfl (fun h17 hJ17 hM17 s17 => ?_)
  refine y_iconst dX11_init_117 rfl ?_
  refine y_istore_n 1 dX11_init_118 rfl (Nat.le_of_ble_eq_true rfl) (L' := [some (vr 11 0), some (vi 0)]) rfl rfl ?_
  refine y_kcs (kc' := 275) (ks' := 76259) (by omega) (by omega) ?_
  have loop1 : ∀ (k i : Nat), i + k = 10 → ∀ g1 : zH, yJ g1 → yM h17 g1 → (∀ y : Nat, y < i → g1 3 y = zI 3 y) → yD g1 (276 : Nat) (276 + 19 * i : Nat) → yT G (d + 4) 465 157179 (275 + 19 * i) (76259 + 8092 * i) mX11_init (yQ h 0 466) 119 [some (vr 11 0), some (vi (i : Int))] [] (276 + 19 * i, g1) := by
    intro k
    induction k with
    | zero =>
      intro i hi g1 hJg hMg hA0 hDg
      have ei : i = 10 := by omega
      subst ei
      refine y_iload_n 1 dX11_init_119 rfl rfl rfl ?_
      refine y_bipush dX11_init_120 rfl rfl ?_
      refine y_icmp_ge (tgt := 144) dX11_init_122 rfl ⟨by omega, by omega⟩ ⟨by decide, by decide⟩ rfl ⟨fun _ => ?_, fun q => absurd (show (10 : Int) ≤ ((10 : Nat) : Int) by decide) q⟩
      obtain ⟨hJ18, hM18, hD18⟩ : yJ g1 ∧ yM h17 g1 ∧ yD g1 (276 : Nat) (466 : Nat) := ⟨hJg, hMg, yD_eq hDg (by omega) (by omega)⟩
      have hB18_0 := hA0
      refine y_n (n' := 466) (by omega) ?_
      refine y_kcs (kc' := 465) (ks' := 157179) (by omega) (by omega) ?_
      exact y_return rfl dX11_init_144 ⟨by omega, hJ18, (yM_tr (yM_tr (yM_tr (yM_tr (yM_tr (yM_tr (yM_tr (yM_tr (yM_tr (yM_tr (yM_tr (yM_tr (yM_tr (yM_tr (yM_tr (yM_tr (yM_tr hM1 hM2) hM3) hM4) hM5) hM6) hM7) hM8) hM9) hM10) hM11) hM12) hM13) hM14) hM15) hM16) hM17) hM18), yD_eq (yD_app (a := (0 : Int)) (b := (1 : Int)) (yD_obj' hJ18 (a := 0) (fun j hj => have hl : j < 17 := (by have := (show zlnN 0 = 17 by decide +kernel); omega); match j, hl with | 0, _ => Or.inl (hM18 _ _ (hM17 _ _ (hM16 _ _ (hM15 _ _ (hM14 _ _ (hM13 _ _ (hM12 _ _ (hM11 _ _ (hM10 _ _ (hM9 _ _ (hM8 _ _ (hM7 _ _ (hM6 _ _ (hM5 _ _ (hM4 _ _ (hM3 _ _ (hM2 _ _ s1))))))))))))))))) | 1, _ => Or.inl (hM18 _ _ (hM17 _ _ (hM16 _ _ (hM15 _ _ (hM14 _ _ (hM13 _ _ (hM12 _ _ (hM11 _ _ (hM10 _ _ (hM9 _ _ (hM8 _ _ (hM7 _ _ (hM6 _ _ (hM5 _ _ (hM4 _ _ (hM3 _ _ s2)))))))))))))))) | 2, _ => Or.inl (hM18 _ _ (hM17 _ _ (hM16 _ _ (hM15 _ _ (hM14 _ _ (hM13 _ _ (hM12 _ _ (hM11 _ _ (hM10 _ _ (hM9 _ _ (hM8 _ _ (hM7 _ _ (hM6 _ _ (hM5 _ _ (hM4 _ _ s3))))))))))))))) | 3, _ => Or.inl (hM18 _ _ (hM17 _ _ (hM16 _ _ (hM15 _ _ (hM14 _ _ (hM13 _ _ (hM12 _ _ (hM11 _ _ (hM10 _ _ (hM9 _ _ (hM8 _ _ (hM7 _ _ (hM6 _ _ s5))))))))))))) | 4, _ => Or.inl (hM18 _ _ (hM17 _ _ (hM16 _ _ (hM15 _ _ (hM14 _ _ (hM13 _ _ (hM12 _ _ (hM11 _ _ (hM10 _ _ (hM9 _ _ (hM8 _ _ s7))))))))))) | 5, _ => Or.inl (hM18 _ _ (hM17 _ _ (hM16 _ _ (hM15 _ _ (hM14 _ _ (hM13 _ _ (hM12 _ _ (hM11 _ _ (hM10 _ _ s9))))))))) | 6, _ => Or.inl (hM18 _ _ (hM17 _ _ (hM16 _ _ (hM15 _ _ (hM14 _ _ (hM13 _ _ (hM12 _ _ s11))))))) | 7, _ => Or.inl (hM18 _ _ (hM17 _ _ (hM16 _ _ (hM15 _ _ (hM14 _ _ s13))))) | 8, _ => Or.inl (hM18 _ _ (hM17 _ _ (hM16 _ _ s15))) | 9, _ => Or.inl (hM18 _ _ s17) | 10, _ => Or.inr (by decide +kernel) | 11, _ => Or.inr (by decide +kernel) | 12, _ => Or.inr (by decide +kernel) | 13, _ => Or.inr (by decide +kernel) | 14, _ => Or.inr (by decide +kernel) | 15, _ => Or.inr (by decide +kernel) | 16, _ => Or.inr (by decide +kernel) | j + 17, hl => absurd hl (by omega)) (by omega) (by omega)) (yD_app (a := (1 : Int)) (b := (2 : Int)) (yD_num' hJ18 (a := 1) (Or.inr (Or.inr (by decide +kernel))) (by omega) (by omega)) (yD_app (a := (2 : Int)) (b := (3 : Int)) (yD_num' hJ18 (a := 2) (Or.inl (by decide +kernel)) (by omega) (by omega)) (yD_app (a := (3 : Int)) (b := (4 : Int)) (yD_obj' hJ18 (a := 3) (fun j hj => Or.inl ((hB18_0 j (by have := (show zlnN 3 = 10 by decide +kernel); omega)))) (by omega) (by omega)) (yD_app (a := (4 : Int)) (b := (12 : Int)) (yD_eq (yD_M hD4 (yM_tr (yM_tr (yM_tr (yM_tr (yM_tr (yM_tr (yM_tr (yM_tr (yM_tr (yM_tr (yM_tr (yM_tr (yM_tr hM5 hM6) hM7) hM8) hM9) hM10) hM11) hM12) hM13) hM14) hM15) hM16) hM17) hM18)) (by omega) (by omega)) (yD_app (a := (12 : Int)) (b := (233 : Int)) (yD_eq (yD_M hD6 (yM_tr (yM_tr (yM_tr (yM_tr (yM_tr (yM_tr (yM_tr (yM_tr (yM_tr (yM_tr (yM_tr hM7 hM8) hM9) hM10) hM11) hM12) hM13) hM14) hM15) hM16) hM17) hM18)) (by omega) (by omega)) (yD_app (a := (233 : Int)) (b := (242 : Int)) (yD_eq (yD_M hD8 (yM_tr (yM_tr (yM_tr (yM_tr (yM_tr (yM_tr (yM_tr (yM_tr (yM_tr hM9 hM10) hM11) hM12) hM13) hM14) hM15) hM16) hM17) hM18)) (by omega) (by omega)) (yD_app (a := (242 : Int)) (b := (244 : Int)) (yD_eq (yD_M hD10 (yM_tr (yM_tr (yM_tr (yM_tr (yM_tr (yM_tr (yM_tr hM11 hM12) hM13) hM14) hM15) hM16) hM17) hM18)) (by omega) (by omega)) (yD_app (a := (244 : Int)) (b := (247 : Int)) (yD_eq (yD_M hD12 (yM_tr (yM_tr (yM_tr (yM_tr (yM_tr hM13 hM14) hM15) hM16) hM17) hM18)) (by omega) (by omega)) (yD_app (a := (247 : Int)) (b := (249 : Int)) (yD_eq (yD_M hD14 (yM_tr (yM_tr (yM_tr hM15 hM16) hM17) hM18)) (by omega) (by omega)) (yD_app (a := (249 : Int)) (b := (276 : Int)) (yD_eq (yD_M hD16 (yM_tr hM17 hM18)) (by omega) (by omega)) (show yD _ (276 : Int) (466 : Int) from yD_eq (yD_M hD18 (yM_rf _)) (by omega) (by omega))))))))))))) (by omega) (by omega)⟩
    | succ k ih =>
      intro i hi g1 hJg hMg hA0 hDg
      refine y_iload_n 1 dX11_init_119 rfl rfl rfl ?_
      refine y_bipush dX11_init_120 rfl rfl ?_
      refine y_icmp_ge (tgt := 144) dX11_init_122 rfl ⟨by omega, by omega⟩ ⟨by decide, by decide⟩ rfl ⟨fun q => absurd q (by omega), fun _ => ?_⟩
      refine y_aload_n 0 dX11_init_125 rfl rfl (Nat.le_of_ble_eq_true rfl) rfl ?_
      refine y_get 11 17 (x := 3) fX11_19 rfl (by decide) dX11_init_126 (by omega) (((hMg _ _ (hM17 _ _ (hM16 _ _ (hM15 _ _ (hM14 _ _ (hM13 _ _ (hM12 _ _ (hM11 _ _ (hM10 _ _ (hM9 _ _ (hM8 _ _ (hM7 _ _ (hM6 _ _ (hM5 _ _ (hM4 _ _ s3)))))))))))))))).trans (by decide +kernel)) (zvok_mk (k := 3) (by decide) (by decide) (by decide +kernel)) rfl ?_
      refine y_iload_n 1 dX11_init_129 rfl rfl rfl ?_
      refine y_new 4 (r := (((276 + 19 * i) : Nat) : Int)) zc4 ydef4 kcX11_17 nX4_init.1 nX4_init.2 dX11_init_130 ⟨(yel11_2_0 (show i < 10 by omega)).1, (yel11_2_0 (show i < 10 by omega)).2.1⟩ ⟨by show _ ≤ 465; omega, by show _ ≤ 157179; omega⟩ rfl rfl ?_
      refine y_dup dX11_init_133 (fun q => by cases q) rfl ?_
      refine y_callIN (ci := 4) (d := d + 2) (mc := 18) (ms := 8080) (host := "RangedMachines") iX4_init (by decide) (by decide +kernel) dX11_init_134 rfl ⟨by show d + 2 + 1 ≤ d + 4; omega, by show 64 * (d + 2 + 1) ≤ 64 * (d + 4); omega, by show _ ≤ 465; omega, by show _ ≤ 157179; omega⟩ (as := []) (rest := [vr 4 (((276 + 19 * i) : Nat) : Int), vi (i : Int), vr 17 3]) (Nat.le_of_ble_eq_true rfl) rfl rfl (yC_mono (fun h9 q9 => ?_) (y_X4 (d := d) (a := (276 + 19 * i)) (yel11_2_0 (show i < 10 by omega)).2.2.1 hJg))
      obtain ⟨n9, gc1_0⟩ := h9
      obtain ⟨e9, hJc1_0, hMc1_0, hDc1_0⟩ := q9
      dsimp only at e9 hJc1_0 hMc1_0 hDc1_0
      subst e9
      refine ⟨by show _ = _ + _; omega, ?_⟩
      refine y_put17 17 4 4 (Or.inr ⟨rfl, rfl, rfl⟩) dX11_init_137 (by omega) (by omega) ⟨by omega, (by rw [show zln 3 = 10 by decide +kernel]; omega)⟩ hJc1_0 (yel11_2_0 (show i < 10 by omega)).2.2.2.2 rfl (fun gs1_0 hJs1_0 hMs1_0 ss1_0 => ?_)
      refine y_iinc dX11_init_138 rfl (Nat.le_of_ble_eq_true rfl) (L' := [some (vr 11 0), some (vi ((i + 1 : Nat) : Int))]) rfl rfl ?_
      refine y_goto (tgt := 119) dX11_init_141 rfl ?_
      refine y_kcs (kc' := 275 + 19 * (i + 1)) (ks' := 76259 + 8092 * (i + 1)) (by omega) (by omega) (y_n (n' := 276 + 19 * (i + 1)) (by omega) ?_)
      exact ih (i + 1) (by omega) _ hJs1_0 (yM_tr (yM_tr hMg hMc1_0) hMs1_0) (fun y hy => (by rcases (show y < i ∨ y = i by omega) with q | q; exact (yM_tr hMc1_0 hMs1_0) _ _ (hA0 y q); subst q; exact (yM_rf _) _ _ ss1_0)) (yD_eq (yD_app (yD_eq (yD_M hDg (yM_tr hMc1_0 hMs1_0)) rfl (by omega)) (show yD _ ((276 + 19 * i + 0 : Nat) : Int) ((276 + 19 * i + 19 : Nat) : Int) from yD_eq (yD_M hDc1_0 hMs1_0) (by omega) (by omega))) rfl (by omega))
  exact loop1 10 0 rfl h17 hJ17 (yM_rf _) (fun y hy => absurd hy (by omega)) (fun x y q1 q2 => absurd q2 (by omega))
