section JK
variable {G : zG} {d : Nat} {h : zH}
theorem jC_u {D E : zH} {S S' : Int → Int} {n n' : Int} (a : jC D E S n) (b : jC D E S' n') : n = n' ∧ ∀ c, 0 ≤ c → c < n → S c = S' c := dS_u a.1 b.1 (fun z => (a.2 z).trans (b.2 z).symm)
theorem pST_S {D : zH} {l n : Int} {S S' : Int → Int} (e : ∀ c, 0 ≤ c → c < n → S c = S' c) : ∀ a b, 0 ≤ b → b < n → pST h l D S' a b = pST h l D S a b := fun a b b0 b1 => by
  unfold pST
  rw [e b b0 b1]
theorem c_join {a b f : Int} (hI : Inv h) (ha : zR a) (hb : zR b) (hf : zR f) : twI G (d + 8) mX11_join mX12_join [vi a, vi b, vi f] h := by
  obtain ⟨n1, n2, n3⟩ := iM_n hI
  refine eX11_join (bX11_join_0 (q_whyNoPair hI ha hb hf (fun q1 q2 q3 => ⟨⟨by decide, by decide⟩, fun _ => ?_, fun z => absurd rfl z⟩) (fun q => ⟨⟨by decide, by decide⟩, fun z => absurd z (by decide), fun _ => sp_refused (eX12_join (bX12_join_0 (q_refusesTwo hI (bK_w (fun _ _ => rfl) rfl) ha hb hf (fun z1 z2 _ => absurd ⟨z1, z2⟩ q) (fun _ => ⟨⟨by decide, by decide⟩, fun _ => ⟨⟨by decide, by decide⟩, fun z => absurd z (by decide), fun _ => sm_refused ⟨zR_m1, rfl, Inv_k hI (by omega) (fun _ _ => rfl) rfl rfl (mK_refl _)⟩⟩, fun z => absurd z (by decide)⟩) (fun z1 z2 _ => absurd ⟨z1, z2⟩ q))))⟩) (fun q1 q2 q3 => ⟨⟨by decide, by decide⟩, fun z => absurd z (by decide), fun _ => sp_refused (eX12_join (bX12_join_0 (q_refusesTwo hI (bK_w (fun _ _ => rfl) rfl) ha hb hf (fun _ _ z => absurd z q3) (fun z => absurd ⟨q1, q2⟩ z) (fun _ _ _ => ⟨⟨by decide, by decide⟩, fun _ => ⟨⟨by decide, by decide⟩, fun z => absurd z (by decide), fun _ => sm_refused ⟨zR_m1, rfl, Inv_k hI (by omega) (fun _ _ => rfl) rfl rfl (mK_refl _)⟩⟩, fun z => absurd z (by decide)⟩))))⟩)))
  obtain ⟨a10, mc1, o1, o2, o3, o4⟩ := iM_d hI q1.1 q1.2
  obtain ⟨b10, mc2, u1, u2, u3, u4⟩ := iM_d hI q2.1 q2.2
  obtain ⟨D, eD⟩ : ∃ D, D = dOf h a := ⟨_, rfl⟩
  obtain ⟨E, eE⟩ : ∃ E, E = dOf h b := ⟨_, rfl⟩
  rw [← eD] at o1 o2 o3 o4
  rw [← eE] at u1 u2 u3 u4
  refine ⟨a10, b10, sp_drawAll (d := d + 3) (F := f) mc1 mc2 o1 u1 o2 u2 o4 u4 (fun h1 S n en U Nu A B Pa Vi De f1 jc pb U0 en0 en1 dc lb => ⟨fun _ => ?_, fun z => (by cases z)⟩) (fun h1 S n U k0 Nu A B Pa Vi De f1 jc pb U0 => ⟨fun z => (by cases z), fun _ => sp_refused ?_⟩)⟩
  · have hS := jc.1
    have n256 := hS.1
    obtain ⟨T, eT⟩ : ∃ T : Int → Int → Int, T = fun q c => Nu (pST h (h 3 a) D S (A q) c * 40 + pST h (h 3 b) E S (B q) c) := ⟨_, rfl⟩
    rw [← eT] at dc lb
    have tj : ∀ q c : Int, 0 ≤ q → q < U → 0 ≤ c → c < n → (0 ≤ T q c ∧ T q c < U) ∧ A (T q c) = pST h (h 3 a) D S (A q) c ∧ B (T q c) = pST h (h 3 b) E S (B q) c := fun q c q0 q1 c0 c1 => by
      obtain ⟨j, hj, ea, eb, -⟩ := pb.2.2.2.1 q c q0 q1 c0 c1 (by omega)
      have nj := (pb.2.1 j hj.1 hj.2).2.2
      rw [ea, eb] at nj
      have et : T q c = j := by rw [eT]; exact nj
      rw [et]
      exact ⟨hj, ea, eb⟩
    have lok : lOK U en (eA T S n U) [] := lOK_t (by omega) n256.1 en0 (fun k k0 k1 => tS_f (by omega) k1 (fun y => by have := (en1 k).mp y; omega)) (fun q c q0 q1 c0 c1 => (tj q c q0 q1 c0 c1).1)
    have g1 : ∀ x, kp x → h1 x = h x := fun x k => f1 x (by unfold kp at k; omega) (by unfold kp at k; omega)
    refine q_keepDraft (d := d + 2) hI g1 (f1 0 (by decide) (by decide)) dc lok lb (fun x h2 kd o => ?_)
    have cx : CX h h1 h2 := ⟨g1, f1 0 (by decide) (by decide), f1 466 (by decide) (by decide), kd⟩
    have e64 := CX_64 hI cx (mK_0 h2)
    refine eX12_join (bX12_join_0 (eX12_refusesTwo (bX12_refusesTwo_0 (q_machC e64 (by omega) ha (fun _ => ⟨fun z => (by cases z), fun _ => q_machC e64 (by omega) hb (fun _ => ⟨fun _ => sm_in hf ⟨by decide, by decide⟩ ⟨by decide, by decide⟩ ⟨fun z => absurd (show 0 ≤ f ∧ f ≤ 15 by omega) (of_decide_eq_false z), fun _ => ?_⟩, fun z => (by cases z)⟩) (fun z => absurd q2 z)⟩) (fun z => absurd q1 z)))))
    refine ⟨⟨by decide, by decide⟩, fun z => absurd rfl z, fun _ => sm_mostMachines e64 (by omega) (fun c10 => ⟨⟨by decide, by decide⟩, fun _ => ?_, fun w => absurd (by decide) w⟩) (fun z => ⟨⟨by decide, by decide⟩, fun w => absurd w (by decide), fun _ => q_ref hI cx o (mK_0 h2) (fun w => by omega)⟩)⟩
    refine q_joins (h := h) (d := d + 2) (l1 := h 3 a) (l2 := h 3 b) o1 u1 (by omega) (by omega) (CX_rep hI cx (mK_0 h2) o3) (CX_rep hI cx (mK_0 h2) u3) o4 u4 (fun h3 S' n' acc U' p Vi' De' m3 jc' e516 e87 mp e88 pu p40 hs a0 a1 tab => ?_)
    obtain ⟨en', eS'⟩ := jC_u jc jc'
    subst en'
    have pb' := pbf_c (pST_S eS') (pST_S eS') mp.1
    rw [e88] at pb'
    have le1 := pbf_all n256.2 pb pb'
    have ep : (p : Int) = U' := by omega
    have pb2 := pb'
    rw [ep] at pb2
    have le2 := pbf_all n256.2 pb2 pb
    have eU : U' = U := by omega
    subst eU
    have epn : p = U := by omega
    subst epn
    have sm : ∀ i : Int, 0 ≤ i → i < p → A i = h3 519 i / 40 ∧ B i = h3 519 i % 40 := fun i i0 i1 => by
      have := pbf_same pb pb' i.toNat (by omega) (by omega)
      rwa [show ((i.toNat : Nat) : Int) = i by omega] at this
    have k3 := mK_tr (mK_0 h2) m3
    have ea : acc = en := lp_eq (S := fun k => tS acc k) (lp_self a0) ⟨en0, fun k => by
      show tS en k ↔ tS acc k
      rw [a1 k, en1 k]
      constructor
      · rintro ⟨y1, y2⟩
        rw [(sm k y1.1 y1.2).1, (sm k y1.1 y1.2).2] at y2
        exact ⟨y1, y2⟩
      · rintro ⟨y1, y2⟩
        rw [← (sm k y1.1 y1.2).1, ← (sm k y1.1 y1.2).2] at y2
        exact ⟨y1, y2⟩⟩
    refine bX12_join_74 ?_
    rw [e88, e87]
    refine ⟨⟨by omega, by omega⟩, ⟨by omega, by omega⟩, fun _ => ⟨⟨by omega, by omega⟩, fun _ => ?_, fun w => absurd (show (p : Int) ≤ 40 by omega) w⟩, fun w => absurd (Int.le_refl _) w⟩
    refine sm_buildsTable (d := d + 6) (T := T) (S := S) (by omega) hS ⟨by decide, by decide⟩ ⟨by decide, by decide⟩ (fun q c q0 q1' c0 c1 => ?_) (fun c c0 c1 => ?_) (fun h6 w1 w2 w3 w4 => ?_)
    · have t := tab q c q0 q1' c0 c1
      have tt := tj q c q0 q1' c0 c1
      have eq : h3 523 (q * 256 + c) = T q c := by
        refine pbf_inj pb t.1 tt.1 ?_ ?_
        · rw [tt.2.1, (sm _ t.1.1 t.1.2).1, t.2.1, pST_S eS' _ c c0 c1, ← (sm q q0 q1').1]
        · rw [tt.2.2, (sm _ t.1.1 t.1.2).2, t.2.2, pST_S eS' _ c c0 c1, ← (sm q q0 q1').2]
      rw [zl_t.2.2.2.1]
      exact ⟨eq, by omega, ⟨by omega, by omega⟩⟩
    · rw [e516, Int.zero_add, zl_t.2.2.2.2]
      exact ⟨(eS' c c0 c1).symm, by omega⟩
    · rw [ea]
      exact q_makes (d := d + 2) hI cx.1 cx.2.1 cx.2.2.1 kd o (mK_tr k3 (mK_tr (bld_k w1 w2) mK_50)) c10 lok (drM_en w3) zup_eq (fun ft => by rw [zup_ne (by decide)]; exact w4 ft.2.1)
  · have hS := jc.1
    have n256 := hS.1
    have g1 : ∀ x, kp x → h1 x = h x := fun x k => f1 x (by unfold kp at k; omega) (by unfold kp at k; omega)
    have g0 : h1 0 = h 0 := f1 0 (by decide) (by decide)
    have gm : h1 466 = h 466 := f1 466 (by decide) (by decide)
    have bk : bK h (zup (zup h1 0 14 3) 466 0 0) := bK_w g1 gm
    refine eX12_join (bX12_join_0 (q_refusesTwo hI bk ha hb hf (fun _ _ _ => ⟨⟨by decide, by decide⟩, fun z => absurd rfl z, fun _ => sm_mostMachines (c := h 0 13) (by rw [bk.2 64 (by unfold kms; omega), n3]) (by omega) (fun c10 => ⟨⟨by decide, by decide⟩, fun _ => ?_, fun w => absurd (by decide) w⟩) (fun z => ⟨⟨by decide, by decide⟩, fun w => absurd w (by decide), fun _ => sm_refused ⟨zR_m1, rfl, Inv_k hI (by omega) g1 g0 gm (mK_refl _)⟩⟩)⟩) (fun z => absurd ⟨q1, q2⟩ z) (fun _ _ z => absurd q3 z)))
    refine q_joins (h := h) (d := d + 2) (l1 := h 3 a) (l2 := h 3 b) o1 u1 (by omega) (by omega) (mRep_b bk o3) (mRep_b bk u3) o4 u4 (fun h3 S' n' acc U' p Vi' De' m3 jc' e516 e87 mp e88 pu p40 hs a0 a1 tab => ?_)
    obtain ⟨en', eS'⟩ := jC_u jc jc'
    subst en'
    have pb' := pbf_c (pST_S eS') (pST_S eS') mp.1
    rw [e88] at pb'
    have big : 40 < U' := by
      rcases hs with hs | hs
      · rw [hs] at pb'
        have := pbf_all n256.2 pb' pb
        omega
      · exact hs
    have uu := pbf_U (by have := pP_n (pth_p o4); have := pP_n (pth_p u4); omega) pb'
    refine bX12_join_74 ?_
    rw [e88]
    exact ⟨⟨by omega, by omega⟩, ⟨by omega, by omega⟩, fun w => absurd w (by omega), fun _ => ⟨⟨by omega, by omega⟩, fun _ => ⟨⟨by omega, by omega⟩, fun w => absurd w (by omega), fun _ => sm_refused ⟨zR_m1, rfl, Inv_k hI (by omega) g1 g0 gm m3⟩⟩, fun w => absurd big w⟩⟩
end JK
