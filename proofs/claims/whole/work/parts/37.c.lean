/-! ===== behind ===== -/
theorem jst_len {D E : zH} (hD : mOK D) (hE : mOK E) : (0 :: (sts D ++ sts E).tail).length ≤ 256 := by
  have a := sts_len hD
  have b := sts_len hE
  rw [List.length_cons, List.length_tail, List.length_append]
  omega
theorem sts_0 {D : zH} (hD : mOK D) : ∃ L, sts D = 0 :: L := by
  have hB := mO_bl hD
  unfold sts
  obtain ⟨k, ek⟩ : ∃ k, (D 0 4).toNat = k + 1 := ⟨(D 0 4).toNat - 1, by omega⟩
  rw [ek, List.range_succ_eq_map, List.map_cons]
  exact ⟨List.map (fun i : Nat => D 7 (i : Int)) (List.map Nat.succ (List.range k)), by rw [show ((0 : Nat) : Int) = 0 from rfl, mO_0 hD]⟩
section C2
variable {G : zG} {d : Nat} {h : zH}
theorem c_behind {a b : Int} (hI : Inv h) (ha : zR a) (hb : zR b) : twI G (d + 8) mX11_behind mX12_behind [vi a, vi b] h := by
  obtain ⟨n1, n2, n3⟩ := iM_n hI
  have no : ¬ ((0 ≤ a ∧ a < h 0 13) ∧ (0 ≤ b ∧ b < h 0 13)) → zCi G (d + 8) mX12_behind [vr 12 466, vi a, vi b] (zup h 0 14 1) (fun y h4 => zR (-1) ∧ -1 = y ∧ Inv h4) := fun q => eX12_behind (bX12_behind_0 (q_refusesTwo hI (bK_w (fun _ _ => rfl) rfl) ha hb ⟨by decide, by decide⟩ (fun z1 z2 _ => absurd ⟨z1, z2⟩ q) (fun _ => ⟨⟨by decide, by decide⟩, fun _ => ⟨⟨by decide, by decide⟩, fun z => absurd z (by decide), fun _ => sm_refused ⟨zR_m1, rfl, Inv_k hI (by omega) (fun _ _ => rfl) rfl rfl (mK_refl _)⟩⟩, fun z => absurd z (by decide)⟩) (fun z1 z2 _ => absurd ⟨z1, z2⟩ q)))
  refine eX11_behind (bX11_behind_0 (q_mach hI ha (fun q1 => ⟨fun z => (by cases z), fun _ => q_mach hI hb (fun q2 => ⟨fun _ => ?_, fun z => (by cases z)⟩) (fun q2 => ⟨fun z => (by cases z), fun _ => sp_refused (no (fun z => q2 z.2))⟩)⟩) (fun q => ⟨fun _ => sp_refused (no (fun z => q z.1)), fun z => (by cases z)⟩)))
  obtain ⟨a10, mc, o1, o2, o3, o4⟩ := iM_d hI q1.1 q1.2
  obtain ⟨b10, md, u1, u2, u3, u4⟩ := iM_d hI q2.1 q2.2
  obtain ⟨D, eD⟩ : ∃ D, D = dOf h a := ⟨_, rfl⟩
  obtain ⟨E, eE⟩ : ∃ E, E = dOf h b := ⟨_, rfl⟩
  rw [← eD] at o1 o2 o3 o4
  rw [← eE] at u1 u2 u3 u4
  have S0 := mO_st o1
  have T0 := mO_st u1
  have mr : ¬ (4 ≤ h 3 a ∧ h 3 a ≤ 11) := by unfold mcell at mc; omega
  have ms : ¬ (4 ≤ h 3 b ∧ h 3 b ≤ 11) := by unfold mcell at md; omega
  rw [o2.1.1, u2.1.1]
  refine ⟨a10, b10, sp_begin ⟨by omega, by omega⟩ (fun h1 b1 b2 b3 b4 b5 c1 => ?_)⟩
  have g1 := drC_b b2 b3 b4 b5 c1
  have fr1 : fr11 h h1 := fun a p => b1 a (by omega) (by omega)
  refine sp_cutLike (d := d + 6) mc o1 (fr11_c mc fr1 o2) (by omega) c1 (fun h2 v1 v2 c2 => ?_)
  have fr2 : fr11 h h2 := fr11_t fr1 (fun a p => v1 a (by omega) (by omega))
  refine sp_cutLike (d := d + 6) md u1 (fr11_c md fr2 u2) (by omega) c2 (fun h3 v3 v4 c3 => ?_)
  have fr3 : fr11 h h3 := fr11_t fr2 (fun a p => v3 a (by omega) (by omega))
  obtain ⟨L, eL0⟩ := sts_0 o1
  obtain ⟨s1, s2, s3⟩ := ctS_cov c3 (0 :: (sts D ++ sts E).tail) (jst_len o1 u1) (fun z q => by
    rcases q with q | ⟨(q | ⟨c, hc, q⟩ | q) | ⟨c, hc, q⟩ | q, w⟩
    · rw [q]
      exact List.mem_cons_self
    · exact q.elim
    · have := sts_in hc.1 hc.2
      rw [q, Int.add_zero]
      rw [eL0] at this ⊢
      rcases List.mem_cons.mp this with y | y
      · rw [y]
        exact List.mem_cons_self
      · exact List.mem_cons_of_mem _ (List.mem_append.mpr (Or.inl y))
    · omega
    · have := sts_in hc.1 hc.2
      rw [q, Int.add_zero]
      rw [eL0]
      exact List.mem_cons_of_mem _ (List.mem_append.mpr (Or.inr this))
    · omega)
  have d3 : drC h3 (D 0 0 + E 0 0) 0 [] [] := drC_cut g1 (fun a p q => by rw [v3 a p q, v1 a p q]) (fun j p q => by rw [v4 j p q, v2 j p q]) s1 (by
    rw [s2]
    exact ((ctS_cov c1 [0] (by decide) (fun z q => q.elim (fun q => by rw [q]; exact List.mem_singleton.mpr rfl) (fun q => q.1.elim))).2.1).symm)
  have nb := s1.1
  have edges : ∀ (hx X0 : zH) (S : zH → Int) (m s : Int) (LE : List eT) (K : zH → Prop), mcell m → mOK X0 → cRep h m X0 → fr11 h hx → hx 4 11 = h3 4 11 → hx 10 = h3 10 → 0 ≤ s ∧ s ≤ 40 → (∀ g, fr11 h g → S g = s) → drC hx (D 0 0 + E 0 0) 0 LE [] → (∀ h5, fr11 h h5 → h5 4 11 = h3 4 11 → h5 10 = h3 10 → drC h5 (D 0 0 + E 0 0) 0 (LE ++ eL X0 s false (pX X0) (X0 0 2).toNat) [] → K h5) → zCv G (d + 7) mX2_trace [vr 2 4, vr 4 m, vi 0] hx (fun h4 => zCv G (d + 7) mX2_copyEdges [vr 2 4, vr 4 m, vi (S h4), vi (bi false)] h4 (fun h5 => K h5)) := by
    intro hx X0 S m s LE K mm oo rr fx e11 e10 hs hS dd kk
    have r2 := fr11_c mm fx rr
    have hB := mO_bl oo
    refine sp_trace (d := d + 6) mm oo r2 (by omega) e11 (by rw [e10]; exact s1) (fun h4 g1 g2 => ?_)
    have r3 : cRep h4 m X0 := cRep_fr (fun a x y => g1 a (by unfold mcell at mm; omega)) r2
    rw [hS h4 (fun a p => by rw [g1 a (by omega), fx a p])]
    have x4 := g1 4 (by decide)
    have x10 := g1 10 (by decide)
    have sr : ∀ b, 0 ≤ b → b < h4 4 11 → (0 ≤ h4 10 b ∧ h4 10 b < 65536) ∧ h4 11 b = dB X0 (h4 10 b) := fun b b0 b1 => by
      rw [x4, e11] at b1
      have := s1.2.2.1 b b0 b1
      rw [g2 b b0 b1, x10, e10, if_pos (by omega), Int.sub_zero]
      exact ⟨this, rfl⟩
    refine sp_copyEdges (d := d + 5) (X := pX X0) (bk := false) mm oo r3 hs (fun b b0 b1 => ?_) (fun e b e0 e1 b0 b1 => ?_) (drC_fr (fun a x y => g1 a (by omega)) dd) (fun h5 w1 w2 => kk h5 (fun a p => by rw [w1.1 a (by omega), g1 a (by omega), fx a p]) (by rw [w1.2, x4, e11]) (by rw [w1.1 10 (by decide), x10, e10]) w2)
    · rw [(sr b b0 b1).2]
      have := (dB_ok oo (sr b b0 b1).1.1).1
      omega
    · unfold sB pX
      rw [(sr b b0 b1).2]
      have := (dB_ok oo (sr b b0 b1).1.1).1
      rw [decide_eq_true (show 0 ≤ dB X0 (h4 10 b) by omega)]
      rfl
  refine edges h3 D (fun _ => 0) (h 3 a) 0 [] _ mc o1 o2 fr3 rfl rfl (by omega) (fun _ _ => rfl) d3 (fun h5 fr5 p5 t5 d5 => ?_)
  refine edges h5 E (fun g => g (h 3 a) 7) (h 3 b) (D 0 0) _ _ md u1 u2 fr5 p5 t5 (by omega) (fun g fg => by rw [fg (h 3 a) mr, o2.1.1]) d5 (fun h7 fr7 p7 t7 d7 => ?_)
  rw [List.nil_append] at d7
  refine sp_copyFrees (d := d + 6) (bk := false) mc o1 (fr11_c mc fr7 o2) d7 (fun h8 w1 d8 => ?_)
  have fr8 := fr11_t fr7 (fr11_d w1)
  rw [fr8 (h 3 a) mr, o2.1.1]
  refine sp_copyFrees (d := d + 6) (bk := false) md u1 (fr11_c md fr8 u2) d8 (fun h9 w2 d9 => ?_)
  have fr9 := fr11_t fr8 (fr11_d w2)
  rw [fr9 (h 3 a) mr, o2.1.1, o2.1.2.1]
  refine sp_freeFromEach (d := d + 6) d9 (fun h10 w3 d10 => ?_)
  have fr10 := fr11_t fr9 (fr11_d w3)
  rw [bL_st o1 (mO_en o1).2] at d10
  rw [fr10 (h 3 a) mr, fr10 (h 3 b) ms, o2.1.1, u2.1.2.1]
  obtain ⟨LE, eLE⟩ : ∃ L, L = eL D 0 false (pX D) (D 0 2).toNat ++ eL E (D 0 0) false (pX E) (E 0 2).toNat := ⟨_, rfl⟩
  obtain ⟨LF, eLF⟩ : ∃ L, L = [] ++ fL D 0 false (D 0 3).toNat ++ fL E (D 0 0) false (E 0 3).toNat ++ bL (D 0 1) (fun q => (q + 0, D 0 0)) (D 0 0).toNat := ⟨_, rfl⟩
  rw [← eLE, ← eLF] at d10
  have lbk : lBk h10 LE := by
    intro x hx z z0 z1 q
    have e11 : h10 4 11 = h3 4 11 := by rw [w3.2, w2.2, w1.2, p7]
    have e10 : h10 10 = h3 10 := by rw [w3.1 10 (by decide), w2.1 10 (by decide), w1.1 10 (by decide), t7]
    rw [e11, e10, s3 z]
    rw [eLE] at hx
    rcases List.mem_append.mp hx with hx | hx
    · obtain ⟨e, he, w⟩ := eL_mem hx
      have q' : ¬ pX D e z = pX D e (z - 1) := by
        rcases w with w | w <;> rw [w] at q <;> exact q
      obtain ⟨c, hc, ec⟩ := pX_ch o1 (pX_c (e := e)) z0 z1 q'
      exact Or.inr ⟨Or.inl (Or.inr (Or.inl ⟨c, hc, by rw [Int.add_zero]; exact ec⟩)), by omega⟩
    · obtain ⟨e, he, w⟩ := eL_mem hx
      have q' : ¬ pX E e z = pX E e (z - 1) := by
        rcases w with w | w <;> rw [w] at q <;> exact q
      obtain ⟨c, hc, ec⟩ := pX_ch u1 (pX_c (e := e)) z0 z1 q'
      exact Or.inr ⟨Or.inr (Or.inl ⟨c, hc, by rw [Int.add_zero]; exact ec⟩), by omega⟩
  have lok : D 0 0 + E 0 0 ≤ 40 → lOK (D 0 0 + E 0 0) (zlshl (E 0 1) (D 0 0)) LE LF := fun le => by
    refine ⟨by omega, ⟨zlshl_R _ _, fun k k0 k1 => by rw [tb_lshl (by omega) (by omega) (by omega) k1, (mO_en u1).2 (k - D 0 0) (by omega) (by omega), Bool.and_false]⟩, fun x hx => ?_, fun x hx => ?_⟩
    · rw [eLE] at hx
      rcases List.mem_append.mp hx with hx | hx
      · obtain ⟨e, he, w⟩ := eL_mem hx
        have := mO_e o1 he.1 (by have := mO_ed o1; omega)
        rcases w with w | w <;> rw [w] <;> dsimp only <;> omega
      · obtain ⟨e, he, w⟩ := eL_mem hx
        have := mO_e u1 he.1 (by have := mO_ed u1; omega)
        rcases w with w | w <;> rw [w] <;> dsimp only <;> omega
    · rw [eLF, List.nil_append] at hx
      rcases List.mem_append.mp hx with hx | hx
      · rcases List.mem_append.mp hx with hx | hx
        · obtain ⟨e, he, w⟩ := fL_mem hx
          have := mO_f o1 he.1 (by have := mO_fr o1; omega)
          rcases w with w | w <;> rw [w] <;> dsimp only <;> omega
        · obtain ⟨e, he, w⟩ := fL_mem hx
          have := mO_f u1 he.1 (by have := mO_fr u1; omega)
          rcases w with w | w <;> rw [w] <;> dsimp only <;> omega
      · obtain ⟨k, k0, -, e⟩ := bL_mem hx
        rw [e]
        dsimp only
        omega
  have fr11' : fr11 h (zup h10 4 8 (zlshl (E 0 1) (D 0 0))) := fun a p => by rw [zup_ne (by omega), fr10 a p]
  have f1 : ∀ a, kp a → (zup h10 4 8 (zlshl (E 0 1) (D 0 0))) a = h a := fun a k => fr11' a (by unfold kp at k; omega)
  have keep : ∀ K : Int → zH → Prop, (∀ x h2, kdF (h 0 13) (h 3 (h 0 13)) (zup h10 4 8 (zlshl (E 0 1) (D 0 0))) h2 → cO (h 0 13) (h 3 (h 0 13)) (D 0 0 + E 0 0) (zlshl (E 0 1) (D 0 0)) LE LF x h2 → K x h2) → zCi G (d + 7) mX11_keepDraft [vr 11 0] (zup h10 4 8 (zlshl (E 0 1) (D 0 0))) K := by
    intro K kk
    by_cases le : D 0 0 + E 0 0 ≤ 40
    · exact q_keepDraft (d := d + 2) hI f1 (fr11' 0 (by decide)) (drC_en d10) (lok le) (lBk_en lbk) kk
    · have nf : ¬ fits (D 0 0 + E 0 0) LE LF := fun z => le z.1
      have ov : (zup h10 4 8 (zlshl (E 0 1) (D 0 0))) 4 12 = 1 := (drC_en (x := zlshl (E 0 1) (D 0 0)) d10).2.2.2.2.2.2.2.2.2 nf
      have r3 := f1 3 (by unfold kp; omega)
      have r0 := fr11' 0 (by decide)
      have z14 : ∀ (g : zH) (w : Int), (∀ j, ¬ j = 13 → ¬ j = 14 → (zup g 0 14 w) 0 j = g 0 j) := fun g w j p q => zup_ns q
      refine eX11_keepDraft (bX11_keepDraft_0 ?_)
      rw [r0, r3]
      refine ⟨⟨by omega, by omega⟩, fun z => sp_refused (kk _ _ ⟨fun a p _ => zup_ne p, z14 _ _⟩ (Or.inl ⟨rfl, zup_eq, by rw [zup_ns (by decide), r0], Or.inl z⟩)), fun z => ⟨by omega, sp_settle_over (d := d + 2) ov ⟨fun z => (by cases z), fun _ => sp_refused (kk _ _ ⟨fun a p _ => zup_ne p, z14 _ _⟩ (Or.inl ⟨rfl, zup_eq, by rw [zup_ns (by decide), r0], Or.inr (Or.inl nf)⟩))⟩⟩⟩
  refine keep _ (fun x h11 kd o => ?_)
  have cx : CX h (zup h10 4 8 (zlshl (E 0 1) (D 0 0))) h11 := ⟨f1, fr11' 0 (by decide), fr11' 466 (by decide), kd⟩
  have e64 := CX_64 hI cx (mK_0 h11)
  refine eX12_behind (bX12_behind_0 (eX12_refusesTwo (bX12_refusesTwo_0 (q_machC e64 (by omega) ha (fun _ => ⟨fun z => (by cases z), fun _ => q_machC e64 (by omega) hb (fun _ => ⟨fun _ => sm_in ⟨by decide, by decide⟩ ⟨by decide, by decide⟩ ⟨by decide, by decide⟩ ⟨fun z => absurd z (by decide), fun _ => ?_⟩, fun z => (by cases z)⟩) (fun z => absurd q2 z)⟩) (fun z => absurd q1 z)))))
  refine ⟨⟨by decide, by decide⟩, fun z => absurd rfl z, fun _ => sm_mostMachines e64 (by omega) (fun z => ⟨⟨by decide, by decide⟩, fun _ => ⟨by omega, by omega, ?_⟩, fun w => absurd (by decide) w⟩) (fun z => ⟨⟨by decide, by decide⟩, fun w => absurd w (by decide), fun _ => q_ref hI cx o (mK_0 h11) (fun w => by omega)⟩)⟩
  have ra := CX_rep hI cx (mK_0 h11) o3
  have rb := CX_rep hI cx (mK_0 h11) u3
  rw [ra.1.1, rb.1.1]
  refine sm_builds ⟨by omega, by omega⟩ (fun h12 v1 v2 v3 v4 v5 => ?_)
  have k12 : mK h11 h12 := mK_tr (mK_0 h11) (bld_k v1 v2)
  by_cases le : D 0 0 + E 0 0 ≤ 40
  · have fl : h12 466 51 = 0 := v5.2.2.2.2.2.1 ⟨le, by decide, by decide⟩
    rw [fl]
    refine ⟨⟨by decide, by decide⟩, fun _ => ?_, fun w => absurd rfl w⟩
    have l1 : (eL D 0 false (pX D) (D 0 2).toNat).length ≤ 160 := by
      have := mO_ed o1
      rw [eL_len]
      omega
    refine sm_buildsEdges (d := d + 4) (bk := false) (by omega) o1 (CX_rep hI cx k12 o3) (by omega) v5 (by decide) (by show 0 ≤ h12 488 0 ∧ h12 488 0 ≤ _; rw [v4]; decide) (fun h13 x1 x2 x3 => ?_)
    rw [List.nil_append] at x2 x3
    have k13 := mK_tr k12 (bF_k x1)
    refine sm_buildsEdges (d := d + 4) (bk := false) (by omega) u1 (CX_rep hI cx k13 u3) (by omega) x2 l1 (x3 l1) (fun h14 y1 y2 y3 => ?_)
    rw [← eLE] at y2 y3
    have k14 := mK_tr k13 (bF_k y1)
    refine sm_buildsFrees (d := d + 6) (bk := false) (by omega) o1 (CX_rep hI cx k14 o3) y2 (fun h15 z1 z2 z3 => ?_)
    have k15 := mK_tr k14 (bF_k z1)
    refine sm_buildsFrees (d := d + 6) (bk := false) (by omega) u1 (CX_rep hI cx k15 u3) z3 (fun h16 p1 p2 p3 => ?_)
    have k16 := mK_tr k15 (bF_k p1)
    have go : ∀ (f : Nat) (k : Nat) (hk : zH), k + f = (D 0 0).toNat → mK h11 hk → hk 488 = h14 488 → drM hk (D 0 0 + E 0 0) LE ([] ++ fL D 0 false (D 0 3).toNat ++ fL E (D 0 0) false (E 0 3).toNat ++ bL (D 0 1) (fun q => (q + 0, D 0 0)) k) → tX12_behind_99 G (d + 7) (fun y h4 => zR x ∧ x = y ∧ Inv h4) a b (D 0 0) k hk := by
      intro f
      induction f with
      | zero =>
        intro k h8 ek k8 p8 d8
        have r8 := CX_rep hI cx k8 u3
        refine bX12_behind_99 ?_
        rw [r8.1.2.1]
        refine ⟨⟨by omega, by omega⟩, ⟨by omega, by omega⟩, fun _ => ⟨by omega, ?_⟩, fun w => absurd (by omega) w⟩
        have ek : k = (D 0 0).toNat := by omega
        subst ek
        rw [← eLF] at d8
        exact q_makes (d := d + 2) hI cx.1 cx.2.1 cx.2.2.1 kd o (mK_tr k8 mK_50) z (lok le) (drM_en d8) zup_eq (fun ft => by rw [zup_ne (by decide), p8]; have := y3 ft.2.1; have := ft.2.1; omega)
      | succ f ih =>
        intro k h8 ek k8 p8 d8
        have r8 := CX_rep hI cx k8 o3
        refine bX12_behind_99 ?_
        rw [r8.1.2.1]
        refine ⟨⟨by omega, by omega⟩, ⟨by omega, by omega⟩, fun w => absurd w (by omega), fun _ => ⟨by omega, sm_bit (by omega) ⟨fun w => ih (k + 1) h8 (by omega) k8 p8 ?_, fun w => sm_buildsFree d8 (fun h9 y1 y2 y3 => ih (k + 1) h9 (by omega) (mK_tr k8 (bF_k y1)) (by rw [y2]; exact p8) ?_)⟩⟩⟩
        · rw [bL_s, if_neg (by rw [w]; decide)]
          exact d8
        · rw [bL_s, if_pos w, ← List.append_assoc, Int.add_zero]
          exact y3
    exact go (D 0 0).toNat 0 h16 (by omega) k16 (by rw [p2, z2]) (by show drM h16 (D 0 0 + E 0 0) LE ([] ++ fL D 0 false (D 0 3).toNat ++ fL E (D 0 0) false (E 0 3).toNat ++ []); rw [List.append_nil]; exact p3)
  · have fl : h12 466 51 = 1 := v5.2.2.2.2.2.2 (fun z => le z.1)
    rw [fl]
    refine ⟨⟨by decide, by decide⟩, fun w => absurd w (by decide), fun _ => q_ref hI cx o k12 (fun w => le w.2.1)⟩
end C2
