/-! ===== only: the case ===== -/
theorem cIn_ch {c : Int → Int} {U z : Int} (q : ¬ iS c U z = iS c U (z - 1)) : ∃ i, (0 ≤ i ∧ i < U) ∧ c i = z := by
  cases a : iS c U z
  · cases b : iS c U (z - 1)
    · rw [a, b] at q
      exact absurd rfl q
    · obtain ⟨j, j0, j1, j2, j3⟩ := iS_t.mp b
      refine ⟨2 * j + 1, by omega, ?_⟩
      by_cases w : z < c (2 * j + 1)
      · rw [iS_t.mpr ⟨j, j0, j1, by omega, w⟩] at a
        cases a
      · omega
  · obtain ⟨j, j0, j1, j2, j3⟩ := iS_t.mp a
    refine ⟨2 * j, by omega, ?_⟩
    by_cases w : c (2 * j) ≤ z - 1
    · rw [a, iS_t.mpr ⟨j, j0, j1, w, by omega⟩] at q
      exact absurd rfl q
    · omega
section MQ
variable {G : zG} {d : Nat} {h : zH}
theorem c_only {m s : Int} (hI : Inv h) (hm : zR m) (hs : zR s) : twI G (d + 8) mX11_only mX12_only [vi m, vi s] h := by
  obtain ⟨n1, n2, n3⟩ := iM_n hI
  obtain ⟨t1, t2, t3, t4⟩ := iS_n hI
  have no : ¬ ((0 ≤ m ∧ m < h 0 13) ∧ (0 ≤ s ∧ s < h (h 0 9) 2)) → zCi G (d + 8) mX12_only [vr 12 466, vi m, vi s] (zup h 0 14 1) (fun y h4 => zR (-1) ∧ -1 = y ∧ Inv h4) := by
    intro q
    have e22 : (zup (zup h 0 14 1) 466 0 0) 466 22 = h (h 0 9) 2 := by rw [zhw_m (by decide), t4]
    refine eX12_only (bX12_only_0 (q_machC (c := h 0 13) (by rw [zhw_m (by decide), n3]) (by omega) hm (fun q1 => ⟨fun z => (by cases z), fun _ => sm_isSet hs (by rw [e22]; exact ⟨by omega, by omega⟩) ?_⟩) (fun _ => ⟨fun _ => sm_refused ⟨zR_m1, rfl, Inv_k hI (by omega) (fun _ _ => rfl) rfl rfl (mK_refl _)⟩, fun z => (by cases z)⟩)))
    rw [e22, decide_eq_false (fun z => q ⟨q1, z⟩)]
    exact ⟨fun z => (by cases z), fun _ => sm_refused ⟨zR_m1, rfl, Inv_k hI (by omega) (fun _ _ => rfl) rfl rfl (mK_refl _)⟩⟩
  refine eX11_only (bX11_only_0 (q_mach hI hm (fun q => ⟨fun z => (by cases z), fun _ => sp_isSet hs ⟨by omega, by omega⟩ ⟨fun z => ?_, fun z => sp_refused (no (fun y => absurd y.2 (of_decide_eq_false z)))⟩⟩) (fun q => ⟨fun _ => sp_refused (no (fun y => q y.1)), fun z => (by cases z)⟩)))
  have qs := of_decide_eq_true z
  obtain ⟨s12, es, sk⟩ := iS_get hI qs.1 qs.2
  obtain ⟨X, eX⟩ : ∃ X, X = h 0 9 + 3 + 2 * s := ⟨_, rfl⟩
  have ms0 := mS_get sk
  have ls0 := sk.1
  have U48 := sk.2.1
  rw [← eX] at es ms0 ls0 U48
  have X12 : (85 ≤ X ∧ X ≤ 107) ∨ (252 ≤ X ∧ X ≤ 274) := by omega
  obtain ⟨U, eU⟩ : ∃ U, U = h X 1 := ⟨_, rfl⟩
  obtain ⟨co, eco⟩ : ∃ co : Int → Int, co = fun i => h (X + 1) i := ⟨_, rfl⟩
  rw [← eU] at U48
  rw [← eU, ← eco] at ms0
  have hco := ms0.1
  obtain ⟨m10, mc, o1, o2, o3, o4⟩ := iM_d hI q.1 q.2
  obtain ⟨D, eD⟩ : ∃ D, D = dOf h m := ⟨_, rfl⟩
  rw [← eD] at o1 o2 o3 o4
  have S0 := mO_st o1
  have hB := mO_bl o1
  have E0 := mO_ed o1
  have mr : ¬ (4 ≤ h 3 m ∧ h 3 m ≤ 11) := by unfold mcell at mc; omega
  rw [o2.1.1]
  refine ⟨m10, sp_begin ⟨by omega, by omega⟩ (fun h1 b1 b2 b3 b4 b5 c1 => ?_)⟩
  have d1 := drC_b b2 b3 b4 b5 c1
  have fr1 : fr11 h h1 := fun a p => b1 a (by omega) (by omega)
  refine sp_cutLike (d := d + 6) mc o1 (fr11_c mc fr1 o2) (by omega) c1 (fun h2 v1 v2 c2 => ⟨s12, ?_⟩)
  have fr2 : fr11 h h2 := fr11_t fr1 (fun a p => v1 a (by omega) (by omega))
  have xx : ∀ g, fr11 h g → g (g 0 9 + 1) s = X ∧ lsOK g X ∧ g X 1 = U ∧ (fun i => g (X + 1) i) = co := fun g fg => by
    unfold lsOK
    rw [fg 0 (by decide), fg (h 0 9 + 1) (by omega), fg X (by omega), fg (X + 1) (by omega)]
    exact ⟨es, ls0, eU.symm, eco.symm⟩
  rw [(xx h2 fr2).1]
  refine sp_cutBy (d := d + 6) (by omega) (xx h2 fr2).2.1 c2 (fun h3 v3 v4 c3 => ?_)
  have fr3 : fr11 h h3 := fr11_t fr2 (fun a p => v3 a (by omega) (by omega))
  have U0 := hco.1
  obtain ⟨s1, s2, s3⟩ := ctS_cov c3 (0 :: (sts D ++ (List.range U.toNat).map (fun i : Nat => co (i : Int)))) (by have := sts_len o1; rw [List.length_cons, List.length_append, List.length_map, List.length_range]; omega) (fun z q => by
    rcases q with q | ⟨(q | ⟨c, hc, q⟩ | q) | ⟨i, hi, q⟩, w⟩
    · rw [q]
      exact List.mem_cons_self
    · exact q.elim
    · rw [q, Int.add_zero]
      exact List.mem_cons_of_mem _ (List.mem_append.mpr (Or.inl (sts_in hc.1 hc.2)))
    · omega
    · rw [(xx h2 fr2).2.2.1] at hi
      have : z = co i := by rw [← (xx h2 fr2).2.2.2]; exact q
      rw [this]
      exact List.mem_cons_of_mem _ (List.mem_append.mpr (Or.inr (List.mem_map.mpr ⟨i.toNat, List.mem_range.mpr (by omega), by rw [show ((i.toNat : Nat) : Int) = i by omega]⟩))))
  have d3 := drC_cut d1 (fun a p q => by rw [v3 a p q, v1 a p q]) (fun j p q => by rw [v4 j p q, v2 j p q]) s1 (by
    rw [s2]
    exact ((ctS_cov c1 [0] (by decide) (fun z q => q.elim (fun q => by rw [q]; exact List.mem_singleton.mpr rfl) (fun q => q.1.elim))).2.1).symm)
  have ch : ∀ e z, 0 < z → z < 65536 → ¬ oX D co U e z = oX D co U e (z - 1) → ∃ b, (0 ≤ b ∧ b < h3 4 11) ∧ h3 10 b = z := fun e z z0 z1 q => by
    rw [s3 z]
    by_cases w : pX D e z = pX D e (z - 1)
    · have w2 : ¬ iS co U z = iS co U (z - 1) := fun y => q (by unfold oX; rw [w, y])
      obtain ⟨i, hi, ei⟩ := cIn_ch w2
      refine Or.inr ⟨Or.inr ⟨i, by rw [(xx h2 fr2).2.2.1]; exact hi, ?_⟩, by omega⟩
      rw [← ei, ← (xx h2 fr2).2.2.2]
    · obtain ⟨b, hb, eb⟩ := pX_ch o1 (pX_c (e := e)) z0 z1 w
      exact Or.inr ⟨Or.inl (Or.inr (Or.inl ⟨b, hb, by rw [Int.add_zero]; exact eb⟩)), by omega⟩
  refine sp_trace (d := d + 6) mc o1 (fr11_c mc fr3 o2) (by omega) rfl s1 (fun h4 g1 g2 => ⟨s12, ?_⟩)
  have fr4 : fr11 h h4 := fun a p => by rw [g1 a (by omega), fr3 a p]
  have x4 := g1 4 (by decide)
  have x10 := g1 10 (by decide)
  rw [(xx h4 fr4).1]
  refine sp_leaveOutside (d := d + 6) (by omega) (xx h4 fr4).2.1 (by rw [x4, x10]; exact s1) (fun h5 g3 g4 => ?_)
  have fr5 : fr11 h h5 := fun a p => by rw [g3 a (by omega), fr4 a p]
  have y4 : h5 4 = h3 4 := by rw [g3 4 (by decide), x4]
  have y10 : h5 10 = h3 10 := by rw [g3 10 (by decide), x10]
  rw [(xx h4 fr4).2.2.1, (xx h4 fr4).2.2.2, x4, x10] at g4
  have sr : ∀ b, 0 ≤ b → b < h5 4 11 → (-1 ≤ h5 11 b ∧ h5 11 b < D 0 4) ∧ ∀ e, oX D co U e (h5 10 b) = sB h5 D e b := fun b b0 b1 => by
    rw [y4] at b1
    have r := s1.2.2.1 b b0 b1
    unfold sB oX
    rw [g4 b b0 b1, y10, g2 b b0 b1, if_pos (show 0 ≤ h3 10 b - 0 ∧ h3 10 b - 0 < 65536 by omega), Int.sub_zero]
    have := (dB_ok o1 r.1).1
    by_cases c : iS co U (h3 10 b) = true
    · rw [if_pos c]
      refine ⟨by omega, fun e => ?_⟩
      rw [c, Bool.and_true, decide_eq_true (show 0 ≤ dB D (h3 10 b) by omega)]
      rfl
    · rw [if_neg c]
      refine ⟨by omega, fun e => ?_⟩
      rw [Bool.eq_false_iff.mpr c, Bool.and_false, decide_eq_false (by decide)]
      rfl
  refine sp_copyFilled (d := d + 5) (X := oX D co U) mc o1 (fr11_c mc fr5 o2) (fun b b0 b1 => (sr b b0 b1).1) (fun e b e0 e1 b0 b1 => (sr b b0 b1).2 e) (fun e e0 e1 => by rw [y4, y10]; exact neX_blk s1 (ch e)) (drC_fr (fun a x y => by rw [g3 a (by omega), g1 a (by omega)]) d3) (fun h6 w1 w2 => ?_)
  have fr6 := fr11_t fr5 (fr11_d w1)
  refine sp_copyFrees (d := d + 6) (bk := false) mc o1 (fr11_c mc fr6 o2) w2 (fun h7 w3 w4 => ?_)
  have fr7 := fr11_t fr6 (fr11_d w3)
  rw [fr7 (h 3 m) mr, o2.1.2.1]
  have lbk : lBk h7 (eN D (oX D co U) (D 0 2).toNat) := fun x hx z z0 z1 q => by
    rw [w3.2, w1.2, y4, w3.1 10 (by decide), w1.1 10 (by decide), y10]
    obtain ⟨e, he, w⟩ := eN_mem hx
    rw [w] at q
    exact ch e z z0 z1 q
  have fr8 : fr11 h (zup h7 4 8 (D 0 1)) := fun a p => by rw [zup_ne (by omega), fr7 a p]
  have f1 : ∀ a, kp a → (zup h7 4 8 (D 0 1)) a = h a := fun a k => fr8 a (by unfold kp at k; omega)
  refine q_keepDraft (d := d + 2) hI f1 (fr8 0 (by decide)) (drC_en w4) (lOK_0 o1) (lBk_en lbk) (fun x h8 kd o => ?_)
  have cx : CX h (zup h7 4 8 (D 0 1)) h8 := ⟨f1, fr8 0 (by decide), fr8 466 (by decide), kd⟩
  have e64 := CX_64 hI cx (mK_0 h8)
  have e22 : (zup h8 466 0 0) 466 22 = h (h 0 9) 2 := by rw [zup_ns (by decide), cx.2.2.2.1 466 (by decide) (by have := CX_m hI; omega), cx.2.2.1, t4]
  have mS8 : ∀ H : zH, mK h8 H → mS H s U co := fun H mk => mS_fr (by rw [mk.1 471 (by unfold kp; omega), CX_a hI cx (by unfold kp; omega) (by decide)]) (by rw [mk.1 472 (by unfold kp; omega), CX_a hI cx (by unfold kp; omega) (by decide)]) (by rw [mk.1 473 (by unfold kp; omega), CX_a hI cx (by unfold kp; omega) (by decide)]) ms0
  refine eX12_only (bX12_only_0 (q_machC e64 (by omega) hm (fun _ => ⟨fun z => (by cases z), fun _ => sm_isSet hs (by rw [e22]; exact ⟨by omega, by omega⟩) ?_⟩) (fun z => absurd q z)))
  rw [e22, decide_eq_true qs]
  refine ⟨fun _ => sm_mostMachines e64 (by omega) (fun c10 => ⟨⟨by decide, by decide⟩, fun _ => ⟨by omega, ?_⟩, fun w => absurd (by decide) w⟩) (fun z => ⟨⟨by decide, by decide⟩, fun w => absurd w (by decide), fun _ => q_ref hI cx o (mK_0 h8) (fun w => by omega)⟩), fun z => (by cases z)⟩
  rw [(CX_rep hI cx (mK_0 h8) o3).1.1]
  refine sm_builds ⟨by omega, by omega⟩ (fun h9 v1 v2 v3 v4 v5 => ?_)
  have k9 : mK h8 h9 := mK_tr (mK_0 h8) (bld_k v1 v2)
  have l94 : ∀ (f : Nat) (e : Nat) (c : Int) (hx : zH) (LE : List eT), LE = eN D (oX D co U) e → (e : Int) < D 0 2 → 0 ≤ c ∧ c ≤ D 0 4 → D 0 4 - c ≤ f → mK h8 hx → LE.length < 160 → 0 ≤ hx 488 LE.length ∧ hx 488 LE.length ≤ 87 * (LE.length : Int) → drM hx (D 0 0) (LE ++ [(D 1 e, D 2 e, fun z => oX D co U e z && decide (z < psn D c))]) [] → (∀ hy : zH, mK h8 hy → drM hy (D 0 0) (eN D (oX D co U) (e + 1)) [] → 0 ≤ hy 488 (eN D (oX D co U) (e + 1)).length ∧ hy 488 (eN D (oX D co U) (e + 1)).length ≤ 87 * ((eN D (oX D co U) (e + 1)).length : Int) → tX12_only_52 G (d + 7) (fun y h4 => zR x ∧ x = y ∧ Inv h4) m s ((e : Int) + 1) hy) → tX12_only_94 G (d + 7) (fun y h4 => zR x ∧ x = y ∧ Inv h4) m s e c hx := by
    intro f
    have fin : ∀ (e : Nat) (c : Int) (hx : zH) (LE : List eT), LE = eN D (oX D co U) e → (e : Int) < D 0 2 → D 0 4 ≤ c → mK h8 hx → LE.length < 160 → 0 ≤ hx 488 LE.length ∧ hx 488 LE.length ≤ 87 * (LE.length : Int) → drM hx (D 0 0) (LE ++ [(D 1 e, D 2 e, fun z => oX D co U e z && decide (z < psn D c))]) [] → (∀ hy : zH, mK h8 hy → drM hy (D 0 0) (eN D (oX D co U) (e + 1)) [] → 0 ≤ hy 488 (eN D (oX D co U) (e + 1)).length ∧ hy 488 (eN D (oX D co U) (e + 1)).length ≤ 87 * ((eN D (oX D co U) (e + 1)).length : Int) → tX12_only_52 G (d + 7) (fun y h4 => zR x ∧ x = y ∧ Inv h4) m s ((e : Int) + 1) hy) → zCv G (d + 7) mX12_keepsEdge [vr 12 466] hx (fun h2 => tX12_only_52 G (d + 7) (fun y h4 => zR x ∧ x = y ∧ Inv h4) m s ((e : Int) + 1) h2) := by
      intro e c hx LE eLE e1 c1 k8 l8 p8 d8 nx
      have d9 : drM hx (D 0 0) (LE ++ [(D 1 e, D 2 e, oX D co U e)]) [] := drM_f (fun z z0 z1 => by
        show (oX D co U e z && decide (z < psn D c)) = oX D co U e z
        have : psn D c = 65536 := by
          unfold psn
          rw [if_neg (by omega)]
        rw [this, decide_eq_true z1, Bool.and_true]) d8
      have bb := drM_b d9 l8 (rcn_only o1 hco U48)
      refine sm_keepsEdge d9 l8 p8.1 (by omega) (fun w => nx hx k8 ?_ ?_) (fun w h9 y1 y2 y3 => nx h9 (mK_tr k8 (bF_k y1)) ?_ ?_)
      · rw [eN_s, if_pos w, ← eLE]
        exact d9
      · rw [eN_s, if_pos w, ← eLE, len_1, show ((LE.length + 1 : Nat) : Int) = LE.length + 1 by omega]
        omega
      · rw [eN_s, if_neg w, ← eLE]
        exact y3
      · rw [eN_s, if_neg w, ← eLE, y2]
        exact p8
    induction f with
    | zero =>
      intro e c hx LE eLE e1 c1 hf k8 l8 p8 d8 nx
      have r8 := CX_rep hI cx k8 o3
      refine bX12_only_94 ?_
      rw [r8.1.2.2.2.2]
      exact ⟨by omega, ⟨by omega, by omega⟩, ⟨by omega, by omega⟩, fun z => fin e c hx LE eLE e1 z k8 l8 p8 d8 nx, fun z => absurd hf (by omega)⟩
    | succ f ih =>
      intro e c hx LE eLE e1 c1 hf k8 l8 p8 d8 nx
      have r8 := CX_rep hI cx k8 o3
      refine bX12_only_94 ?_
      rw [r8.1.2.2.2.2]
      refine ⟨by omega, ⟨by omega, by omega⟩, ⟨by omega, by omega⟩, fun z => fin e c hx LE eLE e1 z k8 l8 p8 d8 nx, fun z => sm_edgeHas (d := d + 6) o1 (by omega) r8 (by omega) (by omega) ⟨fun w => ih e (c + 1) hx LE eLE e1 (by omega) (by omega) k8 l8 p8 (drM_f (fun z z0 z1 => ?_) d8) nx, fun w => ⟨by omega, sm_blockEnd o1 (by omega) r8 (by omega) ?_⟩⟩⟩
      · show (oX D co U e z && decide (z < psn D c)) = (oX D co U e z && decide (z < psn D (c + 1)))
        have p1 := psn_lt o1 c1.1 c1.2 z0 z1
        have p2 := psn_lt o1 (b := c + 1) (by omega) (by omega) z0 z1
        by_cases v : dB D z = c
        · unfold oX pX
          rw [v, w]
          rfl
        · by_cases v2 : dB D z < c
          · rw [decide_eq_true (p1.mpr v2), decide_eq_true (p2.mpr (by omega))]
          · rw [decide_eq_false (fun y => v2 (p1.mp y)), decide_eq_false (fun y => by have := p2.mp y; omega)]
      · rw [r8.2.2.2 c c1.1 (by omega)]
        have eps : psn D c = D 7 c := by
          unfold psn
          rw [if_pos (by omega)]
        rw [eps] at d8
        exact sm_buildsOnly (d := d + 6) (by omega) (mS8 hx k8) o1 (by omega) w d8 l8 p8.1 (by omega) (fun hy f1 f2 f3 => ih e (c + 1) hy LE eLE e1 (by omega) (by omega) (mK_tr k8 (bF_k f1)) l8 (by rw [f2 _ (by omega)]; exact p8) (by rw [psn_end]; exact f3) nx)
  have l52 : ∀ (f : Nat) (e : Nat) (hx : zH), (e : Int) + f = D 0 2 → mK h8 hx → drM hx (D 0 0) (eN D (oX D co U) e) [] → 0 ≤ hx 488 (eN D (oX D co U) e).length ∧ hx 488 (eN D (oX D co U) e).length ≤ 87 * ((eN D (oX D co U) e).length : Int) → tX12_only_52 G (d + 7) (fun y h4 => zR x ∧ x = y ∧ Inv h4) m s e hx := by
    intro f
    induction f with
    | zero =>
      intro e hx ef k8 d8 p8
      have r8 := CX_rep hI cx k8 o3
      have ln := eN_len (D := D) (X := oX D co U) e
      refine bX12_only_52 ?_
      rw [r8.1.2.2.1]
      refine ⟨by omega, ⟨by omega, by omega⟩, ⟨by omega, by omega⟩, fun _ => ?_, fun z => absurd (by omega) z⟩
      have ee : e = (D 0 2).toNat := by omega
      rw [ee] at d8 p8 ln
      exact q_makesLike (d := d + 1) hI cx o k8 c10 (by omega) o1 o3 d8 (by omega)
    | succ f ih =>
      intro e hx ef k8 d8 p8
      have r8 := CX_rep hI cx k8 o3
      have re := r8.2.1 e (by omega) (by omega)
      have ln := eN_len (D := D) (X := oX D co U) e
      refine bX12_only_52 ?_
      rw [r8.1.2.2.1, re.1, re.2.1]
      refine ⟨by omega, ⟨by omega, by omega⟩, ⟨by omega, by omega⟩, fun z => absurd z (by omega), fun _ => ⟨by omega, by omega, sm_buildsEdge d8 (by omega) (fun l1 h9 y1 y2 y3 y4 => l94 (D 0 4).toNat e 0 h9 _ rfl (by omega) (by omega) (by omega) (mK_tr k8 (bF_k y1)) l1 (by rw [y2 _ (by omega)]; exact p8) (drM_f (fun z z0 z1 => ?_) y4) (fun h10 w1 w2 w3 => ?_)) (fun l1 => absurd l1 (by omega))⟩⟩
      · show false = (oX D co U e z && decide (z < psn D 0))
        have p1 := psn_lt o1 (b := 0) (by omega) (by omega) z0 z1
        have := (dB_ok o1 z0).1
        rw [decide_eq_false (fun y => by have := p1.mp y; omega), Bool.and_false]
      · have := ih (e + 1) h10 (by omega) w1 w2 w3
        rwa [show ((e + 1 : Nat) : Int) = (e : Int) + 1 by omega] at this
  exact l52 (D 0 2).toNat 0 h9 (by omega) k9 v5 (by show 0 ≤ h9 488 0 ∧ h9 488 0 ≤ 87 * ((0 : Nat) : Int); rw [v4]; decide)
end MQ
