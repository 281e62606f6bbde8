/-! ===== moved, only ===== -/
section MO
variable {G : zG} {d : Nat} {h D : zH} {n en : Int} {LE : List eT} {LF : List fT}
theorem sm_keepsEdge {K : zH → Prop} {a b : Int} {X : Int → Bool} (k : drM h n (LE ++ [(a, b, X)]) LF) (l0 : LE.length < 160) (p0 : 0 ≤ h 488 LE.length) (p1 : h 488 (LE.length + 1) ≤ 14000) (k1 : neX X = true → K h) (k2 : ¬ neX X = true → ∀ h' : zH, bF h h' → h' 488 = h 488 → drM h' n LE LF → K h') : zCv G d mX12_keepsEdge [vr 12 466] h K := by
  unfold drM at k
  rw [len_1] at k
  obtain ⟨q1, q2, q3, q4, q5, q6, q7⟩ := k
  obtain ⟨e48, e0, es⟩ := q3 (by omega)
  have last := es LE.length (by omega) (by omega)
  rw [gE_r rfl] at last
  have rg : rgs (h 489) (h 490) (h 488 LE.length) (h 488 (LE.length + 1)) X := last.2.2.2
  have ac := last.2.2.1
  refine eX12_keepsEdge (bX12_keepsEdge_0 ?_)
  rw [e48, show ((LE.length + 1 : Nat) : Int) - 1 = LE.length by omega, show ((LE.length + 1 : Nat) : Int) = LE.length + 1 by omega]
  refine ⟨by omega, by omega, ⟨by omega, by omega⟩, ⟨by omega, by omega⟩, fun z => k1 ?_, fun z => k2 (fun y => ?_) _ ⟨fun x p q => zup_ne p, fun j p q => zup_ns (by omega)⟩ (zup_ne (by decide)) ?_⟩
  · have r := rg.1 (h 488 LE.length) (by omega) (by omega)
    exact neX_t.mpr ⟨h 489 (h 488 LE.length), by omega, rgs_in rg (by omega) (k := h 488 LE.length) (by omega) (by omega) (by omega)⟩
  · obtain ⟨w, hw, t⟩ := neX_t.mp y
    obtain ⟨k, hk, -⟩ := (rg.2.2 w hw.1 hw.2).mp t
    omega
  · have o : ∀ x, ¬ x = 466 → (zup h 466 48 LE.length) x = h x := fun x p => zup_ne p
    have o4 : ∀ j, ¬ j = 48 → (zup h 466 48 LE.length) 466 j = h 466 j := fun j p => zup_ns p
    have fq : fits n (LE ++ [(a, b, X)]) LF ↔ fits n LE LF := by
      unfold fits
      rw [len_1]
      omega
    rw [fq] at q6 q7
    unfold drM
    rw [o4 47 (by decide), o4 49 (by decide), o4 51 (by decide), o 486 (by decide), o 487 (by decide), o 488 (by decide), o 489 (by decide), o 490 (by decide), o 491 (by decide), o 492 (by decide), zup_eq]
    refine ⟨q1, q2, fun _ => ⟨rfl, e0, fun e a0 a1 => ?_⟩, q4, q5, q6, q7⟩
    have := es e a0 (by omega)
    rwa [gE_l a0 a1] at this
theorem sm_buildsMoved {K : zH → Prop} {a b x y : Int} {f g : Int → Bool} (k : drM h n (LE ++ [(a, b, f)]) LF) (l0 : LE.length < 160) (p0 : 0 ≤ h 488 LE.length) (x0 : x ≤ y) (xr : zR x) (yr : zR y) (fz : ∀ z, 0 ≤ z → x ≤ z → z < 65536 → f z = false) (eg : ∀ z, 0 ≤ z → z < 65536 → (g z = true ↔ f z = true ∨ (x ≤ z ∧ z ≤ y))) (bd : ∀ (lo hi : Int → Int) (c : Int), h 488 LE.length ≤ c → rgs lo hi (h 488 LE.length) c g → c ≤ 14000) (kk : ∀ h' : zH, bF h h' → (∀ j, ¬ j = LE.length + 1 → h' 488 j = h 488 j) → drM h' n (LE ++ [(a, b, g)]) LF → K h') : zCv G (d + 1) mX12_buildsMoved [vr 12 466, vi x, vi y] h K := by
  have no : (∀ z, 0 ≤ z → z < 65536 → ¬ (x ≤ z ∧ z ≤ y)) → K h := fun q => kk h (bF_r h) (fun _ _ => rfl) (drM_f (fun z z0 z1 => by
    rw [Bool.eq_iff_iff, eg z z0 z1]
    exact ⟨Or.inl, fun w => w.elim id (fun w => absurd w (q z z0 z1))⟩) k)
  have yes : ∀ u v : Int, 0 ≤ u ∧ u ≤ v ∧ v < 65536 → (∀ z, 0 ≤ z → z < 65536 → (u ≤ z ∧ z ≤ v ↔ x ≤ z ∧ z ≤ y)) → zCv G d mX12_buildsRange [vr 12 466, vi u, vi v] h (fun h2 => K h2) := fun u v uv q => sm_buildsRange k l0 p0 uv (fun z z0 z1 => by
    by_cases w : z ≤ v
    · exact fz z (by omega) ((q z (by omega) z1).mp ⟨z0, w⟩).1 z1
    · have := (q u (by omega) (by omega)).mp ⟨by omega, by omega⟩
      exact fz z (by omega) (by omega) z1) (fun z z0 z1 => by rw [q z z0 z1]; exact eg z z0 z1) bd kk
  refine eX12_buildsMoved (bX12_buildsMoved_0 ⟨xr, fun c1 => ⟨yr, fun c2 => ⟨xr, fun c3 => no (fun z z0 z1 => by omega), fun c3 => yes _ _ (by omega) (fun z z0 z1 => by omega)⟩, fun c2 => ⟨xr, yr, fun c3 => absurd c3 (by omega), fun c3 => yes _ _ (by omega) (fun z z0 z1 => by omega)⟩⟩, fun c1 => ⟨yr, fun c2 => yes _ _ (by omega) (fun z z0 z1 => by omega), fun c2 => ⟨yr, fun c3 => no (fun z z0 z1 => by omega), fun c3 => yes _ _ (by omega) (fun z z0 z1 => by omega)⟩⟩⟩)
theorem sp_leaveOutside {K : zH → Prop} {x : Int} (x11 : 12 ≤ x) (hl : lsOK h x) (s : dS (h 10) (h 4 11)) (k : ∀ h' : zH, (∀ a, ¬ a = 11 → h' a = h a) → (∀ b, 0 ≤ b → b < h 4 11 → h' 11 b = if iS (fun i => h (x + 1) i) (h x 1) (h 10 b) = true then h 11 b else -1) → K h') : zCv G (d + 1) mX2_leaveOutside [vr 2 4, vr 3 x] h K := by
  have nn := s.1
  have go : ∀ (f : Nat) (b : Int) (h1 : zH), 0 ≤ b → b + f = h 4 11 → (∀ a, ¬ a = 11 → h1 a = h a) → (∀ b', 0 ≤ b' → b' < b → h1 11 b' = if iS (fun i => h (x + 1) i) (h x 1) (h 10 b') = true then h 11 b' else -1) → (∀ b', b ≤ b' → h1 11 b' = h 11 b') → tX2_leaveOutside_2 G d K x b h1 := by
    intro f
    induction f with
    | zero =>
      intro b h1 b0 bf g1 g2 g3
      refine bX2_leaveOutside_2 ?_
      rw [g1 4 (by decide)]
      exact ⟨⟨by omega, by omega⟩, ⟨by omega, by omega⟩, fun _ => k h1 g1 (fun b' x0 x1 => g2 b' x0 (by omega)), fun z => absurd (by omega) z⟩
    | succ f ih =>
      intro b h1 b0 bf g1 g2 g3
      refine bX2_leaveOutside_2 ?_
      rw [g1 4 (by decide), g1 10 (by decide)]
      have r := s.2.2.1 b b0 (by omega)
      have l1 : lsOK h1 x := by
        unfold lsOK at hl ⊢
        rw [g1 x (by omega), g1 (x + 1) (by omega)]
        exact hl
      refine ⟨⟨by omega, by omega⟩, ⟨by omega, by omega⟩, fun z => absurd z (by omega), fun _ => ⟨by omega, sp_holds l1 ⟨by omega, by omega⟩ (fun t ht => ?_)⟩⟩
      rw [g1 x (by omega), g1 (x + 1) (by omega)] at ht
      have ti : (t = true ↔ iS (fun i => h (x + 1) i) (h x 1) (h 10 b) = true) := by rw [ht, iS_t]
      refine ⟨fun z => ih (b + 1) h1 (by omega) (by omega) g1 (fun b' x0 x1 => ?_) (fun b' x0 => g3 b' (by omega)), fun z => ⟨by omega, ih (b + 1) _ (by omega) (by omega) (fun a p => by rw [zup_ne p, g1 a p]) (fun b' x0 x1 => ?_) (fun b' x0 => by rw [zup_ns (by omega)]; exact g3 b' (by omega))⟩⟩
      · by_cases w : b' = b
        · rw [w, if_pos (ti.mp z), g3 b (Int.le_refl _)]
        · exact g2 b' x0 (by omega)
      · by_cases w : b' = b
        · rw [w, zup_eq, if_neg (fun y => by rw [ti.mpr y] at z; cases z)]
        · rw [zup_ns w]
          exact g2 b' x0 (by omega)
  exact eX2_leaveOutside (bX2_leaveOutside_0 (go (h 4 11).toNat 0 h (by omega) (by omega) (fun _ _ => rfl) (fun b' x0 x1 => absurd x1 (by omega)) (fun _ _ => rfl)))
theorem lOK_0 (hD : mOK D) {X : Int → Int → Bool} : lOK (D 0 0) (D 0 1) (eN D X (D 0 2).toNat) ([] ++ fL D 0 false (D 0 3).toNat) := by
  have S0 := mO_st hD
  refine ⟨by omega, mO_en hD, fun x hx => ?_, fun x hx => ?_⟩
  · obtain ⟨e, he, w⟩ := eN_mem hx
    have := mO_e hD he.1 (by have := mO_ed hD; omega)
    rw [w]
    dsimp only
    omega
  · rw [List.nil_append] at hx
    obtain ⟨e, he, w⟩ := fL_mem hx
    have := mO_f hD he.1 (by have := mO_fr hD; omega)
    rcases w with w | w <;> rw [w] <;> dsimp only <;> omega
/-- free steps and ends as they were; then it is kept -/
theorem q_makesLike {h1 h2 H : zH} {x i : Int} {X : Int → Int → Bool} (hI : Inv h) (cx : CX h h1 h2) (o : cO (h 0 13) (h 3 (h 0 13)) (D 0 0) (D 0 1) (eN D X (D 0 2).toNat) ([] ++ fL D 0 false (D 0 3).toNat) x h2) (mk : mK h2 H) (c10 : ¬ h 0 13 = 10) (hi : 0 ≤ i ∧ i < 14) (hD : mOK D) (r : mRep h i D) (dm : drM H (D 0 0) (eN D X (D 0 2).toNat) []) (bd : H 488 (eN D X (D 0 2).toNat).length ≤ 14000) : zCi G (d + 6) mX12_makesLike [vr 12 466, vi i] H (fun y h4 => zR x ∧ x = y ∧ Inv h4) := by
  have rH := CX_rep hI cx mk r
  refine eX12_makesLike (bX12_makesLike_0 (sm_buildsFrees (d := d + 4) (bk := false) hi hD rH dm (fun h3 y1 y2 y3 => ⟨hi, ?_⟩)))
  rw [(bF_rep y1 rH).1.2.1]
  exact q_makes hI cx.1 cx.2.1 cx.2.2.1 cx.2.2.2 o (mK_tr mk (mK_tr (bF_k y1) mK_50)) c10 (lOK_0 hD) (drM_en y3) zup_eq (fun _ => by rw [zup_ne (by decide), y2]; exact bd)
theorem c_moved {m k : Int} (hI : Inv h) (hm : zR m) (hk : zR k) : twI G (d + 8) mX11_moved mX12_moved [vi m, vi k] h := by
  obtain ⟨n1, n2, n3⟩ := iM_n hI
  have no : ∀ w, (w = 1 ∧ ¬ (0 ≤ m ∧ m < h 0 13)) ∨ (w = 2 ∧ (0 ≤ m ∧ m < h 0 13) ∧ ¬ (-65536 < k ∧ k < 65536)) → zCi G (d + 8) mX12_moved [vr 12 466, vi m, vi k] (zup h 0 14 w) (fun y h4 => zR (-1) ∧ -1 = y ∧ Inv h4) := by
    intro w hw
    refine eX12_moved (bX12_moved_0 (q_machC (c := h 0 13) (by rw [zhw_m (by decide), n3]) (by omega) hm (fun q => ⟨fun _ => sm_in hk ⟨by decide, by decide⟩ ⟨by decide, by decide⟩ ⟨fun z => ?_, fun z => ?_⟩, fun z => (by cases z)⟩) (fun q => ⟨fun z => (by cases z), fun _ => ?_⟩)))
    · have := of_decide_eq_true z
      omega
    · rcases hw with hw | hw
      · exact absurd q hw.2
      · rw [hw.1]
        exact sm_refused ⟨zR_m1, rfl, Inv_k hI (by omega) (fun _ _ => rfl) rfl rfl (mK_refl _)⟩
    · rcases hw with hw | hw
      · rw [hw.1]
        exact sm_refused ⟨zR_m1, rfl, Inv_k hI (by omega) (fun _ _ => rfl) rfl rfl (mK_refl _)⟩
      · exact absurd hw.2.1 q
  refine eX11_moved (bX11_moved_0 (q_mach hI hm (fun q => ⟨fun _ => ⟨hk, fun z => sp_refused (no 2 (Or.inr ⟨rfl, q, by omega⟩)), fun z1 => ⟨hk, fun z2 => ?_, fun z => sp_refused (no 2 (Or.inr ⟨rfl, q, by omega⟩))⟩⟩, fun z => (by cases z)⟩) (fun q => ⟨fun z => (by cases z), fun _ => sp_refused (no 1 (Or.inl ⟨rfl, q⟩))⟩)))
  have kr : -65536 < k ∧ k < 65536 := by omega
  obtain ⟨m10, mc, o1, o2, o3, o4⟩ := iM_d hI q.1 q.2
  obtain ⟨D, eD⟩ : ∃ D, D = dOf h m := ⟨_, rfl⟩
  rw [← eD] at o1 o2 o3 o4
  have S0 := mO_st o1
  have hB := mO_bl o1
  have E0 := mO_ed o1
  have mr : ¬ (4 ≤ h 3 m ∧ h 3 m ≤ 11) := by unfold mcell at mc; omega
  rw [o2.1.1]
  refine ⟨m10, sp_begin ⟨by omega, by omega⟩ (fun h1 b1 b2 b3 b4 b5 c1 => ?_)⟩
  have d1 := drC_b b2 b3 b4 b5 c1
  have fr1 : fr11 h h1 := fun a p => b1 a (by omega) (by omega)
  refine sp_cutLike (d := d + 6) mc o1 (fr11_c mc fr1 o2) kr c1 (fun h2 v1 v2 c2 => ?_)
  have fr2 : fr11 h h2 := fr11_t fr1 (fun a p => v1 a (by omega) (by omega))
  obtain ⟨s1, s2, s3⟩ := ctS_cov c2 (0 :: (65536 + k) :: (sts D).map (fun z => z + k)) (by have := sts_len o1; rw [List.length_cons, List.length_cons, List.length_map]; omega) (fun z q => by
    rcases q with q | ⟨q | ⟨c, hc, q⟩ | q, w⟩
    · rw [q]
      exact List.mem_cons_self
    · exact q.elim
    · rw [q]
      exact List.mem_cons_of_mem _ (List.mem_cons_of_mem _ (List.mem_map.mpr ⟨D 7 c, sts_in hc.1 hc.2, rfl⟩))
    · rw [q]
      exact List.mem_cons_of_mem _ List.mem_cons_self)
  have d2 := drC_cut d1 v1 v2 s1 (by
    rw [s2]
    exact ((ctS_cov c1 [0] (by decide) (fun z q => q.elim (fun q => by rw [q]; exact List.mem_singleton.mpr rfl) (fun q => q.1.elim))).2.1).symm)
  have ch : ∀ e z, 0 < z → z < 65536 → ¬ mX D k e z = mX D k e (z - 1) → ∃ b, (0 ≤ b ∧ b < h2 4 11) ∧ h2 10 b = z := fun e z z0 z1 q => by
    rw [s3 z]
    rcases mX_ch o1 z0 z1 q with ⟨b, hb, eb⟩ | eb
    · exact Or.inr ⟨Or.inr (Or.inl ⟨b, hb, eb⟩), by omega⟩
    · exact Or.inr ⟨Or.inr (Or.inr eb), by omega⟩
  refine sp_trace (d := d + 6) mc o1 (fr11_c mc fr2 o2) kr rfl s1 (fun h3 g1 g2 => ?_)
  have fr3 : fr11 h h3 := fun a p => by rw [g1 a (by omega), fr2 a p]
  have x4 := g1 4 (by decide)
  have x10 := g1 10 (by decide)
  have sr : ∀ b, 0 ≤ b → b < h3 4 11 → (-1 ≤ h3 11 b ∧ h3 11 b < D 0 4) ∧ ∀ e, mX D k e (h3 10 b) = sB h3 D e b := fun b b0 b1 => by
    rw [x4] at b1
    unfold sB mX
    rw [g2 b b0 b1, x10]
    by_cases c : 0 ≤ h2 10 b - k ∧ h2 10 b - k < 65536
    · rw [if_pos c]
      have := (dB_ok o1 c.1).1
      refine ⟨by omega, fun e => ?_⟩
      rw [decide_eq_true c, decide_eq_true (show 0 ≤ dB D (h2 10 b - k) by omega)]
      rfl
    · rw [if_neg c]
      refine ⟨by omega, fun e => ?_⟩
      rw [decide_eq_false c, decide_eq_false (by decide)]
      rfl
  refine sp_copyFilled (d := d + 5) (X := mX D k) mc o1 (fr11_c mc fr3 o2) (fun b b0 b1 => (sr b b0 b1).1) (fun e b e0 e1 b0 b1 => (sr b b0 b1).2 e) (fun e e0 e1 => by rw [x4, x10]; exact neX_blk s1 (ch e)) (drC_fr (fun a x y => g1 a (by omega)) d2) (fun h4 w1 w2 => ?_)
  have fr4 := fr11_t fr3 (fr11_d w1)
  refine sp_copyFrees (d := d + 6) (bk := false) mc o1 (fr11_c mc fr4 o2) w2 (fun h5 w3 w4 => ?_)
  have fr5 := fr11_t fr4 (fr11_d w3)
  rw [fr5 (h 3 m) mr, o2.1.2.1]
  have lbk : lBk h5 (eN D (mX D k) (D 0 2).toNat) := fun x hx z z0 z1 q => by
    rw [w3.2, w1.2, x4, w3.1 10 (by decide), w1.1 10 (by decide), x10]
    obtain ⟨e, he, w⟩ := eN_mem hx
    rw [w] at q
    exact ch e z z0 z1 q
  have fr6 : fr11 h (zup h5 4 8 (D 0 1)) := fun a p => by rw [zup_ne (by omega), fr5 a p]
  have f1 : ∀ a, kp a → (zup h5 4 8 (D 0 1)) a = h a := fun a k => fr6 a (by unfold kp at k; omega)
  refine q_keepDraft (d := d + 2) hI f1 (fr6 0 (by decide)) (drC_en w4) (lOK_0 o1) (lBk_en lbk) (fun x h6 kd o => ?_)
  have cx : CX h (zup h5 4 8 (D 0 1)) h6 := ⟨f1, fr6 0 (by decide), fr6 466 (by decide), kd⟩
  have e64 := CX_64 hI cx (mK_0 h6)
  refine eX12_moved (bX12_moved_0 (q_machC e64 (by omega) hm (fun _ => ⟨fun _ => sm_in hk ⟨by decide, by decide⟩ ⟨by decide, by decide⟩ ⟨fun _ => sm_mostMachines e64 (by omega) (fun c10 => ⟨⟨by decide, by decide⟩, fun _ => ⟨by omega, ?_⟩, fun w => absurd (by decide) w⟩) (fun z => ⟨⟨by decide, by decide⟩, fun w => absurd w (by decide), fun _ => q_ref hI cx o (mK_0 h6) (fun w => by omega)⟩), fun w => absurd (show -65535 ≤ k ∧ k ≤ 65535 by omega) (of_decide_eq_false w)⟩, fun z => (by cases z)⟩) (fun z => absurd q z)))
  rw [(CX_rep hI cx (mK_0 h6) o3).1.1]
  refine sm_builds ⟨by omega, by omega⟩ (fun h7 v1 v2 v3 v4 v5 => ?_)
  have k7 : mK h6 h7 := mK_tr (mK_0 h6) (bld_k v1 v2)
  -- an edge
  have l104 : ∀ (f : Nat) (e : Nat) (c : Int) (h8 : zH) (LE : List eT), LE = eN D (mX D k) e → (e : Int) < D 0 2 → 0 ≤ c ∧ c ≤ D 0 4 → D 0 4 - c ≤ f → mK h6 h8 → LE.length < 160 → 0 ≤ h8 488 LE.length ∧ h8 488 LE.length ≤ 87 * (LE.length : Int) → drM h8 (D 0 0) (LE ++ [(D 1 e, D 2 e, fun z => mX D k e z && decide (dB D (z - k) < c))]) [] → (∀ h9 : zH, mK h6 h9 → drM h9 (D 0 0) (eN D (mX D k) (e + 1)) [] → 0 ≤ h9 488 (eN D (mX D k) (e + 1)).length ∧ h9 488 (eN D (mX D k) (e + 1)).length ≤ 87 * ((eN D (mX D k) (e + 1)).length : Int) → tX12_moved_62 G (d + 7) (fun y h4 => zR x ∧ x = y ∧ Inv h4) m k ((e : Int) + 1) h9) → tX12_moved_104 G (d + 7) (fun y h4 => zR x ∧ x = y ∧ Inv h4) m k e c h8 := by
    intro f
    have fin : ∀ (e : Nat) (c : Int) (h8 : zH) (LE : List eT), LE = eN D (mX D k) e → (e : Int) < D 0 2 → D 0 4 ≤ c → mK h6 h8 → LE.length < 160 → 0 ≤ h8 488 LE.length ∧ h8 488 LE.length ≤ 87 * (LE.length : Int) → drM h8 (D 0 0) (LE ++ [(D 1 e, D 2 e, fun z => mX D k e z && decide (dB D (z - k) < c))]) [] → (∀ h9 : zH, mK h6 h9 → drM h9 (D 0 0) (eN D (mX D k) (e + 1)) [] → 0 ≤ h9 488 (eN D (mX D k) (e + 1)).length ∧ h9 488 (eN D (mX D k) (e + 1)).length ≤ 87 * ((eN D (mX D k) (e + 1)).length : Int) → tX12_moved_62 G (d + 7) (fun y h4 => zR x ∧ x = y ∧ Inv h4) m k ((e : Int) + 1) h9) → zCv G (d + 7) mX12_keepsEdge [vr 12 466] h8 (fun h2 => tX12_moved_62 G (d + 7) (fun y h4 => zR x ∧ x = y ∧ Inv h4) m k ((e : Int) + 1) h2) := by
      intro e c h8 LE eLE e1 c1 k8 l8 p8 d8 nx
      have d9 : drM h8 (D 0 0) (LE ++ [(D 1 e, D 2 e, mX D k e)]) [] := drM_f (fun z z0 z1 => by
        show (mX D k e z && decide (dB D (z - k) < c)) = mX D k e z
        by_cases w : 0 ≤ z - k
        · have := (dB_ok o1 w).1
          rw [decide_eq_true (show dB D (z - k) < c by omega), Bool.and_true]
        · unfold mX
          rw [decide_eq_false (fun y => w y.1)]
          rfl) d8
      have bb := drM_b d9 l8 (rcn_mv o1)
      refine sm_keepsEdge d9 l8 p8.1 (by omega) (fun w => nx h8 k8 ?_ ?_) (fun w h9 y1 y2 y3 => nx h9 (mK_tr k8 (bF_k y1)) ?_ ?_)
      · rw [eN_s, if_pos w, ← eLE]
        exact d9
      · rw [eN_s, if_pos w, ← eLE, len_1, show ((LE.length + 1 : Nat) : Int) = LE.length + 1 by omega]
        omega
      · rw [eN_s, if_neg w, ← eLE]
        exact y3
      · rw [eN_s, if_neg w, ← eLE, y2]
        exact p8
    induction f with
    | zero =>
      intro e c h8 LE eLE e1 c1 hf k8 l8 p8 d8 nx
      have r8 := CX_rep hI cx k8 o3
      refine bX12_moved_104 ?_
      rw [r8.1.2.2.2.2]
      exact ⟨by omega, ⟨by omega, by omega⟩, ⟨by omega, by omega⟩, fun z => fin e c h8 LE eLE e1 z k8 l8 p8 d8 nx, fun z => absurd hf (by omega)⟩
    | succ f ih =>
      intro e c h8 LE eLE e1 c1 hf k8 l8 p8 d8 nx
      have r8 := CX_rep hI cx k8 o3
      refine bX12_moved_104 ?_
      rw [r8.1.2.2.2.2]
      refine ⟨by omega, ⟨by omega, by omega⟩, ⟨by omega, by omega⟩, fun z => fin e c h8 LE eLE e1 z k8 l8 p8 d8 nx, fun z => sm_edgeHas (d := d + 6) o1 (by omega) r8 (by omega) (by omega) ⟨fun w => ih e (c + 1) h8 LE eLE e1 (by omega) (by omega) k8 l8 p8 (drM_f (fun z z0 z1 => ?_) d8) nx, fun w => ⟨by omega, sm_blockEnd o1 (by omega) r8 (by omega) ?_⟩⟩⟩
      · show (mX D k e z && decide (dB D (z - k) < c)) = (mX D k e z && decide (dB D (z - k) < c + 1))
        by_cases v : dB D (z - k) = c
        · unfold mX pX
          rw [v, w, Bool.and_false]
          rfl
        · by_cases v2 : dB D (z - k) < c
          · rw [decide_eq_true v2, decide_eq_true (show dB D (z - k) < c + 1 by omega)]
          · rw [decide_eq_false v2, decide_eq_false (show ¬ dB D (z - k) < c + 1 by omega)]
      · rw [r8.2.2.2 c c1.1 (by omega)]
        have s := mO_s o1 c1.1 (show c < D 0 4 by omega)
        have en := dEnd_ok o1 c1.1 (show c < D 0 4 by omega)
        have inb : ∀ z, (D 7 c + k ≤ z ∧ z ≤ dEnd D c - 1 + k ↔ (0 ≤ z - k ∧ z - k < 65536) ∧ dB D (z - k) = c) := fun z => by
          constructor
          · intro q
            exact ⟨by omega, dB_u o1 (by omega) c1.1 (by omega) (by omega) (by omega)⟩
          · intro q
            have x := (dB_ok o1 q.1.1).2.1
            have y := dB_end o1 q.1.1 q.1.2
            rw [q.2] at x y
            omega
        refine sm_buildsMoved (d := d + 6) (g := fun z => mX D k e z && decide (dB D (z - k) < c + 1)) d8 l8 p8.1 (by omega) ⟨by omega, by omega⟩ ⟨by omega, by omega⟩ (fun z z00 z0 z1 => ?_) (fun z z0 z1 => ?_) (fun lo hi c' q1 q2 => ?_) (fun h9 f1 f2 f3 => ih e (c + 1) h9 LE eLE e1 (by omega) (by omega) (mK_tr k8 (bF_k f1)) l8 (by rw [f2 _ (by omega)]; exact p8) f3 nx)
        · show (mX D k e z && decide (dB D (z - k) < c)) = false
          by_cases y : z - k < 65536
          · have : ¬ dB D (z - k) < c := fun q => by
              have := (psn_lt o1 c1.1 c1.2 (show 0 ≤ z - k by omega) y).mpr q
              unfold psn at this
              rw [if_pos (by omega)] at this
              omega
            rw [decide_eq_false this, Bool.and_false]
          · unfold mX
            rw [decide_eq_false (fun q => y q.2)]
            rfl
        · show (mX D k e z && decide (dB D (z - k) < c + 1)) = true ↔ (mX D k e z && decide (dB D (z - k) < c)) = true ∨ _
          rw [inb z, Bool.and_eq_true, Bool.and_eq_true, decide_eq_true_iff, decide_eq_true_iff, mX_t]
          constructor
          · intro q
            by_cases v : dB D (z - k) = c
            · exact Or.inr ⟨q.1.1, v⟩
            · exact Or.inl ⟨q.1, by omega⟩
          · rintro (q | q)
            · exact ⟨q.1, by omega⟩
            · refine ⟨⟨q.1, ?_⟩, by omega⟩
              unfold pX
              rw [q.2]
              exact w
        · have := rgs_rc q2 q1 (rcn_pre (p := psn D (c + 1) + k) (rcn_mv o1 (k := k) (e := e)) (fun z z0 z1 => by
            show (mX D k e z && decide (dB D (z - k) < c + 1)) = true ↔ _
            rw [Bool.and_eq_true, decide_eq_true_iff]
            constructor
            · intro y
              have v := (mX_t.mp y.1).1
              have := (psn_lt o1 (by omega) (by omega) v.1 v.2).mpr y.2
              exact ⟨y.1, by omega⟩
            · intro y
              have v := (mX_t.mp y.1).1
              exact ⟨y.1, (psn_lt o1 (by omega) (by omega) v.1 v.2).mp (by omega)⟩))
          omega
  have l62 : ∀ (f : Nat) (e : Nat) (h8 : zH), (e : Int) + f = D 0 2 → mK h6 h8 → drM h8 (D 0 0) (eN D (mX D k) e) [] → 0 ≤ h8 488 (eN D (mX D k) e).length ∧ h8 488 (eN D (mX D k) e).length ≤ 87 * ((eN D (mX D k) e).length : Int) → tX12_moved_62 G (d + 7) (fun y h4 => zR x ∧ x = y ∧ Inv h4) m k e h8 := by
    intro f
    induction f with
    | zero =>
      intro e h8 ef k8 d8 p8
      have r8 := CX_rep hI cx k8 o3
      have ln := eN_len (D := D) (X := mX D k) e
      refine bX12_moved_62 ?_
      rw [r8.1.2.2.1]
      refine ⟨by omega, ⟨by omega, by omega⟩, ⟨by omega, by omega⟩, fun _ => ?_, fun z => absurd (by omega) z⟩
      have ee : e = (D 0 2).toNat := by omega
      rw [ee] at d8 p8 ln
      exact q_makesLike (d := d + 1) hI cx o k8 c10 (by omega) o1 o3 d8 (by omega)
    | succ f ih =>
      intro e h8 ef k8 d8 p8
      have r8 := CX_rep hI cx k8 o3
      have re := r8.2.1 e (by omega) (by omega)
      have ln := eN_len (D := D) (X := mX D k) e
      refine bX12_moved_62 ?_
      rw [r8.1.2.2.1, re.1, re.2.1]
      refine ⟨by omega, ⟨by omega, by omega⟩, ⟨by omega, by omega⟩, fun z => absurd z (by omega), fun _ => ⟨by omega, by omega, sm_buildsEdge d8 (by omega) (fun l1 h9 y1 y2 y3 y4 => l104 (D 0 4).toNat e 0 h9 _ rfl (by omega) (by omega) (by omega) (mK_tr k8 (bF_k y1)) l1 (by rw [y2 _ (by omega)]; exact p8) (drM_f (fun z z0 z1 => ?_) y4) (fun h10 w1 w2 w3 => ?_)) (fun l1 => absurd l1 (by omega))⟩⟩
      · show false = (mX D k e z && decide (dB D (z - k) < 0))
        by_cases w : 0 ≤ z - k
        · have := (dB_ok o1 w).1
          rw [decide_eq_false (by omega), Bool.and_false]
        · unfold mX
          rw [decide_eq_false (fun y => w y.1)]
          rfl
      · have := ih (e + 1) h10 (by omega) w1 w2 w3
        rwa [show ((e + 1 : Nat) : Int) = (e : Int) + 1 by omega] at this
  exact l62 (D 0 2).toNat 0 h7 (by omega) k7 v5 (by show 0 ≤ h7 488 0 ∧ h7 488 0 ≤ 87 * ((0 : Nat) : Int); rw [v4]; decide)
end MO
