/-! ===== cases: terms, term ===== -/
theorem zsum_0 {f : Int → Int} : ∀ n : Nat, (∀ i : Int, 0 ≤ i → i < n → f i = 0) → zsum f n = 0
  | 0, _ => rfl
  | n + 1, h => by
    show zsum f n + f n = 0
    rw [zsum_0 n (fun i a b => h i a (by omega)), h n (by omega) (by omega)]
    rfl
section DB
variable {G : zG} {d : Nat} {h D : zH}
theorem sm_term87 {K : Int → zH → Prop} {i q j C : Int} {Ki He : Int → Int} (hD : mOK D) (hi : 0 ≤ i ∧ i < 14) (hr : mRep h i D) (hq : zR q) (nm : numOK (lk D q (D 0 2)) (D 0 4) C Ki He) (hj : 0 ≤ j ∧ j < C) (k : K (zsum (fun b => if Ki b = j then wid D b else 0) (D 0 4).toNat) (zup (zup h 466 1 0) 466 2 (-1))) : tX12_term_87 G (d + 2) K i q (He j) 0 (He j) h := by
  have hB := mO_bl hD
  have hh := nm.1.2.2.1 j hj.1 hj.2
  have z0 : zsum (fun b => if Ki b = j then wid D b else 0) (He j).toNat = 0 := zsum_0 _ (fun b b0 b1 => by
    obtain ⟨k1, k2, k3⟩ := nm.1.2.1 b b0 (by omega)
    rw [if_neg (fun z => by rw [z] at k3; omega)])
  have go : ∀ (f b : Nat), (b : Int) + f = D 0 4 → tX12_term_87 G (d + 2) K i q (He j) (zsum (fun b => if Ki b = j then wid D b else 0) b) b h := by
    intro f
    induction f with
    | zero =>
      intro b hb
      refine bX12_term_87 ⟨hi, ?_⟩
      rw [hr.1.2.2.2.2]
      rw [show (D 0 4).toNat = b by omega] at k
      exact ⟨⟨by omega, by omega⟩, ⟨by omega, by omega⟩, fun _ => sm_good k, fun z => absurd z (by omega)⟩
    | succ f ih =>
      intro b hb
      have nx : ∀ v, v = (if Ki b = j then wid D b else 0) → tX12_term_87 G (d + 2) K i q (He j) (zsum (fun b => if Ki b = j then wid D b else 0) b + v) ((b : Int) + 1) h := fun v ev => by
        subst ev
        exact ih (b + 1) (by omega)
      have al := nm.2 (He j) b hh.1.1 hh.1.2 (by omega) (by omega)
      rw [hh.2] at al
      refine bX12_term_87 ⟨hi, ?_⟩
      rw [hr.1.2.2.2.2]
      refine ⟨⟨by omega, by omega⟩, ⟨by omega, by omega⟩, fun z => absurd z (by omega), fun _ => sm_isLike hD hi hr hq hh.1 (by omega) (fun x hx => ⟨fun z => nx 0 ?_, fun z => sm_blockEnd hD hi hr (by omega) ⟨⟨by omega, by omega⟩, ?_⟩⟩)⟩
      · rw [if_neg (fun w => by
          have := hx.mpr (al.mpr w.symm)
          rw [z] at this
          cases this)]
      · rw [hr.2.2.2 b (by omega) (by omega)]
        exact nx _ (by rw [if_pos (al.mp (hx.mp z)).symm]; rfl)
  have := go (D 0 4 - He j).toNat (He j).toNat (by omega)
  rw [z0, show (((He j).toNat : Nat) : Int) = He j by omega] at this
  exact this
theorem sm_term153 {K : Int → zH → Prop} {i q b : Int} (hD : mOK D) (hi : 0 ≤ i ∧ i < 14) (hr : mRep h i D) (hq : zR q) (hb : 0 ≤ b ∧ b < D 0 4) (k : K (zsum (eW D q b) (D 0 2).toNat) (zup (zup h 466 1 0) 466 2 (-1))) : tX12_term_153 G (d + 2) K i q b 0 0 h := by
  have hB := mO_bl hD
  have hE := mO_ed hD
  have hS := mO_st hD
  have go : ∀ (f e : Nat), (e : Int) + f = D 0 2 → tX12_term_153 G (d + 2) K i q b (zsum (eW D q b) e) e h := by
    intro f
    induction f with
    | zero =>
      intro e he
      refine bX12_term_153 ⟨hi, ?_⟩
      rw [hr.1.2.2.1]
      rw [show (D 0 2).toNat = e by omega] at k
      exact ⟨⟨by omega, by omega⟩, ⟨by omega, by omega⟩, fun _ => sm_good k, fun z => absurd z (by omega)⟩
    | succ f ih =>
      intro e he
      have oe := mO_e hD (e := e) (by omega) (by omega)
      have nx : ∀ v, v = eW D q b e → tX12_term_153 G (d + 2) K i q b (zsum (eW D q b) e + v) ((e : Int) + 1) h := fun v ev => by
        subst ev
        exact ih (e + 1) (by omega)
      refine bX12_term_153 ⟨hi, ?_⟩
      rw [hr.1.2.2.1, (hr.2.1 e (by omega) (by omega)).1]
      refine ⟨⟨by omega, by omega⟩, ⟨by omega, by omega⟩, fun z => absurd z (by omega), fun _ => ⟨⟨by omega, by omega⟩, ⟨by omega, by omega⟩, hq, fun z => nx 0 ?_, fun z => sm_edgeHas hD hi hr (by omega) (by omega) ⟨fun y => nx 0 ?_, fun y => nx 1 (by unfold eW; rw [if_pos ⟨z, y⟩])⟩⟩⟩
      · unfold eW
        rw [if_neg (fun w => z w.1)]
      · unfold eW
        rw [if_neg (fun w => absurd (y.symm.trans w.2) (by decide))]
  exact go (D 0 2).toNat 0 (by omega)
end DB
section DC
variable {G : zG} {d : Nat} {h : zH}
theorem q_stateM {K : Bool → zH → Prop} {H : zH} {m i : Int} (hI : Inv h) (hH : bK h H) (hm : zR m) (hi : zR i) (k1 : 0 ≤ m ∧ m < h 0 13 → 0 ≤ i ∧ i < h 493 m → K true H) (k2 : ¬ ((0 ≤ m ∧ m < h 0 13) ∧ (0 ≤ i ∧ i < h 493 m)) → K false H) : zCb G (d + 1) mX12_isState [vr 12 466, vi m, vi i] H K := by
  refine eX12_isState (bX12_isState_0 (q_machB hI hH hm (fun q => ⟨fun z => (by cases z), fun _ => ⟨hi, fun z => k2 (fun y => by omega), fun z => ⟨by have := iM_n hI; omega, hi, ?_⟩⟩⟩) (fun q => ⟨fun _ => k2 (fun y => q y.1), fun z => (by cases z)⟩)))
  obtain ⟨m10, mc, D, o1, o2, o3, o4⟩ := iM_get hI q.1 q.2
  have hS := mO_st o1
  have e4 : H 493 = h 493 := hH.1 493 (by unfold kp; omega)
  rw [e4]
  have e5 := o3.1.1
  exact ⟨⟨by omega, by omega⟩, fun y => k2 (fun y2 => by omega), fun y => k1 q ⟨by omega, by omega⟩⟩
theorem c_terms {m i : Int} (hI : Inv h) (hm : zR m) (hi : zR i) : twI G (d + 7) mX11_terms mX12_terms [vi m, vi i] h := by
  have b0 : ∀ w, bK h (zup (zup h 0 14 w) 466 0 0) := fun w => bK_w (fun _ _ => rfl) rfl
  refine eX11_terms (bX11_terms_0 (q_mach hI hm (fun q => ⟨fun z => (by cases z), fun _ => ?_⟩) (fun q => ⟨fun _ => sp_refused (eX12_terms (bX12_terms_0 (q_stateM hI (b0 1) hm hi (fun z _ => absurd z q) (fun _ => ⟨fun z => (by cases z), fun _ => sm_refused ⟨zR_m1, rfl, Inv_w hI (by omega)⟩⟩)))), fun z => (by cases z)⟩)))
  obtain ⟨m10, mc, o1, o2, o3, o4⟩ := iM_d hI q.1 q.2
  have hS := mO_st o1
  have hB := mO_bl o1
  have e5 := o3.1.1
  refine ⟨m10, ?_⟩
  rw [o2.1.1]
  refine sp_isIn hi ⟨by omega, by omega⟩ ⟨fun q2 => ⟨m10, ?_⟩, fun q2 => sp_refused (eX12_terms (bX12_terms_0 (q_stateM hI (b0 1) hm hi (fun _ z => absurd (of_decide_eq_false q2) (by omega)) (fun _ => ⟨fun z => (by cases z), fun _ => sm_refused ⟨zR_m1, rfl, Inv_w hI (by omega)⟩⟩))))⟩
  have q2 := of_decide_eq_true q2
  refine sp_group mc o1 o2 q2 (fun h1 He f1 nm => sp_granted ?_)
  have C0 := nm.1.1
  have bb : bK h (zup (zup h1 0 14 0) 466 0 0) := bK_w (fun a ka => f1 a (by unfold kp at ka; omega)) (f1 466 (by decide))
  refine eX12_terms (bX12_terms_0 (q_stateM hI bb hm hi (fun _ _ => ⟨fun _ => ?_, fun z => (by cases z)⟩) (fun z => absurd ⟨q, by omega⟩ z)))
  exact sm_terms25 o1 (by omega) (mRep_b bb o3) hi nm ⟨⟨by omega, by omega⟩, rfl, Inv_k hI (by omega) (fun a ka => f1 a (by unfold kp at ka; omega)) (f1 0 (by decide)) (f1 466 (by decide)) (mK_refl _)⟩
theorem c_term {m i j u : Int} (hI : Inv h) (hm : zR m) (hi : zR i) (hj : zR j) (hu : zR u) : twI G (d + 7) mX11_term mX12_term [vi m, vi i, vi j, vi u] h := by
  have b0 : ∀ w, bK h (zup (zup h 0 14 w) 466 0 0) := fun w => bK_w (fun _ _ => rfl) rfl
  refine eX11_term (bX11_term_0 (q_mach hI hm (fun q => ⟨fun z => (by cases z), fun _ => ?_⟩) (fun q => ⟨fun _ => sp_refused (eX12_term (bX12_term_0 (q_stateM hI (b0 1) hm hi (fun z _ => absurd z q) (fun _ => ⟨fun _ => sm_refused ⟨zR_m1, rfl, Inv_w hI (by omega)⟩, fun z => (by cases z)⟩)))), fun z => (by cases z)⟩)))
  obtain ⟨m10, mc, o1, o2, o3, o4⟩ := iM_d hI q.1 q.2
  have hS := mO_st o1
  have hB := mO_bl o1
  have hE := mO_ed o1
  have e5 := o3.1.1
  refine ⟨m10, ?_⟩
  rw [o2.1.1]
  refine sp_isIn hi ⟨by omega, by omega⟩ ⟨fun q2 => sp_refused (eX12_term (bX12_term_0 (q_stateM hI (b0 1) hm hi (fun _ z => absurd (of_decide_eq_false q2) (by omega)) (fun _ => ⟨fun _ => sm_refused ⟨zR_m1, rfl, Inv_w hI (by omega)⟩, fun z => (by cases z)⟩)))), fun q2 => sp_isIn hu ⟨by decide, by decide⟩ ⟨fun q3 => ⟨m10, ?_⟩, fun q3 => sp_refused (eX12_term (bX12_term_0 (q_stateM hI (b0 1) hm hi (fun _ _ => ⟨fun z => (by cases z), fun _ => sm_in hu ⟨by decide, by decide⟩ ⟨by decide, by decide⟩ ⟨fun z => absurd (of_decide_eq_true z) (by have := of_decide_eq_false q3; omega), fun _ => sm_refused ⟨zR_m1, rfl, Inv_w hI (by omega)⟩⟩⟩) (fun z => absurd ⟨q, by have := of_decide_eq_true q2; omega⟩ z))))⟩⟩
  have q2 := of_decide_eq_true q2
  have q3 := of_decide_eq_true q3
  refine sp_group mc o1 o2 q2 (fun h1 He f1 nm => ?_)
  have C0 := nm.1.1
  have bb : ∀ w, bK h (zup (zup h1 0 14 w) 466 0 0) := fun w => bK_w (fun a ka => f1 a (by unfold kp at ka; omega)) (f1 466 (by decide))
  have Ik : ∀ w, 0 ≤ w ∧ w ≤ 5 ∧ ¬ w = 4 → Inv (zup (zup (zup (zup h1 0 14 w) 466 0 0) 466 1 w) 466 2 (-1)) := fun w hw => Inv_k hI hw (fun a ka => f1 a (by unfold kp at ka; omega)) (f1 0 (by decide)) (f1 466 (by decide)) (mK_refl _)
  have mc2 := mc
  unfold mcell at mc2
  have cr1 : cRep h1 (h 3 m) (dOf h m) := cRep_fr (fun a x y => f1 a (by omega)) o2
  -- the model, once it looks for the minterm
  have two : ∀ {x w : Int}, zCi G (d + 6) mX12_termAt [vr 12 466, vi m, vi i, vi j] (zup (zup h1 0 14 w) 466 0 0) (fun x7 h8 => zR x7 ∧ (¬ x7 = (-1) → zR u ∧ (¬ u = 0 → zR u ∧ (¬ u = 1 → tX12_term_153 G (d + 6) (fun y h4 => zR x ∧ x = y ∧ Inv h4) m i x7 0 0 h8) ∧ (u = 1 → tX12_term_87 G (d + 6) (fun y h4 => zR x ∧ x = y ∧ Inv h4) m i x7 0 x7 h8)) ∧ (u = 0 → ((0 : Int) ≤ ((m * 128) + x7) ∧ ((m * 128) + x7) < 1792) ∧ zCi G (d + 6) mX12_good [vr 12 466, vi (h8 497 ((m * 128) + x7))] h8 (fun x9 h10 => zR x ∧ x = x9 ∧ Inv h10))) ∧ (x7 = (-1) → zCi G (d + 6) mX12_refused [vr 12 466, vi 1] h8 (fun x11 h12 => zR x ∧ x = x11 ∧ Inv h12))) → zCi G (d + 7) mX12_term [vr 12 466, vi m, vi i, vi j, vi u] (zup h1 0 14 w) (fun y h4 => zR x ∧ x = y ∧ Inv h4) := fun {x w} kk => eX12_term (bX12_term_0 (q_stateM hI (bb w) hm hi (fun _ _ => ⟨fun z => (by cases z), fun _ => sm_in hu ⟨by decide, by decide⟩ ⟨by decide, by decide⟩ ⟨fun _ => kk, fun z => absurd (of_decide_eq_false z) (by omega)⟩⟩) (fun z => absurd ⟨q, by omega⟩ z)))
  refine sp_isIn hj ⟨by omega, by omega⟩ ⟨fun q4 => ⟨m10, ?_⟩, fun q4 => sp_refused (two (sm_termAt o1 (by omega) (mRep_b (bb 1) o3) hi hj nm (fun z => absurd z (of_decide_eq_false q4)) (fun _ => ⟨zR_m1, fun z => absurd rfl z, fun _ => sm_refused ⟨zR_m1, rfl, Ik 1 (by omega)⟩⟩)))⟩
  have q4 := of_decide_eq_true q4
  have hh := (nm.1.2.2.1 j q4.1 q4.2).1
  have s7 := mO_s o1 hh.1 hh.2
  rw [f1 3 (by decide)]
  have mid : ∀ x, zR x → (u = 0 → x = dOf h m 7 (He j)) → (u = 1 → x = zsum (fun b => if h1 245 b = j then wid (dOf h m) b else 0) (dOf h m 0 4).toNat) → (u = 2 → x = zsum (eW (dOf h m) i (He j)) (dOf h m 0 2).toNat) → zCi G (d + 7) mX12_term [vr 12 466, vi m, vi i, vi j, vi u] (zup h1 0 14 0) (fun y h4 => zR x ∧ x = y ∧ Inv h4) := fun x hx x0 x1 x2 => by
    refine two (sm_termAt o1 (by omega) (mRep_b (bb 0) o3) hi hj nm (fun _ => ⟨⟨by omega, by omega⟩, fun _ => ⟨hu, fun z => ⟨hu, fun z2 => sm_term153 o1 (by omega) (mRep_b (bb 0) o3) hi hh ⟨hx, x2 (by omega), Ik 0 (by omega)⟩, fun z2 => sm_term87 o1 (by omega) (mRep_b (bb 0) o3) hi nm q4 ⟨hx, x1 z2, Ik 0 (by omega)⟩⟩, fun z => ⟨⟨by omega, by omega⟩, ?_⟩⟩, fun z => absurd z (by omega)⟩) (fun z => absurd q4 z))
    rw [(mRep_b (bb 0) o3).2.2.2 _ hh.1 hh.2]
    exact sm_good ⟨hx, x0 z, Ik 0 (by omega)⟩
  refine sp_leaderOf o1 cr1 nm q4 ⟨hu, fun z => ⟨m10, by omega, ?_⟩, fun z => ⟨m10, ?_⟩, fun z => ⟨m10, ?_⟩⟩
  · rw [f1 3 (by decide), cr1.2.2.2 _ hh.1 hh.2]
    exact sp_granted (mid _ ⟨by omega, by omega⟩ (fun _ => rfl) (fun y => by omega) (fun y => by omega))
  · rw [f1 3 (by decide)]
    refine sp_amountOf o1 cr1 nm q4 (sp_granted (mid _ ?_ (fun y => by omega) (fun _ => rfl) (fun y => by omega)))
    have r := wsum_all o1 (f := fun b => if h1 245 b = j then 1 else 0) (W := 1) (by decide) (fun b _ _ => by
      by_cases y : h1 245 b = j
      · show 0 ≤ (if h1 245 b = j then (1 : Int) else 0) ∧ (if h1 245 b = j then (1 : Int) else 0) ≤ 1
        rw [if_pos y]
        decide
      · show 0 ≤ (if h1 245 b = j then (1 : Int) else 0) ∧ (if h1 245 b = j then (1 : Int) else 0) ≤ 1
        rw [if_neg y]
        decide) (n := (dOf h m 0 4).toNat) (by omega)
    have e : zsum (fun b => if h1 245 b = j then wid (dOf h m) b else 0) (dOf h m 0 4).toNat = zsum (fun b => wid (dOf h m) b * (if h1 245 b = j then 1 else 0)) (dOf h m 0 4).toNat := zsum_congr (fun b _ _ => by
      by_cases y : h1 245 b = j
      · rw [if_pos y, if_pos y, Int.mul_one]
      · rw [if_neg y, if_neg y, Int.mul_zero])
    rw [e]
    exact ⟨by omega, by omega⟩
  · rw [f1 3 (by decide)]
    refine sp_edgesWith o1 cr1 hi hh (sp_granted (mid _ ?_ (fun y => by omega) (fun y => by omega) (fun _ => rfl)))
    have := zsum_01 (f := eW (dOf h m) i (He j)) (n := (dOf h m 0 2).toNat) (fun e _ _ => by
      unfold eW
      by_cases y : dOf h m 1 e = i ∧ dEH (dOf h m) e (He j) = true
      · rw [if_pos y]
        decide
      · rw [if_neg y]
        decide)
    exact ⟨by omega, by omega⟩
end DC
