/-! ===== cases: edge, edgeRange ===== -/
section CI
variable {G : zG} {d : Nat} {h : zH}
theorem q_edgeM {K : Bool → zH → Prop} {h1 : zH} {m i w : Int} (hI : Inv h) (f : h1 466 = h 466) (f2 : ∀ a, 493 ≤ a → a ≤ 504 → h1 a = h a) (hm : zR m) (hi : zR i) (k1 : 0 ≤ m ∧ m < h 0 13 → 0 ≤ i ∧ i < h 494 m → K true (zup (zup h1 0 14 w) 466 0 0)) (k2 : ¬ ((0 ≤ m ∧ m < h 0 13) ∧ (0 ≤ i ∧ i < h 494 m)) → K false (zup (zup h1 0 14 w) 466 0 0)) : zCb G (d + 1) mX12_isEdge [vr 12 466, vi m, vi i] (zup (zup h1 0 14 w) 466 0 0) K := by
  obtain ⟨n1, n2, n3⟩ := iM_n hI
  refine eX12_isEdge (bX12_isEdge_0 (q_machM hI f hm (fun q => ⟨fun z => (by cases z), fun _ => ⟨hi, fun z => k2 (fun y => by omega), fun z => ⟨by omega, hi, ?_⟩⟩⟩) (fun q => ⟨fun _ => k2 (fun y => q y.1), fun z => (by cases z)⟩)))
  obtain ⟨m10, mc, D, o1, o2, o3, o4⟩ := iM_get hI q.1 q.2
  have hE := mO_ed o1
  have e4 : (zup (zup h1 0 14 w) 466 0 0) 494 m = h 494 m := by rw [zup_ne (by decide), zup_ne (by decide), f2 494 (by decide) (by decide)]
  rw [e4]
  have e5 := o3.1.2.2.1
  exact ⟨⟨by omega, by omega⟩, fun y => k2 (fun y2 => by omega), fun y => k1 q ⟨by omega, by omega⟩⟩
theorem c_edge {m i u : Int} (hI : Inv h) (hm : zR m) (hi : zR i) (hu : zR u) : twI G (d + 5) mX11_edge mX12_edge [vi m, vi i, vi u] h := by
  refine eX11_edge (bX11_edge_0 (q_mach hI hm (fun q => ⟨fun z => (by cases z), fun _ => ?_⟩) (fun q => ⟨fun _ => sp_refused (eX12_edge (bX12_edge_0 (q_edgeM hI rfl (fun a _ _ => rfl) hm hi (fun z _ => absurd z q) (fun _ => ⟨fun _ => sm_refused ⟨zR_m1, rfl, Inv_w hI (by omega)⟩, fun z => (by cases z)⟩)))), fun z => (by cases z)⟩)))
  obtain ⟨m10, mc, D, o1, o2, o3, o4⟩ := iM_get hI q.1 q.2
  have hE := mO_ed o1
  have hS := mO_st o1
  have hB := mO_bl o1
  have e5 := o3.1.2.2.1
  refine ⟨m10, ?_⟩
  rw [o2.1.2.2.1]
  refine sp_isIn hi ⟨by omega, by omega⟩ ⟨fun q2 => sp_refused (eX12_edge (bX12_edge_0 (q_edgeM hI rfl (fun a _ _ => rfl) hm hi (fun _ z => absurd (of_decide_eq_false q2) (by omega)) (fun _ => ⟨fun _ => sm_refused ⟨zR_m1, rfl, Inv_w hI (by omega)⟩, fun z => (by cases z)⟩)))), fun q2 => sp_isIn hu ⟨by decide, by decide⟩ ⟨fun q3 => ⟨m10, hu, ?_⟩, fun q3 => sp_refused (eX12_edge (bX12_edge_0 (q_edgeM hI rfl (fun a _ _ => rfl) hm hi (fun _ _ => ⟨fun z => (by cases z), fun _ => sm_in hu ⟨by decide, by decide⟩ ⟨by decide, by decide⟩ ⟨fun z => absurd (of_decide_eq_true z) (by have := of_decide_eq_false q3; omega), fun _ => sm_refused ⟨zR_m1, rfl, Inv_w hI (by omega)⟩⟩⟩) (fun z => absurd ⟨q, by have := of_decide_eq_true q2; omega⟩ z))))⟩⟩
  have q2 := of_decide_eq_true q2
  have q3 := of_decide_eq_true q3
  have ee := mO_e o1 q2.1 q2.2
  have cc := o2.2.1 i q2.1 q2.2
  have r := mRep_2 (w := 0) (h1 := h) (fun a _ _ => rfl) o3
  have rr := r.2.1 i q2.1 q2.2
  -- the model, once the class has granted x
  have two : ∀ x, zR x → (u = 0 → x = D 1 i) → (u = 1 → x = D 2 i) → (u = 2 → x = zsum (dRn D i) (D 0 4).toNat) → (u = 3 → x = zsum (dLt D i) (D 0 4).toNat) → zCi G (d + 5) mX12_edge [vr 12 466, vi m, vi i, vi u] (zup h 0 14 0) (fun y h4 => zR x ∧ x = y ∧ Inv h4) := fun x hx x0 x1 x2 x3 => by
    refine eX12_edge (bX12_edge_0 (q_edgeM hI rfl (fun a _ _ => rfl) hm hi (fun _ _ => ⟨fun z => (by cases z), fun _ => sm_in hu ⟨by decide, by decide⟩ ⟨by decide, by decide⟩ ⟨fun _ => ⟨hu, fun w => sm_edgeLetters o1 (by omega) r q2 (sm_good ⟨hx, x3 (by omega), Inv_w hI (by omega)⟩), fun w => ⟨⟨by omega, by omega⟩, ?_⟩, fun w => ⟨⟨by omega, by omega⟩, ?_⟩, fun w => sm_edgeRanges o1 (by omega) r q2 (sm_good ⟨hx, x2 w, Inv_w hI (by omega)⟩)⟩, fun z => absurd (of_decide_eq_false z) (by omega)⟩⟩) (fun z => absurd ⟨q, by omega⟩ z)))
    · rw [rr.1]
      exact sm_good ⟨hx, x0 w, Inv_w hI (by omega)⟩
    · rw [rr.2.1]
      exact sm_good ⟨hx, x1 w, Inv_w hI (by omega)⟩
  refine ⟨fun w => sp_edgeLetters o1 o2 q2 (sp_granted (two _ ?_ ?_ ?_ ?_ ?_)), fun w => ⟨⟨by omega, by omega⟩, ?_⟩, fun w => ⟨⟨by omega, by omega⟩, ?_⟩, fun w => sp_edgeRanges o1 o2 q2 (sp_granted (two _ ?_ ?_ ?_ ?_ ?_))⟩
  · have z := dLt_sum o1 i (D 0 4).toNat (by omega)
    have z2 := dEnd_ok o1 (b := D 0 4 - 1) (by omega) (by omega)
    rw [show (((D 0 4).toNat : Nat) : Int) - 1 = D 0 4 - 1 by omega] at z
    exact ⟨by omega, by omega⟩
  · intro z
    omega
  · intro z
    omega
  · intro z
    omega
  · exact fun _ => rfl
  · rw [cc.1]
    exact sp_granted (two _ ⟨by omega, by omega⟩ (fun _ => rfl) (fun z => by omega) (fun z => by omega) (fun z => by omega))
  · rw [cc.2.1]
    exact sp_granted (two _ ⟨by omega, by omega⟩ (fun z => by omega) (fun _ => rfl) (fun z => by omega) (fun z => by omega))
  · have z := zsum_01 (f := dRn D i) (n := (D 0 4).toNat) (fun j _ _ => dRn_01 i j)
    exact ⟨by omega, by omega⟩
  · intro z
    omega
  · intro z
    omega
  · exact fun _ => rfl
  · intro z
    omega
theorem c_edgeRange {m i j : Int} {b : Bool} (hI : Inv h) (hm : zR m) (hi : zR i) (hj : zR j) : twI G (d + 5) mX11_edgeRange mX12_edgeRange [vi m, vi i, vi j, vi (bi b)] h := by
  have no1 : ∀ {H : zH} {x : Int}, x = -1 → Inv (zup (zup H 466 1 1) 466 2 (-1)) → tX12_edgeRange_18 G (d + 4) (fun y h4 => zR x ∧ x = y ∧ Inv h4) H := fun ex hI' => bX12_edgeRange_18 (sm_refused ⟨by rw [ex]; exact zR_m1, ex, hI'⟩)
  refine eX11_edgeRange (bX11_edgeRange_0 (q_mach hI hm (fun q => ⟨fun z => (by cases z), fun _ => ?_⟩) (fun q => ⟨fun _ => sp_refused (eX12_edgeRange (bX12_edgeRange_0 (q_edgeM hI rfl (fun a _ _ => rfl) hm hi (fun z _ => absurd z q) (fun _ => ⟨fun _ => no1 rfl (Inv_w hI (by omega)), fun z => (by cases z)⟩)))), fun z => (by cases z)⟩)))
  obtain ⟨m10, mc, D, o1, o2, o3, o4⟩ := iM_get hI q.1 q.2
  have hE := mO_ed o1
  have hB := mO_bl o1
  have e5 := o3.1.2.2.1
  refine ⟨m10, ?_⟩
  rw [o2.1.2.2.1]
  refine sp_isIn hi ⟨by omega, by omega⟩ ⟨fun q2 => sp_refused (eX12_edgeRange (bX12_edgeRange_0 (q_edgeM hI rfl (fun a _ _ => rfl) hm hi (fun _ z => absurd (of_decide_eq_false q2) (by omega)) (fun _ => ⟨fun _ => no1 rfl (Inv_w hI (by omega)), fun z => (by cases z)⟩)))), fun q2 => ⟨m10, ?_⟩⟩
  have q2 := of_decide_eq_true q2
  have tot := zsum_01 (f := dRn D i) (n := (D 0 4).toNat) (fun j _ _ => dRn_01 i j)
  have mod : ∀ {x w : Int} , (∀ r, mRep (zup (zup h 0 14 w) 466 0 0) m r → True) → (0 ≤ j → tX12_edgeRange_30 G (d + 4) (fun y h4 => zR x ∧ x = y ∧ Inv h4) m i j b (-1) 0 (zup (zup h 0 14 w) 466 0 0)) → (¬ 0 ≤ j → tX12_edgeRange_18 G (d + 4) (fun y h4 => zR x ∧ x = y ∧ Inv h4) (zup (zup h 0 14 w) 466 0 0)) → zCi G (d + 5) mX12_edgeRange [vr 12 466, vi m, vi i, vi j, vi (bi b)] (zup h 0 14 w) (fun y h4 => zR x ∧ x = y ∧ Inv h4) := fun _ a1 a2 => eX12_edgeRange (bX12_edgeRange_0 (q_edgeM hI rfl (fun a _ _ => rfl) hm hi (fun _ _ => ⟨fun z => (by cases z), fun _ => ⟨hj, a1, a2⟩⟩) (fun z => absurd ⟨q, by omega⟩ z)))
  refine sp_edgeRanges o1 o2 q2 (sp_isIn hj ⟨by omega, by omega⟩ ⟨fun q3 => ⟨m10, ?_⟩, fun q3 => sp_refused (mod (fun _ _ => trivial) (fun j0 => ?_) (fun _ => no1 rfl (Inv_w hI (by omega))))⟩)
  · have q3 := of_decide_eq_true q3
    refine sp_edgeBound o1 o2 q2 (by omega) (fun bb v b0 b1 hv hm2 => sp_granted (mod (fun _ _ => trivial) (fun j0 => ?_) (fun z => absurd q3.1 z))) (fun no => ?_)
    · have s7 := mO_s o1 b0 b1
      have s8 := dEnd_ok o1 b0 b1
      have hvR : zR v := by
        cases hb : b
        · rw [(hv.2.2.1 hb).2]
          exact ⟨by omega, by omega⟩
        · rw [(hv.2.2.2 hb).2]
          exact ⟨by omega, by omega⟩
      refine sm_edgeRange30 o1 (by omega) (mRep_2 (w := 0) (h1 := h) (fun a _ _ => rfl) o3) q2 j0 hj (fun b2 v2 c0 c1 hv2 hm3 => ⟨hvR, ?_, Inv_w hI (by omega)⟩) (fun no => absurd hv (no bb v b0 b1))
      have eb : b2 = bb := by
        rcases Int.lt_trichotomy b2 bb with z | z | z
        · exact absurd hv2 (hm2 b2 v2 c0 z)
        · exact z
        · exact absurd hv (hm3 bb v b0 z)
      subst eb
      cases hb : b
      · rw [(hv.2.2.1 hb).2, (hv2.2.2.1 hb).2]
      · rw [(hv.2.2.2 hb).2, (hv2.2.2.2 hb).2]
    · have := eb_none (D := D) (e := i) (j := j) (g := b) (D 0 4).toNat 0 0 (by omega) (by omega) rfl (Or.inl q3.1) no
      omega
  · have q3 := of_decide_eq_false q3
    refine sm_edgeRange30 o1 (by omega) (mRep_2 (w := 1) (h1 := h) (fun a _ _ => rfl) o3) q2 j0 hj (fun b2 v2 c0 c1 hv2 hm3 => ?_) (fun _ => ⟨zR_m1, rfl, Inv_w hI (by omega)⟩)
    have := eb_some c0 c1 hv2
    exact absurd ⟨j0, this⟩ q3
end CI
