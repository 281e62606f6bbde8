/-! ===== drafts begin; a whole machine is copied ===== -/
theorem ctS_cov {h : zH} {ov : Int} {P : Int → Prop} (c : ctS h ov P) (Dl : List Int) (hl : Dl.length ≤ 256) (hD : ∀ z, z = 0 ∨ (P z ∧ 0 ≤ z ∧ z < 65536) → z ∈ Dl) : dS (h 10) (h 4 11) ∧ h 4 12 = ov ∧ ∀ z, (∃ b, (0 ≤ b ∧ b < h 4 11) ∧ h 10 b = z) ↔ z = 0 ∨ (P z ∧ 0 ≤ z ∧ z < 65536) := by
  obtain ⟨a, b | ⟨b1, b2⟩⟩ := c
  · exact ⟨a, b.1, b.2⟩
  · have := b2 Dl hD
    omega
theorem ctS_mv {h h' : zH} {ov : Int} (c : ctS h ov (fun _ => False)) (e1 : h' 10 = h 10) (e2 : h' 4 11 = h 4 11) : ctS h' (h' 4 12) (fun _ => False) := by
  obtain ⟨a, b, e⟩ := ctS_cov c [0] (by decide) (fun z q => q.elim (fun q => by rw [q]; exact List.mem_singleton.mpr rfl) (fun q => q.1.elim))
  refine ⟨by rw [e1, e2]; exact a, Or.inl ⟨rfl, by rw [e1, e2]; exact e⟩⟩
theorem drC_b {h : zH} {n : Int} (e7 : h 4 7 = n) (e8 : h 4 8 = 0) (e9 : h 4 9 = 0) (e10 : h 4 10 = 0) (c : ctS h (if n ≤ 40 then 0 else 1) (fun _ => False)) : drC h n 0 [] [] := by
  obtain ⟨a, b, e⟩ := ctS_cov c [0] (by decide) (fun z q => q.elim (fun q => by rw [q]; exact List.mem_singleton.mpr rfl) (fun q => q.1.elim))
  have ft : fits n [] [] ↔ n ≤ 40 := ⟨fun q => q.1, fun q => ⟨q, by decide, by decide⟩⟩
  refine ⟨⟨e7, e8⟩, a, ⟨by omega, fun e a b => absurd b (by omega)⟩, by omega, fun _ => ⟨by rw [e9]; rfl, fun e a b => absurd b (by simp; omega)⟩, fun _ => ⟨by rw [e10]; rfl, fun e a b => absurd b (by simp; omega)⟩, fun z => absurd z (by decide), fun z => absurd z (by decide), fun z => ?_, fun z => ?_⟩
  · rw [b, if_pos (ft.mp z)]
  · rw [b, if_neg (fun y => z (ft.mpr y))]
theorem drC_fr {h h' : zH} {n en : Int} {LE : List eT} {LF : List fT} (f : ∀ a, 4 ≤ a → a ≤ 10 → h' a = h a) (k : drC h n en LE LF) : drC h' n en LE LF := by
  have e4 := f 4 (by decide) (by decide)
  have e5 := f 5 (by decide) (by decide)
  have e6 := f 6 (by decide) (by decide)
  have e7 := f 7 (by decide) (by decide)
  have e8 := f 8 (by decide) (by decide)
  have e9 := f 9 (by decide) (by decide)
  have e10 := f 10 (by decide) (by decide)
  unfold drC at k ⊢
  rw [e4, e5, e6, e8, e9, e10, mk_e e7]
  exact k
theorem drC_cut {h h' : zH} {n en : Int} {LF : List fT} (k : drC h n en [] LF) (f1 : ∀ a, ¬ a = 4 → ¬ a = 10 → h' a = h a) (f2 : ∀ j, ¬ j = 11 → ¬ j = 12 → h' 4 j = h 4 j) (s : dS (h' 10) (h' 4 11)) (o : h' 4 12 = h 4 12) : drC h' n en [] LF := by
  obtain ⟨k1, k2, k3, k4, k5, k6, k7, k8, k9, k10⟩ := k
  unfold drC
  rw [f2 7 (by decide) (by decide), f2 8 (by decide) (by decide), f2 9 (by decide) (by decide), f2 10 (by decide) (by decide), o, f1 5 (by decide) (by decide), f1 6 (by decide) (by decide), f1 8 (by decide) (by decide), f1 9 (by decide) (by decide)]
  exact ⟨k1, s, k3, k4, fun z => ⟨(k5 z).1, fun e a b => absurd b (by simp; omega)⟩, k6, k7, k8, k9, k10⟩
theorem drC_en {h : zH} {n en x : Int} {LE : List eT} {LF : List fT} (k : drC h n en LE LF) : drC (zup h 4 8 x) n x LE LF := by
  obtain ⟨k1, k2, k3, k4, k5, k6, k7, k8, k9, k10⟩ := k
  have o : ∀ a, ¬ a = 4 → (zup h 4 8 x) a = h a := fun a p => zup_ne p
  have o4 : ∀ j, ¬ j = 8 → (zup h 4 8 x) 4 j = h 4 j := fun j p => zup_ns p
  unfold drC
  rw [o 5 (by decide), o 6 (by decide), mk_e (o 7 (by decide)), o 8 (by decide), o 9 (by decide), o 10 (by decide), o4 7 (by decide), o4 9 (by decide), o4 10 (by decide), o4 11 (by decide), o4 12 (by decide), zup_eq]
  exact ⟨⟨k1.1, rfl⟩, k2, k3, k4, k5, k6, k7, k8, k9, k10⟩
theorem lBk_en {h : zH} {x : Int} {LE : List eT} (k : lBk h LE) : lBk (zup h 4 8 x) LE := by
  unfold lBk at k ⊢
  rw [zup_ns (by decide), zup_ne (by decide)]
  exact k
theorem drM_en {h : zH} {n x : Int} {LE : List eT} {LF : List fT} (k : drM h n LE LF) : drM (zup h 466 50 x) n LE LF := by
  have o : ∀ a, ¬ a = 466 → (zup h 466 50 x) a = h a := fun a p => zup_ne p
  have o4 : ∀ j, ¬ j = 50 → (zup h 466 50 x) 466 j = h 466 j := fun j p => zup_ns p
  unfold drM at k ⊢
  rw [o 486 (by decide), o 487 (by decide), o 488 (by decide), o 489 (by decide), o 490 (by decide), o 491 (by decide), o 492 (by decide), o4 47 (by decide), o4 48 (by decide), o4 49 (by decide), o4 51 (by decide)]
  exact k
def fr11 (h h' : zH) : Prop := ∀ a, ¬ (4 ≤ a ∧ a ≤ 11) → h' a = h a
theorem fr11_t {h1 h2 h3 : zH} (a : fr11 h1 h2) (b : fr11 h2 h3) : fr11 h1 h3 := fun x p => (b x p).trans (a x p)
theorem fr11_d {h1 h2 : zH} (a : dF h1 h2) : fr11 h1 h2 := fun x p => a.1 x (by omega)
theorem fr11_c {h h' D : zH} {m : Int} (mc : mcell m) (f : fr11 h h') (r : cRep h m D) : cRep h' m D := cRep_fr (fun a x y => f a (by unfold mcell at mc; omega)) r
def sts (D : zH) : List Int := (List.range (D 0 4).toNat).map (fun i : Nat => D 7 (i : Int))
theorem sts_in {D : zH} {b : Int} (b0 : 0 ≤ b) (b1 : b < D 0 4) : D 7 b ∈ sts D := List.mem_map.mpr ⟨b.toNat, List.mem_range.mpr (by omega), by rw [show ((b.toNat : Nat) : Int) = b by omega]⟩
theorem sts_len {D : zH} (hD : mOK D) : (sts D).length ≤ 128 := by
  have := mO_bl hD
  unfold sts
  rw [List.length_map, List.length_range]
  omega
section DC
variable {G : zG} {d : Nat} {h D : zH} {n en : Int} {LE : List eT} {LF : List fT}
theorem sp_copyWhole {K : zH → Prop} {m s : Int} {bk : Bool} (mc : mcell m) (hD : mOK D) (hr : cRep h m D) (hs : 0 ≤ s ∧ s ≤ 40) (k : drC h n en [] LF) (c : ctS h (h 4 12) (fun _ => False)) (kk : ∀ h' : zH, fr11 h h' → drC h' n en (eL D s bk (pX D) (D 0 2).toNat) (LF ++ fL D s bk (D 0 3).toNat) → lBk h' (eL D s bk (pX D) (D 0 2).toNat) → K h') : zCv G (d + 3) mX2_copyWhole [vr 2 4, vr 4 m, vi s, vi (bi bk)] h K := by
  refine eX2_copyWhole (bX2_copyWhole_0 (sp_cutLike (d := d + 1) mc hD hr (by omega) c (fun h2 f1 f2 c2 => ?_)))
  obtain ⟨s1, s2, s3⟩ := ctS_cov c2 (0 :: sts D) (by have := sts_len hD; rw [List.length_cons]; omega) (fun z q => by
    rcases q with q | ⟨q | ⟨b, hb, q⟩ | q, q2⟩
    · rw [q]
      exact List.mem_cons_self
    · exact q.elim
    · rw [q, Int.add_zero]
      exact List.mem_cons_of_mem _ (sts_in hb.1 hb.2)
    · omega)
  have d2 := drC_cut k f1 f2 s1 s2
  have r2 : cRep h2 m D := cRep_fr (fun a x y => f1 a (by unfold mcell at mc; omega) (by unfold mcell at mc; omega)) hr
  have nb := s1.1
  have hB := mO_bl hD
  refine sp_trace (d := d + 1) mc hD r2 (by omega) rfl s1 (fun h3 g1 g2 => ?_)
  have r3 : cRep h3 m D := cRep_fr (fun a x y => g1 a (by unfold mcell at mc; omega)) r2
  have e4 := g1 4 (by decide)
  have e10 := g1 10 (by decide)
  have sr : ∀ b, 0 ≤ b → b < h3 4 11 → h3 11 b = dB D (h3 10 b) := fun b b0 b1 => by
    rw [e4] at b1
    have := s1.2.2.1 b b0 b1
    rw [g2 b b0 b1, if_pos (by omega), Int.sub_zero, e10]
  refine sp_copyEdges (X := pX D) mc hD r3 hs (fun b b0 b1 => ?_) (fun e b e0 e1 b0 b1 => ?_) (drC_fr (fun a x y => g1 a (by omega)) d2) (fun h4 u1 u2 => ?_)
  · rw [sr b b0 b1]
    rw [e4] at b1
    have := s1.2.2.1 b b0 b1
    have := (dB_ok hD (show 0 ≤ h3 10 b by rw [e10]; omega)).1
    omega
  · unfold sB pX
    rw [sr b b0 b1]
    rw [e4] at b1
    have := s1.2.2.1 b b0 b1
    have := (dB_ok hD (show 0 ≤ h3 10 b by rw [e10]; omega)).1
    rw [decide_eq_true (show 0 ≤ dB D (h3 10 b) by omega)]
    rfl
  · refine sp_copyFrees mc hD (dF_cRep mc u1 r3) u2 (fun h5 w1 w2 => ?_)
    have b10 : h5 10 = h2 10 := by rw [w1.1 10 (by decide), u1.1 10 (by decide), e10]
    have b11 : h5 4 11 = h2 4 11 := by rw [w1.2, u1.2, e4]
    refine kk h5 (fun a p => ?_) w2 (fun x hx z z0 z1 q => ?_)
    · rw [w1.1 a (by omega), u1.1 a (by omega), g1 a (by omega), f1 a (by omega) (by omega)]
    · rw [b10, b11]
      obtain ⟨e, he, w⟩ := eL_mem hx
      have q' : ¬ pX D e z = pX D e (z - 1) := by
        rcases w with w | w <;> rw [w] at q <;> exact q
      obtain ⟨b, hb, eb⟩ := pX_ch hD (pX_c (e := e)) z0 z1 q'
      exact (s3 z).mpr (Or.inr ⟨Or.inr (Or.inl ⟨b, hb, by rw [Int.add_zero]; exact eb⟩), by omega⟩)
end DC
/-! ===== after the class, before the model ===== -/
def CX (h h1 h2 : zH) : Prop := (∀ a, kp a → h1 a = h a) ∧ h1 0 = h 0 ∧ h1 466 = h 466 ∧ kdF (h 0 13) (h 3 (h 0 13)) h1 h2
theorem mK_0 (h : zH) : mK h (zup h 466 0 0) := ⟨fun a k => zup_ne (by unfold kp at k; omega), zup_ne (by decide), fun j k => zup_ns (by unfold kms at k; omega)⟩
section CZ
variable {G : zG} {d : Nat} {h h1 h2 H : zH} {n en : Int} {LE : List eT} {LF : List fT}
theorem CX_m (hI : Inv h) : (157 ≤ h 3 (h 0 13) ∧ h 3 (h 0 13) ≤ 447) ∨ ¬ h 0 13 < 10 := by
  obtain ⟨n1, n2, n3⟩ := iM_n hI
  by_cases c : h 0 13 < 10
  · have mc := hI.2.2.2.2.1.1 (h 0 13) n1 c
    unfold mcell at mc
    exact Or.inl (by omega)
  · exact Or.inr c
theorem CX_a (hI : Inv h) (cx : CX h h1 h2) {a : Int} (ka : kp a) (kb : 466 ≤ a) : h2 a = h a := by
  rw [cx.2.2.2.1 a (by omega) (by have := CX_m hI; omega), cx.1 a ka]
theorem CX_64 (hI : Inv h) (cx : CX h h1 h2) (mk : mK h2 H) : H 466 64 = h 0 13 := by
  obtain ⟨n1, n2, n3⟩ := iM_n hI
  rw [mk.2.2 64 (by unfold kms; omega), cx.2.2.2.1 466 (by decide) (by have := CX_m hI; omega), cx.2.2.1, n3]
theorem CX_rep {D : zH} {j : Int} (hI : Inv h) (cx : CX h h1 h2) (mk : mK h2 H) (r : mRep h j D) : mRep H j D := mRep_fr (fun a x y => by rw [mk.1 a (by unfold kp; omega), CX_a hI cx (by unfold kp; omega) (by omega)]) r
/-- no machine more -/
theorem q_ref {x : Int} (hI : Inv h) (cx : CX h h1 h2) (o : cO (h 0 13) (h 3 (h 0 13)) n en LE LF x h2) (mk : mK h2 H) (nf : ¬ (h 0 13 < 10 ∧ fits n LE LF)) : zCi G d mX12_refused [vr 12 466, vi 3] H (fun y h4 => zR x ∧ x = y ∧ Inv h4) := by
  obtain ⟨n1, n2, n3⟩ := iM_n hI
  obtain ⟨f1, f0, fm, kd⟩ := cx
  rcases o with ⟨ex, e14, e13, -⟩ | ⟨-, z, -, -, ft, -⟩
  · refine sm_refused ⟨by rw [ex]; exact zR_m1, ex, ?_⟩
    have fr := (mk_fr f1 f0 fm kd (CX_m hI) mk (msF_r _ _) (by omega)).2 3
    have o : ∀ a, ¬ a = 466 → (zup (zup H 466 1 3) 466 2 (-1)) a = H a := fun a p => by rw [zup_ne p, zup_ne p]
    have m64 : (zup (zup H 466 1 3) 466 2 (-1)) 466 64 = h 0 13 := by rw [zup_ns (by decide), zup_ns (by decide), CX_64 hI ⟨f1, f0, fm, kd⟩ mk]
    refine Inv_m (w := 3) hI (by omega) fr ?_ ?_ ?_ (Or.inl ⟨?_, m64⟩) (fun z a ka => ?_)
    · rw [o 0 (by decide), mk.2.1, e14]
    · rw [zup_ns (by decide), zup_eq]
    · exact zup_eq
    · rw [o 0 (by decide), mk.2.1, e13]
    · rw [o a (by unfold kp at ka; omega), mk.1 a ka, kd.1 a (by unfold kp at ka; omega) (by omega), f1 a ka]
  · exact absurd ⟨z, ft⟩ nf
theorem sm_mostMachines {K : Int → zH → Prop} {c : Int} (e : H 466 64 = c) (c0 : 0 ≤ c ∧ c ≤ 10) (k0 : ¬ c = 10 → K 0 H) (k3 : c = 10 → K 3 H) : zCi G d mX12_mostMachines [vr 12 466] H K := by
  refine eX12_mostMachines (bX12_mostMachines_0 ?_)
  rw [e]
  exact ⟨⟨by omega, by omega⟩, k0, k3⟩
theorem q_machC {K : Bool → zH → Prop} {c m : Int} (e : H 466 64 = c) (c0 : 0 ≤ c ∧ c ≤ 10) (hm : zR m) (k1 : 0 ≤ m ∧ m < c → K true H) (k2 : ¬ (0 ≤ m ∧ m < c) → K false H) : zCb G d mX12_isMachine [vr 12 466, vi m] H K := by
  refine sm_isMachine hm (by rw [e]; exact ⟨by omega, by omega⟩) ?_
  rw [e]
  by_cases q : 0 ≤ m ∧ m < c
  · rw [decide_eq_true q]
    exact k1 q
  · rw [decide_eq_false q]
    exact k2 q
theorem q_refusesOne {K : Int → zH → Prop} {c m : Int} (e : H 466 64 = c) (c0 : 0 ≤ c ∧ c ≤ 10) (hm : zR m) (k1 : ¬ (0 ≤ m ∧ m < c) → K 1 H) (k3 : 0 ≤ m ∧ m < c → c = 10 → K 3 H) (k0 : 0 ≤ m ∧ m < c → ¬ c = 10 → K 0 H) : zCi G (d + 1) mX12_refusesOne [vr 12 466, vi m] H K :=
  eX12_refusesOne (bX12_refusesOne_0 (q_machC e c0 hm (fun q => ⟨fun z => (by cases z), fun _ => sm_mostMachines e c0 (fun z => k0 q z) (fun z => k3 q z)⟩) (fun q => ⟨fun _ => k1 q, fun z => (by cases z)⟩)))
end CZ
