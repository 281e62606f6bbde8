/-! ===== cases: mixed sets ===== -/
def kms (j : Int) : Prop := j = 4 ∨ j = 10 ∨ j = 22 ∨ j = 64 ∨ j = 65 ∨ j = 77
/-- what a question leaves: the class works from h to h1 and says w, the model from there to h3 and says w -/
theorem Inv_q2 {h h1 h3 : zH} {w : Int} (hI : Inv h) (hw : 0 ≤ w ∧ w ≤ 5 ∧ ¬ w = 4) (f1 : ∀ a, kp a → h1 a = h a) (f10 : h1 0 = h 0) (f1m : h1 466 = h 466) (f3 : ∀ a, kp a → h3 a = (zup (zup h1 0 14 w) 466 0 0) a) (f30 : h3 0 = (zup (zup h1 0 14 w) 466 0 0) 0) (f3m : ∀ j, kms j → h3 466 j = (zup (zup h1 0 14 w) 466 0 0) 466 j) : Inv (zup (zup h3 466 1 w) 466 2 (-1)) := by
  have m : ∀ j, kms j → ¬ j = 0 → ¬ j = 1 → ¬ j = 2 → (zup (zup h3 466 1 w) 466 2 (-1)) 466 j = h 466 j := fun j kj j0 j1 j2 => by
    rw [zup_ns j2, zup_ns j1, f3m j kj, zup_ns j0, zup_ne (by decide), f1m]
  refine Inv_q hI hw (fun a ka => ?_) (fun j j0 j1 j2 => ?_) ⟨?_, ?_, ?_, ?_, ?_, ?_⟩ ?_ ?_ zup_eq
  · have z : ¬ a = 466 ∧ ¬ a = 0 := by unfold kp at ka; omega
    rw [zup_ne z.1, zup_ne z.1, f3 a ka, zup_ne z.1, zup_ne z.2, f1 a ka]
  · rw [zup_ne (by decide), zup_ne (by decide), f30, zup_ne (by decide), zup_ns j2, f10]
  · exact m 4 (by unfold kms; omega) (by decide) (by decide) (by decide)
  · exact m 10 (by unfold kms; omega) (by decide) (by decide) (by decide)
  · exact m 22 (by unfold kms; omega) (by decide) (by decide) (by decide)
  · exact m 64 (by unfold kms; omega) (by decide) (by decide) (by decide)
  · exact m 65 (by unfold kms; omega) (by decide) (by decide) (by decide)
  · exact m 77 (by unfold kms; omega) (by decide) (by decide) (by decide)
  · rw [zup_ne (by decide), zup_ne (by decide), f30, zup_ne (by decide), zup_eq]
  · rw [zup_ns (by decide), zup_eq]
theorem zl_248' : zln 248 = 98 := by decide +kernel
section CE
variable {G : zG} {d : Nat} {h : zH}
theorem sp_mix {K : Int → zH → Prop} {s t f : Int} (hI : Inv h) (hs : zR s) (ht : zR t) (hf : zR f) (k1 : ¬ ((0 ≤ s ∧ s < h (h 0 9) 2) ∧ (0 ≤ t ∧ t < h (h 0 9) 2)) → K 1 h) (k2 : ((0 ≤ s ∧ s < h (h 0 9) 2) ∧ (0 ≤ t ∧ t < h (h 0 9) 2)) → ¬ (0 ≤ f ∧ f < 16) → K 2 h)
    (k0 : ((0 ≤ s ∧ s < h (h 0 9) 2) ∧ (0 ≤ t ∧ t < h (h 0 9) 2)) → (0 ≤ f ∧ f < 16) → ∀ h' : zH, (∀ a, ¬ a = 247 → ¬ a = 248 → h' a = h a) → lsOK h' 247 → h' 247 1 ≤ 98 → (∀ z, 0 ≤ z → z < 65536 → ∀ bx by_ : Bool, (bx = true ↔ inn (fun i => h (h 0 9 + 3 + 2 * s + 1) i) (h (h 0 9 + 3 + 2 * s) 1) z) → (by_ = true ↔ inn (fun i => h (h 0 9 + 3 + 2 * t + 1) i) (h (h 0 9 + 3 + 2 * t) 1) z) → (inn (fun i => h' 248 i) (h' 247 1) z ↔ ztr f bx by_ = true)) → K 0 h') : zCi G (d + 3) mX11_mix [vr 11 0, vi s, vi t, vi f] h K := by
  obtain ⟨n1, n2, n3, n4⟩ := iS_n hI
  refine eX11_mix (bX11_mix_0 (sp_isSet hs ⟨by omega, by omega⟩ ⟨fun q => k1 (fun z => of_decide_eq_false q z.1), fun q => sp_isSet ht ⟨by omega, by omega⟩ ⟨fun q2 => sp_isIn hf ⟨by decide, by decide⟩ ⟨fun q3 => ?_, fun q3 => k2 ⟨of_decide_eq_true q, of_decide_eq_true q2⟩ (of_decide_eq_false q3)⟩, fun q2 => k1 (fun z => of_decide_eq_false q2 z.2)⟩⟩))
  have q := of_decide_eq_true q
  have q2 := of_decide_eq_true q2
  obtain ⟨s12, es, o⟩ := iS_get hI q.1 q.2
  obtain ⟨t12, et, u⟩ := iS_get hI q2.1 q2.2
  refine ⟨s12, t12, ?_⟩
  rw [es, et]
  have X0 := o.1.1.1
  have Y0 := u.1.1.1
  have X1 := o.2.1
  have Y1 := u.2.1
  refine sp_combine (Dl := (0 : Int) :: 65536 :: ((List.range (h (h 0 9 + 3 + 2 * s) 1).toNat).map (fun i : Nat => h (h 0 9 + 3 + 2 * s + 1) (i : Int)) ++ (List.range (h (h 0 9 + 3 + 2 * t) 1).toNat).map (fun i : Nat => h (h 0 9 + 3 + 2 * t + 1) (i : Int)))) (by omega) (by omega) o.1 u.1 ?_ List.mem_cons_self (List.mem_cons_of_mem _ List.mem_cons_self) (fun i i0 i1 => ?_) (fun i i0 i1 => ?_) (fun h' g1 g2 g3 g4 g5 => ?_)
  · show _ ≤ zln 248
    rw [zl_248', List.length_cons, List.length_cons, List.length_append, List.length_map, List.length_map, List.length_range, List.length_range]
    omega
  · refine List.mem_cons_of_mem _ (List.mem_cons_of_mem _ (List.mem_append.mpr (Or.inl (List.mem_map.mpr ⟨i.toNat, List.mem_range.mpr (by omega), ?_⟩))))
    rw [show ((i.toNat : Nat) : Int) = i by omega]
  · refine List.mem_cons_of_mem _ (List.mem_cons_of_mem _ (List.mem_append.mpr (Or.inr (List.mem_map.mpr ⟨i.toNat, List.mem_range.mpr (by omega), ?_⟩))))
    rw [show ((i.toNat : Nat) : Int) = i by omega]
  · have := g3.2
    rw [show (247 : Int) + 1 = 248 by decide, zl_248'] at this
    exact k0 ⟨q, q2⟩ (of_decide_eq_true q3) h' (fun a z1 z2 => g1 a z1 z2) g3 this g5
theorem sm_refusesMix {K : Int → zH → Prop} {s t f : Int} (hs : zR s) (ht : zR t) (hf : zR f) (hn : zR (h 466 22)) (k1 : ¬ ((0 ≤ s ∧ s < h 466 22) ∧ (0 ≤ t ∧ t < h 466 22)) → K 1 h) (k2 : ((0 ≤ s ∧ s < h 466 22) ∧ (0 ≤ t ∧ t < h 466 22)) → ¬ (0 ≤ f ∧ f < 16) → K 2 h) (k0 : ((0 ≤ s ∧ s < h 466 22) ∧ (0 ≤ t ∧ t < h 466 22)) → (0 ≤ f ∧ f < 16) → K 0 h) : zCi G (d + 1) mX12_refusesMix [vr 12 466, vi s, vi t, vi f] h K :=
  eX12_refusesMix (bX12_refusesMix_0 (sm_isSet hs hn ⟨fun q => k1 (fun z => of_decide_eq_false q z.1), fun q => sm_isSet ht hn ⟨fun q2 => sm_in hf ⟨by decide, by decide⟩ ⟨by decide, by decide⟩ ⟨fun q3 => k2 ⟨of_decide_eq_true q, of_decide_eq_true q2⟩ (fun z => of_decide_eq_false q3 ⟨z.1, by omega⟩), fun q3 => k0 ⟨of_decide_eq_true q, of_decide_eq_true q2⟩ (by have := of_decide_eq_true q3; omega)⟩, fun q2 => k1 (fun z => of_decide_eq_false q2 z.2)⟩⟩))
theorem zp_one {h1 : zH} {w a : Int} (f : h1 466 = h 466) (ha : ¬ a = 0) : (zup (zup h1 0 14 w) 466 0 0) 466 a = h 466 a := by
  rw [zup_ns ha, zup_ne (by decide), f]
/-- the model's mixing behind the class's -/
theorem mix_two {h1 : zH} {s t f i : Int} {K : zH → Prop} (hI : Inv h) (q : (0 ≤ s ∧ s < h (h 0 9) 2) ∧ (0 ≤ t ∧ t < h (h 0 9) 2)) (hi : 0 ≤ i ∧ i < 65536) (w : Int) (hw : 0 ≤ w ∧ w ≤ 5 ∧ ¬ w = 4) (g1 : ∀ a, ¬ a = 247 → ¬ a = 248 → h1 a = h a) (g2 : lsOK h1 247) (g3 : h1 247 1 ≤ 98) (g4 : ∀ z, 0 ≤ z → z < 65536 → ∀ bx by_ : Bool, (bx = true ↔ inn (fun i => h (h 0 9 + 3 + 2 * s + 1) i) (h (h 0 9 + 3 + 2 * s) 1) z) → (by_ = true ↔ inn (fun i => h (h 0 9 + 3 + 2 * t + 1) i) (h (h 0 9 + 3 + 2 * t) 1) z) → (inn (fun i => h1 248 i) (h1 247 1) z ↔ ztr f bx by_ = true))
    (k : ∀ h3 : zH, h3 466 36 = h1 247 1 / 2 → h3 466 37 = cSum (fun i => h1 248 i) (h1 247 1 / 2).toNat → (i < h1 247 1 / 2 → h3 466 38 = h1 248 (2 * i) ∧ h3 466 39 = h1 248 (2 * i + 1) - 1) → Inv (zup (zup h3 466 1 w) 466 2 (-1)) → K h3) : zCv G (d + 2) mX12_mixes [vr 12 466, vi s, vi t, vi f, vi i] (zup (zup h1 0 14 w) 466 0 0) K := by
  obtain ⟨n1, n2, n3, n4⟩ := iS_n hI
  obtain ⟨s12, es, o⟩ := iS_get hI q.1.1 q.1.2
  obtain ⟨t12, et, u⟩ := iS_get hI q.2.1 q.2.2
  have fr : ∀ a, (471 ≤ a ∧ a ≤ 473) → (zup (zup h1 0 14 w) 466 0 0) a = h a := fun a z => by rw [zup_ne (by omega), zup_ne (by omega), g1 a (by omega) (by omega)]
  refine sm_mixes (by omega) (by omega) (mS_fr (fr 471 (by decide)) (fr 472 (by decide)) (fr 473 (by decide)) (mS_get o)) (mS_fr (fr 471 (by decide)) (fr 472 (by decide)) (fr 473 (by decide)) (mS_get u)) g2.1 (by omega) g4 hi (fun h3 w1 w2 w3 w4 w5 => ?_)
  refine k h3 w3 w4 w5 (Inv_q2 hI hw (fun a ka => g1 a (by unfold kp at ka; omega) (by unfold kp at ka; omega)) (g1 0 (by decide) (by decide)) (g1 466 (by decide) (by decide)) (fun a ka => w1 a (by unfold kp at ka; omega)) (w1 0 (by decide)) (fun j kj => w2 j (by unfold kms at kj; omega)))
theorem c_mixed {s t f : Int} (hI : Inv h) (hs : zR s) (ht : zR t) (hf : zR f) : twI G (d + 5) mX11_mixed mX12_mixed [vi s, vi t, vi f] h := by
  obtain ⟨n1, n2, n3, n4⟩ := iS_n hI
  have e22 : ∀ w, (zup (zup h 0 14 w) 466 0 0) 466 22 = h (h 0 9) 2 := fun w => by rw [zp_one rfl (by decide), n4]
  have r22 : ∀ w, zR ((zup (zup h 0 14 w) 466 0 0) 466 22) := fun w => by rw [e22]; exact ⟨by omega, by omega⟩
  refine eX11_mixed (bX11_mixed_0 (sp_mix hI hs ht hf (fun q => ⟨⟨by decide, by decide⟩, fun z => absurd z (by decide), fun _ => sp_refused ?_⟩) (fun q q2 => ⟨⟨by decide, by decide⟩, fun z => absurd z (by decide), fun _ => sp_refused ?_⟩) (fun q q2 h1 g1 g2 g3 g4 => ⟨⟨by decide, by decide⟩, fun _ => sp_amount g2 (sp_granted ?_), fun z => absurd rfl z⟩)))
  · refine eX12_mixed (bX12_mixed_0 (sm_refusesMix hs ht hf (r22 1) (fun _ => ⟨⟨by decide, by decide⟩, fun z => absurd z (by decide), fun _ => sm_refused ⟨zR_m1, rfl, Inv_w hI (by omega)⟩⟩) (fun z => absurd z (by rw [e22]; exact q)) (fun z => absurd z (by rw [e22]; exact q))))
  · refine eX12_mixed (bX12_mixed_0 (sm_refusesMix hs ht hf (r22 2) (fun z => absurd (by rw [e22]; exact q) z) (fun _ _ => ⟨⟨by decide, by decide⟩, fun z => absurd z (by decide), fun _ => sm_refused ⟨zR_m1, rfl, Inv_w hI (by omega)⟩⟩) (fun _ z => absurd z q2)))
  · have f22 : (zup (zup h1 0 14 0) 466 0 0) 466 22 = h (h 0 9) 2 := by rw [zp_one (g1 466 (by decide) (by decide)) (by decide), n4]
    refine eX12_mixed (bX12_mixed_0 (sm_refusesMix hs ht hf (by rw [f22]; exact ⟨by omega, by omega⟩) (fun z => absurd (by rw [f22]; exact q) z) (fun _ z => absurd q2 z) (fun _ _ => ⟨⟨by decide, by decide⟩, fun _ => ?_, fun z => absurd (by decide) z⟩)))
    refine mix_two hI q (by omega) 0 (by omega) g1 g2 g3 g4 (fun h3 w1 w2 w3 w4 => sm_good ⟨?_, ?_, w4⟩)
    · have U0 := g2.1.1
      have rg := cSum_rg g2.1 (h1 247 1 / 2).toNat (by omega)
      exact ⟨by have := rg.1; omega, by have := rg.2.1; omega⟩
    · rw [w2]
      rfl
theorem c_mixedRanges {s t f : Int} (hI : Inv h) (hs : zR s) (ht : zR t) (hf : zR f) : twI G (d + 5) mX11_mixedRanges mX12_mixedRanges [vi s, vi t, vi f] h := by
  obtain ⟨n1, n2, n3, n4⟩ := iS_n hI
  have e22 : ∀ w, (zup (zup h 0 14 w) 466 0 0) 466 22 = h (h 0 9) 2 := fun w => by rw [zp_one rfl (by decide), n4]
  have r22 : ∀ w, zR ((zup (zup h 0 14 w) 466 0 0) 466 22) := fun w => by rw [e22]; exact ⟨by omega, by omega⟩
  refine eX11_mixedRanges (bX11_mixedRanges_0 (sp_mix hI hs ht hf (fun q => ⟨⟨by decide, by decide⟩, fun z => absurd z (by decide), fun _ => sp_refused ?_⟩) (fun q q2 => ⟨⟨by decide, by decide⟩, fun z => absurd z (by decide), fun _ => sp_refused ?_⟩) (fun q q2 h1 g1 g2 g3 g4 => ⟨⟨by decide, by decide⟩, fun _ => sp_rangeCount g2.1.1 (by omega) (sp_granted ?_), fun z => absurd rfl z⟩)))
  · refine eX12_mixedRanges (bX12_mixedRanges_0 (sm_refusesMix hs ht hf (r22 1) (fun _ => ⟨⟨by decide, by decide⟩, fun z => absurd z (by decide), fun _ => sm_refused ⟨zR_m1, rfl, Inv_w hI (by omega)⟩⟩) (fun z => absurd z (by rw [e22]; exact q)) (fun z => absurd z (by rw [e22]; exact q))))
  · refine eX12_mixedRanges (bX12_mixedRanges_0 (sm_refusesMix hs ht hf (r22 2) (fun z => absurd (by rw [e22]; exact q) z) (fun _ _ => ⟨⟨by decide, by decide⟩, fun z => absurd z (by decide), fun _ => sm_refused ⟨zR_m1, rfl, Inv_w hI (by omega)⟩⟩) (fun _ z => absurd z q2)))
  · have f22 : (zup (zup h1 0 14 0) 466 0 0) 466 22 = h (h 0 9) 2 := by rw [zp_one (g1 466 (by decide) (by decide)) (by decide), n4]
    have U0 := g2.1.1
    refine eX12_mixedRanges (bX12_mixedRanges_0 (sm_refusesMix hs ht hf (by rw [f22]; exact ⟨by omega, by omega⟩) (fun z => absurd (by rw [f22]; exact q) z) (fun _ z => absurd q2 z) (fun _ _ => ⟨⟨by decide, by decide⟩, fun _ => ?_, fun z => absurd (by decide) z⟩)))
    exact mix_two hI q (by omega) 0 (by omega) g1 g2 g3 g4 (fun h3 w1 w2 w3 w4 => sm_good ⟨⟨by omega, by omega⟩, w1.symm, w4⟩)
theorem c_mixedRange {s t f i : Int} {b : Bool} (hI : Inv h) (hs : zR s) (ht : zR t) (hf : zR f) (hi : zR i) : twI G (d + 5) mX11_mixedRange mX12_mixedRange [vi s, vi t, vi f, vi i, vi (bi b)] h := by
  obtain ⟨n1, n2, n3, n4⟩ := iS_n hI
  have e22 : ∀ w, (zup (zup h 0 14 w) 466 0 0) 466 22 = h (h 0 9) 2 := fun w => by rw [zp_one rfl (by decide), n4]
  have r22 : ∀ w, zR ((zup (zup h 0 14 w) 466 0 0) 466 22) := fun w => by rw [e22]; exact ⟨by omega, by omega⟩
  refine eX11_mixedRange (bX11_mixedRange_0 (sp_mix hI hs ht hf (fun q => ⟨⟨by decide, by decide⟩, fun z => absurd z (by decide), fun _ => sp_refused ?_⟩) (fun q q2 => ⟨⟨by decide, by decide⟩, fun z => absurd z (by decide), fun _ => sp_refused ?_⟩) (fun q q2 h1 g1 g2 g3 g4 => ⟨⟨by decide, by decide⟩, fun _ => sp_rangeCount g2.1.1 (by omega) ?_, fun z => absurd rfl z⟩)))
  · refine eX12_mixedRange (bX12_mixedRange_0 (sm_refusesMix hs ht hf (r22 1) (fun _ => ⟨⟨by decide, by decide⟩, fun z => absurd z (by decide), fun _ => sm_refused ⟨zR_m1, rfl, Inv_w hI (by omega)⟩⟩) (fun z => absurd z (by rw [e22]; exact q)) (fun z => absurd z (by rw [e22]; exact q))))
  · refine eX12_mixedRange (bX12_mixedRange_0 (sm_refusesMix hs ht hf (r22 2) (fun z => absurd (by rw [e22]; exact q) z) (fun _ _ => ⟨⟨by decide, by decide⟩, fun z => absurd z (by decide), fun _ => sm_refused ⟨zR_m1, rfl, Inv_w hI (by omega)⟩⟩) (fun _ z => absurd z q2)))
  · have f22 : ∀ w, (zup (zup h1 0 14 w) 466 0 0) 466 22 = h (h 0 9) 2 := fun w => by rw [zp_one (g1 466 (by decide) (by decide)) (by decide), n4]
    have U0 := g2.1.1
    have U2 := g2.1.2.1
    have Iw : ∀ w, 0 ≤ w ∧ w ≤ 5 ∧ ¬ w = 4 → Inv (zup (zup (zup (zup h1 0 14 w) 466 0 0) 466 1 w) 466 2 (-1)) := fun w hw => Inv_q2 hI hw (fun a ka => g1 a (by unfold kp at ka; omega) (by unfold kp at ka; omega)) (g1 0 (by decide) (by decide)) (g1 466 (by decide) (by decide)) (fun a ka => rfl) rfl (fun j kj => rfl)
    refine sp_isIn hi ⟨by omega, by omega⟩ ⟨fun q3 => ?_, fun q3 => sp_refused ?_⟩
    · have q3 := of_decide_eq_true q3
      have cb1 := g2.1.2.2.1 (2 * i) (by omega) (by omega)
      have cb2 := g2.1.2.2.1 (2 * i + 1) (by omega) (by omega)
      dsimp only at cb1 cb2
      refine sp_bound g2 q3 (sp_granted (eX12_mixedRange (bX12_mixedRange_0 (sm_refusesMix hs ht hf (by rw [f22]; exact ⟨by omega, by omega⟩) (fun z => absurd (by rw [f22]; exact q) z) (fun _ z => absurd q2 z) (fun _ _ => ⟨⟨by decide, by decide⟩, fun _ => ⟨hi, fun z => absurd z (by omega), fun _ => ⟨hi, fun _ => ?_, fun z => absurd z (by omega)⟩⟩, fun z => absurd (by decide) z⟩)))))
      refine mix_two hI q (by omega) 0 (by omega) g1 g2 g3 g4 (fun h3 w1 w2 w3 w4 => ?_)
      have w5 := w3 q3.2
      rw [w1, w5.1, w5.2]
      refine ⟨hi, ⟨by omega, by omega⟩, fun _ => ⟨fun eb => sm_good ?_, fun eb => sm_good ?_⟩, fun z => absurd q3.2 z⟩
      · subst eb
        rw [if_neg (by decide)]
        exact ⟨⟨by have := cb1.1; omega, by have := cb1.2; omega⟩, rfl, w4⟩
      · subst eb
        rw [if_pos rfl]
        exact ⟨⟨by have := cb2.1; omega, by have := cb2.2; omega⟩, rfl, w4⟩
    · have q3 := of_decide_eq_false q3
      refine eX12_mixedRange (bX12_mixedRange_0 (sm_refusesMix hs ht hf (by rw [f22]; exact ⟨by omega, by omega⟩) (fun z => absurd (by rw [f22]; exact q) z) (fun _ z => absurd q2 z) (fun _ _ => ⟨⟨by decide, by decide⟩, fun _ => ⟨hi, fun z => sm_refused ⟨zR_m1, rfl, Iw 1 (by omega)⟩, fun z => ⟨hi, fun z2 => ?_, fun z2 => sm_refused ⟨zR_m1, rfl, Iw 1 (by omega)⟩⟩⟩, fun z => absurd (by decide) z⟩)))
      refine mix_two hI q (by omega) 1 (by omega) g1 g2 g3 g4 (fun h3 w1 w2 w3 w4 => ?_)
      rw [w1]
      exact ⟨hi, ⟨by omega, by omega⟩, fun z3 => absurd ⟨by omega, z3⟩ q3, fun _ => sm_refused ⟨zR_m1, rfl, w4⟩⟩
end CE
