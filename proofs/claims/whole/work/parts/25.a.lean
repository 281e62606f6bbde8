/-! ===== cases: told sets ===== -/
theorem zhw_r {h : zH} {w a : Int} (h0 : ¬ a = 0) (h1 : ¬ a = 466) : (zup (zup h 0 14 w) 466 0 0) a = h a := by
  rw [zup_ne h1, zup_ne h0]
theorem zhw_m {h : zH} {w j : Int} (h0 : ¬ j = 0) : (zup (zup h 0 14 w) 466 0 0) 466 j = h 466 j := by
  rw [zup_ns h0, zup_ne (by decide)]
theorem zR_m1 : zR (-1) := ⟨by decide, by decide⟩
theorem iS_get {h : zH} (hI : Inv h) {s : Int} (h0 : 0 ≤ s) (h1 : s < h (h 0 9) 2) : (0 ≤ s ∧ s < 12) ∧ h (h 0 9 + 1) s = h 0 9 + 3 + 2 * s ∧ setOK h (h 0 9) s := by
  obtain ⟨d1, d2, d3, d4⟩ := hI.2.2.2.1
  have b : s < 12 := by omega
  refine ⟨⟨h0, b⟩, ?_, d4 s h0 h1⟩
  have := d2 s h0 b
  rcases d1 with ⟨z, -⟩ | ⟨z, -⟩
  · rw [z]
    show h 250 s = 249 + 3 + 2 * s
    omega
  · rw [z]
    show h 83 s = 82 + 3 + 2 * s
    omega
theorem iS_n {h : zH} (hI : Inv h) : (h 0 9 = 249 ∨ h 0 9 = 82) ∧ 0 ≤ h (h 0 9) 2 ∧ h (h 0 9) 2 ≤ 12 ∧ h 466 22 = h (h 0 9) 2 := by
  obtain ⟨d1, d2, d3, d4⟩ := hI.2.2.2.1
  omega
section CD
variable {G : zG} {d : Nat} {h : zH}
theorem sp_isSet {K : Bool → zH → Prop} {a : Int} (ha : zR a) (hb : zR (h (h 0 9) 2)) (k : K (decide (0 ≤ a ∧ a < h (h 0 9) 2)) h) : zCb G (d + 1) mX11_isSet [vr 11 0, vi a] h K := eX11_isSet (bX11_isSet_0 (sp_isIn ha hb k))
theorem sm_isSet {K : Bool → zH → Prop} {a : Int} (ha : zR a) (hb : zR (h 466 22)) (k : K (decide (0 ≤ a ∧ a < h 466 22)) h) : zCb G d mX12_isSet [vr 12 466, vi a] h K := by
  refine eX12_isSet (bX12_isSet_0 ⟨ha, fun q => ?_, fun q => ⟨ha, hb, fun q2 => ?_, fun q2 => ?_⟩⟩)
  · rwa [decide_eq_false (by omega)] at k
  · rwa [decide_eq_false (by omega)] at k
  · rwa [decide_eq_true (by omega)] at k
theorem c_ranges {s : Int} (hI : Inv h) (hs : zR s) : twI G (d + 4) mX11_ranges mX12_ranges [vi s] h := by
  obtain ⟨n1, n2, n3, n4⟩ := iS_n hI
  have r22 : ∀ w, zR ((zup (zup h 0 14 w) 466 0 0) 466 22) := fun w => by rw [zhw_m (by decide)]; exact ⟨by omega, by omega⟩
  refine eX11_ranges (bX11_ranges_0 (sp_isSet hs ⟨by omega, by omega⟩ ⟨fun q => ?_, fun q => ?_⟩))
  · have q := of_decide_eq_true q
    obtain ⟨s12, e, o1, o2, o3, o4⟩ := iS_get hI q.1 q.2
    refine ⟨s12, ?_⟩
    rw [e]
    have hz := o1.1.1
    refine sp_rangeCount hz (by omega) (sp_granted (eX12_ranges (bX12_ranges_0 (sm_isSet hs (r22 0) ⟨fun _ => ⟨⟨by omega, by omega⟩, sm_good ⟨⟨by omega, by omega⟩, ?_, Inv_w hI (by omega)⟩⟩, fun z => absurd q (by have := of_decide_eq_false z; rw [zhw_m (by decide)] at this; omega)⟩))))
    show _ = (zup (zup h 0 14 0) 466 0 0) 471 s
    rw [zhw_r (by decide) (by decide), o3]
  · have q := of_decide_eq_false q
    exact sp_refused (eX12_ranges (bX12_ranges_0 (sm_isSet hs (r22 1) ⟨fun z => absurd (of_decide_eq_true z) (by rw [zhw_m (by decide)]; omega), fun _ => sm_refused ⟨zR_m1, rfl, Inv_w hI (by omega)⟩⟩)))
theorem c_range {s i : Int} {b : Bool} (hI : Inv h) (hs : zR s) (hi : zR i) : twI G (d + 4) mX11_range mX12_range [vi s, vi i, vi (bi b)] h := by
  obtain ⟨n1, n2, n3, n4⟩ := iS_n hI
  have r22 : ∀ w, zR ((zup (zup h 0 14 w) 466 0 0) 466 22) := fun w => by rw [zhw_m (by decide)]; exact ⟨by omega, by omega⟩
  refine eX11_range (bX11_range_0 (sp_isSet hs ⟨by omega, by omega⟩ ⟨fun q => ?_, fun q => ?_⟩))
  · have q := of_decide_eq_false q
    exact sp_refused (eX12_range (bX12_range_0 (sm_isSet hs (r22 1) ⟨fun _ => sm_refused ⟨zR_m1, rfl, Inv_w hI (by omega)⟩, fun z => absurd (of_decide_eq_true z) (by rw [zhw_m (by decide)]; omega)⟩)))
  · have q := of_decide_eq_true q
    obtain ⟨s12, e, o1, o2, o3, o4⟩ := iS_get hI q.1 q.2
    refine ⟨s12, ?_⟩
    rw [e]
    have hz := o1.1.1
    have m471 : ∀ w, (zup (zup h 0 14 w) 466 0 0) 471 s = h (h 0 9 + 3 + 2 * s) 1 / 2 := fun w => by rw [zhw_r (by decide) (by decide), o3]
    refine sp_rangeCount hz (by omega) (sp_isIn hi ⟨by omega, by omega⟩ ⟨fun q2 => ?_, fun q2 => ?_⟩)
    · have q2 := of_decide_eq_true q2
      obtain ⟨w1, w2⟩ := o4 i q2.1 q2.2
      have cb := o1.1.2.2.1
      have cb1 := cb (2 * i) (by omega) (by omega)
      have cb2 := cb (2 * i + 1) (by omega) (by omega)
      dsimp only at cb1 cb2
      refine ⟨s12, ?_⟩
      rw [e]
      refine sp_bound o1 q2 (sp_granted (eX12_range (bX12_range_0 (sm_isSet hs (r22 0) ⟨fun z => absurd q (by have := of_decide_eq_false z; rw [zhw_m (by decide)] at this; omega), fun _ => ⟨hi, fun z => absurd z (by omega), fun _ => ⟨⟨by omega, by omega⟩, hi, ?_⟩⟩⟩))))
      rw [m471]
      refine ⟨⟨by omega, by omega⟩, fun _ => ⟨fun eb => ?_, fun eb => ?_⟩, fun z => absurd q2.2 z⟩
      · subst eb
        refine ⟨⟨by omega, by omega⟩, sm_good ⟨?_, ?_, Inv_w hI (by omega)⟩⟩
        · rw [if_neg (by decide)]
          exact ⟨by omega, by omega⟩
        · rw [if_neg (by decide), zhw_r (by decide) (by decide), w1]
      · subst eb
        refine ⟨⟨by omega, by omega⟩, sm_good ⟨?_, ?_, Inv_w hI (by omega)⟩⟩
        · rw [if_pos rfl]
          exact ⟨by omega, by omega⟩
        · rw [if_pos rfl, zhw_r (by decide) (by decide), w2]
    · have q2 := of_decide_eq_false q2
      refine sp_refused (eX12_range (bX12_range_0 (sm_isSet hs (r22 1) ⟨fun z => absurd q (by have := of_decide_eq_false z; rw [zhw_m (by decide)] at this; omega), fun _ => ⟨hi, fun z => sm_refused ⟨zR_m1, rfl, Inv_w hI (by omega)⟩, fun z => ⟨⟨by omega, by omega⟩, hi, ?_⟩⟩⟩)))
      rw [m471]
      exact ⟨⟨by omega, by omega⟩, fun w => absurd ⟨by omega, w⟩ q2, fun _ => sm_refused ⟨zR_m1, rfl, Inv_w hI (by omega)⟩⟩
theorem cSum_rg {c : Int → Int} {n : Int} (hc : cOK c n) : ∀ m : Nat, 2 * (m : Int) ≤ n → 0 ≤ cSum c m ∧ cSum c m ≤ 65536 ∧ (0 < m → cSum c m ≤ c (2 * (m : Int) - 1))
  | 0, _ => ⟨Int.le_refl _, by show (0 : Int) ≤ 65536; omega, fun z => absurd z (by omega)⟩
  | m + 1, hm => by
    obtain ⟨a1, a2, a3⟩ := cSum_rg hc m (by omega)
    have b1 := hc.2.2.1 (2 * (m : Int)) (by omega) (by omega)
    have b2 := hc.2.2.1 (2 * (m : Int) + 1) (by omega) (by omega)
    have b3 := hc.2.2.2 (2 * (m : Int)) (2 * (m : Int) + 1) (by omega) (by omega) (by omega)
    have le : cSum c m ≤ c (2 * (m : Int)) := by
      by_cases z : 0 < m
      · have w := a3 z
        have := hc.2.2.2 (2 * (m : Int) - 1) (2 * (m : Int)) (by omega) (by omega) (by omega)
        omega
      · have : m = 0 := by omega
        subst this
        show (0 : Int) ≤ _
        omega
    show 0 ≤ cSum c m + (c (2 * (m : Int) + 1) - c (2 * (m : Int))) ∧ cSum c m + (c (2 * (m : Int) + 1) - c (2 * (m : Int))) ≤ 65536 ∧ (0 < m + 1 → cSum c m + (c (2 * (m : Int) + 1) - c (2 * (m : Int))) ≤ c (2 * ((m + 1 : Nat) : Int) - 1))
    rw [show 2 * ((m + 1 : Nat) : Int) - 1 = 2 * (m : Int) + 1 by omega]
    exact ⟨by omega, by omega, fun _ => by omega⟩
theorem c_letters {s : Int} (hI : Inv h) (hs : zR s) : twI G (d + 4) mX11_letters mX12_letters [vi s] h := by
  obtain ⟨n1, n2, n3, n4⟩ := iS_n hI
  have r22 : ∀ w, zR ((zup (zup h 0 14 w) 466 0 0) 466 22) := fun w => by rw [zhw_m (by decide)]; exact ⟨by omega, by omega⟩
  refine eX11_letters (bX11_letters_0 (sp_isSet hs ⟨by omega, by omega⟩ ⟨fun q => ?_, fun q => ?_⟩))
  · have q := of_decide_eq_true q
    obtain ⟨s12, e, o1, o2, o3, o4⟩ := iS_get hI q.1 q.2
    refine ⟨s12, ?_⟩
    rw [e]
    have hz := o1.1.1
    have hz2 := o1.1.2.1
    refine sp_amount o1 (sp_granted (eX12_letters (bX12_letters_0 (sm_isSet hs (r22 0) ⟨fun _ => ?_, fun z => absurd q (by have := of_decide_eq_false z; rw [zhw_m (by decide)] at this; omega)⟩))))
    have rg := cSum_rg o1.1 (h (h 0 9 + 3 + 2 * s) 1 / 2).toNat (by omega)
    have go : ∀ (f m : Nat), (m : Int) + f = h (h 0 9 + 3 + 2 * s) 1 / 2 → tX12_letters_23 G (d + 3) (fun y h4 => zR (cSum (fun i => h (h 0 9 + 3 + 2 * s + 1) i) (h (h 0 9 + 3 + 2 * s) 1 / 2).toNat) ∧ cSum (fun i => h (h 0 9 + 3 + 2 * s + 1) i) (h (h 0 9 + 3 + 2 * s) 1 / 2).toNat = y ∧ Inv h4) s (cSum (fun i => h (h 0 9 + 3 + 2 * s + 1) i) m) (m : Int) ((zup (zup h 0 14 0) 466 0 0)) := by
      intro f
      induction f with
      | zero =>
        intro m hm
        refine bX12_letters_23 ⟨⟨by omega, by omega⟩, ⟨by omega, by omega⟩, ?_⟩
        rw [zhw_r (by decide) (by decide), o3]
        refine ⟨⟨by omega, by omega⟩, fun _ => sm_good ⟨⟨by omega, by omega⟩, ?_, Inv_w hI (by omega)⟩, fun z => absurd z (by omega)⟩
        rw [show (h (h 0 9 + 3 + 2 * s) 1 / 2).toNat = m by omega]
      | succ f ih =>
        intro m hm
        obtain ⟨w1, w2⟩ := o4 m (by omega) (by omega)
        refine bX12_letters_23 ⟨⟨by omega, by omega⟩, ⟨by omega, by omega⟩, ?_⟩
        rw [zhw_r (show ¬ (471 : Int) = 0 by decide) (by decide), o3, zhw_r (show ¬ (473 : Int) = 0 by decide) (by decide), zhw_r (show ¬ (472 : Int) = 0 by decide) (by decide), w1, w2]
        refine ⟨⟨by omega, by omega⟩, fun z => absurd z (by omega), fun _ => ⟨⟨by omega, by omega⟩, ⟨by omega, by omega⟩, ?_⟩⟩
        have := ih (m + 1) (by omega)
        rw [show h (h 0 9 + 3 + 2 * s + 1) (2 * (m : Int) + 1) - 1 - h (h 0 9 + 3 + 2 * s + 1) (2 * (m : Int)) + 1 = h (h 0 9 + 3 + 2 * s + 1) (2 * (m : Int) + 1) - h (h 0 9 + 3 + 2 * s + 1) (2 * (m : Int)) by omega, show (m : Int) + 1 = ((m + 1 : Nat) : Int) by omega]
        exact this
    exact go (h (h 0 9 + 3 + 2 * s) 1 / 2).toNat 0 (by omega)
  · have q := of_decide_eq_false q
    exact sp_refused (eX12_letters (bX12_letters_0 (sm_isSet hs (r22 1) ⟨fun z => absurd (of_decide_eq_true z) (by rw [zhw_m (by decide)]; omega), fun _ => sm_refused ⟨zR_m1, rfl, Inv_w hI (by omega)⟩⟩)))
/-- the model's set s is the class's at r -/
def mS (h : zH) (s n : Int) (c : Int → Int) : Prop := cOK c n ∧ n ≤ 48 ∧ h 471 s = n / 2 ∧ ∀ j, 0 ≤ j → j < n / 2 → h 472 (s * 24 + j) = c (2 * j) ∧ h 473 (s * 24 + j) = c (2 * j + 1) - 1
theorem sm_setHas {K : Bool → zH → Prop} {s n x : Int} {c : Int → Int} (hs : 0 ≤ s ∧ s < 24) (hm : mS h s n c) (hx : zR x) (k : ∀ b : Bool, (b = true ↔ cIn c n x) → K b h) : zCb G (d + 1) mX12_setHas [vr 12 466, vi s, vi x] h K := by
  obtain ⟨o1, o2, o3, o4⟩ := hm
  have go : ∀ (f : Nat) (j : Int), 0 ≤ j → j + f = n / 2 → (∀ i, 0 ≤ i → i < j → ¬ (c (2 * i) ≤ x ∧ x < c (2 * i + 1))) → tX12_setHas_2 G d K s x j h := by
    intro f
    induction f with
    | zero =>
      intro j j0 jf no
      refine bX12_setHas_2 ⟨hs, ?_⟩
      rw [o3]
      have := o1.1
      refine ⟨⟨by omega, by omega⟩, ⟨by omega, by omega⟩, fun _ => k false ⟨fun z => (by cases z), fun ⟨i, i0, i1, i2, i3⟩ => absurd ⟨i2, i3⟩ (no i i0 (by omega))⟩, fun z => absurd z (by omega)⟩
    | succ f ih =>
      intro j j0 jf no
      obtain ⟨w1, w2⟩ := o4 j j0 (by omega)
      have cb := o1.2.2.1
      have cb1 := cb (2 * j) (by omega) (by omega)
      have cb2 := cb (2 * j + 1) (by omega) (by omega)
      have := o1.1
      refine bX12_setHas_2 ⟨hs, ?_⟩
      rw [o3, w1, w2]
      refine ⟨⟨by omega, by omega⟩, ⟨by omega, by omega⟩, fun z => absurd z (by omega), fun _ => ⟨⟨by omega, by omega⟩, ⟨by omega, by omega⟩, sm_in hx ⟨by omega, by omega⟩ ⟨by omega, by omega⟩ ⟨fun q => ih (j + 1) (by omega) (by omega) (fun i i0 i1 => ?_), fun q => k true ⟨fun _ => ⟨j, j0, by omega, ?_⟩, fun _ => rfl⟩⟩⟩⟩
      · have q := of_decide_eq_false q
        by_cases z : i = j
        · rw [z]
          omega
        · exact no i i0 (by omega)
      · have q := of_decide_eq_true q
        omega
  exact eX12_setHas (bX12_setHas_0 (go (n / 2).toNat 0 (by omega) (by have := o1.1; omega) (fun i a b => absurd b (by omega))))
theorem mS_get {t s : Int} (h1 : setOK h t s) : mS h s (h (t + 3 + 2 * s) 1) (fun i => h (t + 3 + 2 * s + 1) i) := ⟨h1.1.1, h1.2.1, h1.2.2.1, h1.2.2.2⟩
theorem mS_fr {h' : zH} {s n : Int} {c : Int → Int} (f1 : h' 471 = h 471) (f2 : h' 472 = h 472) (f3 : h' 473 = h 473) (k : mS h s n c) : mS h' s n c := by
  unfold mS
  rw [f1, f2, f3]
  exact k
theorem c_has {s x : Int} (hI : Inv h) (hs : zR s) (hx : zR x) : twI G (d + 4) mX11_has mX12_has [vi s, vi x] h := by
  obtain ⟨n1, n2, n3, n4⟩ := iS_n hI
  have r22 : ∀ w, zR ((zup (zup h 0 14 w) 466 0 0) 466 22) := fun w => by rw [zhw_m (by decide)]; exact ⟨by omega, by omega⟩
  refine eX11_has (bX11_has_0 (sp_isSet hs ⟨by omega, by omega⟩ ⟨fun q => ?_, fun q => ?_⟩))
  · have q := of_decide_eq_true q
    obtain ⟨s12, e, o⟩ := iS_get hI q.1 q.2
    have yes : ∀ {w : Int} {K : Int → zH → Prop}, zCb G (d + 3) mX12_isLetter [vi x] ((zup (zup h 0 14 w) 466 0 0)) (fun x3 h4 => (x3 = true → zCb G (d + 3) mX12_setHas [vr 12 466, vi s, vi x] h4 (fun x5 h6 => (x5 = false → zCi G (d + 3) mX12_good [vr 12 466, vi 0] h6 (fun x7 h8 => K x7 h8)) ∧ (x5 = true → zCi G (d + 3) mX12_good [vr 12 466, vi 1] h6 (fun x9 h10 => K x9 h10)))) ∧ (x3 = false → zCi G (d + 3) mX12_refused [vr 12 466, vi 2] h4 (fun x11 h12 => K x11 h12))) → zCi G (d + 4) mX12_has [vr 12 466, vi s, vi x] (zup h 0 14 w) K := fun k => eX12_has (bX12_has_0 (sm_isSet hs (r22 _) ⟨fun _ => k, fun z => absurd q (by have := of_decide_eq_false z; rw [zhw_m (by decide)] at this; omega)⟩))
    refine sp_isIn hx ⟨by decide, by decide⟩ ⟨fun q2 => ?_, fun q2 => ?_⟩
    · have q2 := of_decide_eq_true q2
      refine ⟨s12, ?_⟩
      rw [e]
      refine sp_holds o.1 hx (fun b hb => ?_)
      have mm : mS ((zup (zup h 0 14 0) 466 0 0)) s (h (h 0 9 + 3 + 2 * s) 1) (fun i => h (h 0 9 + 3 + 2 * s + 1) i) := mS_fr (zhw_r (by decide) (by decide)) (zhw_r (by decide) (by decide)) (zhw_r (by decide) (by decide)) (mS_get o)
      refine ⟨fun eb => sp_granted (yes (sm_isLetter hx ⟨fun _ => sm_setHas (by omega) mm hx (fun b2 hb2 => ⟨fun _ => sm_good ⟨⟨by decide, by decide⟩, rfl, Inv_w hI (by omega)⟩, fun z => ?_⟩), fun z => absurd (of_decide_eq_false z) (by omega)⟩)), fun eb => sp_granted (yes (sm_isLetter hx ⟨fun _ => sm_setHas (by omega) mm hx (fun b2 hb2 => ⟨fun z => ?_, fun _ => sm_good ⟨⟨by decide, by decide⟩, rfl, Inv_w hI (by omega)⟩⟩), fun z => absurd (of_decide_eq_false z) (by omega)⟩))⟩
      · have := hb.mpr (hb2.mp z)
        rw [eb] at this
        cases this
      · have := hb2.mpr (hb.mp eb)
        rw [z] at this
        cases this
    · have q2 := of_decide_eq_false q2
      exact sp_refused (yes (sm_isLetter hx ⟨fun z => absurd (of_decide_eq_true z) (by omega), fun _ => sm_refused ⟨zR_m1, rfl, Inv_w hI (by omega)⟩⟩))
  · have q := of_decide_eq_false q
    exact sp_refused (eX12_has (bX12_has_0 (sm_isSet hs (r22 1) ⟨fun z => absurd (of_decide_eq_true z) (by rw [zhw_m (by decide)]; omega), fun _ => sm_refused ⟨zR_m1, rfl, Inv_w hI (by omega)⟩⟩)))
end CD
