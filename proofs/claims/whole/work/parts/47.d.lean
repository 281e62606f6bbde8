/-! ===== bench, the case ===== -/
/-- rows that the class's reading keeps -/
theorem fLn_k {h hc : zH} (hI : Inv h) (fl : fLn (h 12 5) (zup h 0 10 0) hc) : (∀ a, ¬ a = 0 → ¬ (4 ≤ a ∧ a ≤ 79) → ¬ (h 12 5 ≤ a ∧ a ≤ h 12 5 + 26 ∧ ¬ a = h 12 5 + 1) → ¬ (109 ≤ a ∧ a ≤ 156) → a < 157 ∨ (232 < a ∧ a < 276) ∨ 465 < a → hc a = h a) ∧ (∀ j, ¬ j = 10 → hc 0 j = h 0 j) ∧ hc 0 10 = 0 ∧ hc 12 5 = h 12 5 := by
  obtain ⟨c1, c2⟩ := fl
  have ht := hI.2.2.2.1.1
  obtain ⟨e1, e2, e3, e4, e5, e6⟩ := hI.2.2.2.2.1
  have nr : ∀ a, a < 157 ∨ (232 < a ∧ a < 276) ∨ 465 < a → ¬ rowA (zup h 0 10 0) a := fun a p ⟨j, j0, j1⟩ => by
    rw [zup_ne (show ¬ (81 : Int) = 0 by decide)] at j1
    have := mc_rg (e2 j j0.1 j0.2)
    omega
  have c0 : hc 0 = (zup h 0 10 0) 0 := c1 0 (by decide) (by omega) (by decide) (nr 0 (by decide))
  refine ⟨fun a p q r u v => by rw [c1 a q r u (nr a v), zup_ne p], fun j p => by rw [c0, zup_ns p], by rw [c0, zup_eq], by rw [c2 5 (by decide), zup_ne (by decide)]⟩
theorem Inv_G {h hc ht h1 h2 h' : zH} {L : List nsT} {Dl : List Int} {N : Int} (hI : Inv h) (hN : 0 ≤ N ∧ N ≤ 4) (fl : fLn (h 12 5) (zup h 0 10 0) hc) (tb : TB hc (h 12 5) L Dl) (bd : bdy hc)
    (t1 : ∀ a, ¬ a = 0 → ¬ a = 3 → ¬ a = 12 → ¬ a = 81 → ht a = (zup (zup hc 0 15 0) 0 16 (-1)) a) (t2 : ht 0 9 = (zup (zup hc 0 15 0) 0 16 (-1)) 12 5) (t3 : ht 12 5 = (zup (zup hc 0 15 0) 0 16 (-1)) 0 9) (t4 : ht 0 12 = N) (t5 : ht 0 13 = N) (t6 : ∀ j, ¬ j = 9 → ¬ j = 12 → ¬ j = 13 → ht 0 j = (zup (zup hc 0 15 0) 0 16 (-1)) 0 j) (t7 : ∀ i, 0 ≤ i → ht 3 i = if i < N then (zup (zup hc 0 15 0) 0 16 (-1)) 81 i else (zup (zup hc 0 15 0) 0 16 (-1)) 3 i) (t8 : ∀ i, 0 ≤ i → ht 81 i = if i < N then (zup (zup hc 0 15 0) 0 16 (-1)) 3 i else (zup (zup hc 0 15 0) 0 16 (-1)) 81 i)
    (mff : mFF (zup ht 0 14 0) h1) (e10 : h1 466 10 = 0) (w : wF h1 h2)
    (u1 : ∀ a, ¬ a = 466 → ¬ (471 ≤ a ∧ a ≤ 473) → ¬ (493 ≤ a ∧ a ≤ 509) → h' a = h2 a) (u2 : ∀ j, ¬ j = 1 → ¬ j = 2 → ¬ j = 22 → ¬ j = 64 → ¬ j = 65 → h' 466 j = h2 466 j) (u3 : h' 466 22 = L.length) (u4 : h' 466 64 = N) (u5 : h' 466 65 = N) (u6 : h' 466 1 = 0) (u7 : h' 466 2 = -1) (u8 : ∀ s : Int, 0 ≤ s → s < L.length → 0 ≤ h' 471 s ∧ rgs (fun k => h' 472 (s * 24 + k)) (fun k => h' 473 (s * 24 + k)) 0 (h' 471 s) (gS L s).2) (u9 : ∀ j : Int, 0 ≤ j → j < N → ∃ D : zH, mOK D ∧ mRep h' j D ∧ cRep hc (h 81 j) D ∧ pthOK hc (h 81 j) D) : Inv h' := by
  obtain ⟨k1, k2, k3, k4⟩ := fLn_k hI fl
  have dt := hI.2.2.2.1.1
  obtain ⟨e1, e2, e3, e4, e5, e6⟩ := hI.2.2.2.2.1
  obtain ⟨f1, f2, f3, f4, f5, f6⟩ := mff
  have X : ∀ a, ¬ a = 0 → (zup (zup hc 0 15 0) 0 16 (-1)) a = hc a := fun a p => by rw [zup_ne p, zup_ne p]
  -- the model changes no row of the class
  have R : ∀ a, a ≤ 465 ∨ a = 514 → h' a = (zup ht 0 14 0) a := fun a p => by rw [u1 a (by omega) (by omega) (by omega), w.1 a (by omega) (by omega), f1 a (by omega) (by omega)]
  have R1 : ∀ a, a ≤ 465 ∨ a = 514 → ¬ a = 0 → h' a = ht a := fun a p q => by rw [R a p, zup_ne q]
  have R2 : ∀ a, a ≤ 465 ∨ a = 514 → ¬ a = 0 → ¬ a = 3 → ¬ a = 12 → ¬ a = 81 → h' a = hc a := fun a p q r s t => by rw [R1 a p q, t1 a q r s t, X a q]
  have z0 : ∀ j, ¬ j = 14 → h' 0 j = ht 0 j := fun j p => by rw [R 0 (by omega), zup_ns p]
  have c3 : hc 3 = h 3 := k1 3 (by decide) (by decide) (by omega) (by decide) (by omega)
  have c81 : hc 81 = h 81 := k1 81 (by decide) (by decide) (by omega) (by decide) (by omega)
  have c466 : hc 466 = h 466 := k1 466 (by decide) (by decide) (by omega) (by decide) (by omega)
  have r3 : ∀ i, 0 ≤ i → h' 3 i = if i < N then h 81 i else h 3 i := fun i p => by rw [R1 3 (by omega) (by decide), t7 i p, X 81 (by decide), X 3 (by decide), c3, c81]
  have r81 : ∀ i, 0 ≤ i → h' 81 i = if i < N then h 3 i else h 81 i := fun i p => by rw [R1 81 (by omega) (by decide), t8 i p, X 81 (by decide), X 3 (by decide), c3, c81]
  have tt := tb.1
  have h1t : ∀ a, h 12 5 ≤ a → a ≤ h 12 5 + 26 → h' a = hc a := fun a p q => R2 a (by omega) (by omega) (by omega) (by omega) (by omega)
  have m4 : h' 466 4 = 0 := by rw [u2 4 (by decide) (by decide) (by decide) (by decide) (by decide), w.2.1 4 (by decide), f6]
  have m10 : h' 466 10 = 0 := by rw [u2 10 (by decide) (by decide) (by decide) (by decide) (by decide), w.2.1 10 (by decide), e10]
  have m77 : h' 466 77 = h 466 77 := by rw [u2 77 (by decide) (by decide) (by decide) (by decide) (by decide), w.2.1 77 (by decide), f2 77 (by decide), zup_ne (by decide), t1 466 (by decide) (by decide) (by decide) (by decide), X 466 (by decide), c466]
  refine Inv_bg (N := N) hI hN (fun a p => ?_) r3 r81 ?_ ?_ ⟨?_, ?_⟩ ⟨?_, ?_, ?_⟩ (fun s s0 s1 => ?_) (fun i i0 i1 => ?_) ?_ ⟨?_, ?_, ?_, ?_, ?_, ?_, ?_⟩ ⟨m4, m10, u6, u7, u4, u5, m77⟩
  · rw [R2 a (by omega) (by omega) (by omega) (by omega) (by omega), k1 a (by omega) (by omega) (by omega) (by omega) (by omega)]
  · rw [z0 9 (by decide), t2, X 12 (by decide), k4]
  · rw [R1 12 (by omega) (by decide), t3, zup_ns (by decide), zup_ns (by decide), k2 9 (by decide)]
  · rw [R2 250 (by omega) (by decide) (by decide) (by decide) (by decide), k1 250 (by decide) (by decide) (by omega) (by decide) (by omega)]
  · rw [R2 83 (by omega) (by decide) (by decide) (by decide) (by decide), k1 83 (by decide) (by decide) (by omega) (by decide) (by omega)]
  · rw [h1t _ (by omega) (by omega), tb.2.1]
    omega
  · rw [h1t _ (by omega) (by omega), tb.2.1]
    exact tb.2.2.1
  · rw [h1t (h 12 5) (by omega) (by omega), tb.2.1]
    exact u3
  · rw [h1t _ (by omega) (by omega), tb.2.1] at s1
    have l12 := tb.2.2.1
    obtain ⟨-, -, ls, l48⟩ := tb.2.2.2.2 s s0 s1
    have e1 := h1t (h 12 5 + 3 + 2 * s) (by omega) (by omega)
    have e2 := h1t (h 12 5 + 3 + 2 * s + 1) (by omega) (by omega)
    exact setOK_of (lsP_fr e1 e2 ls) (by rw [e1]; exact l48) (u8 s s0 s1).1 (u8 s s0 s1).2
  · obtain ⟨D, x1, x2, x3, x4⟩ := u9 i i0 i1
    have mr := mc_rg (e2 i i0 (by omega))
    unfold macOK
    rw [r3 i i0, if_pos i1]
    exact ⟨D, x1, cRep_fr (fun a p q => R2 a (by omega) (by omega) (by omega) (by omega) (by omega)) x3, x2, pth_fr (fun a p q => R2 a (by omega) (by omega) (by omega) (by omega) (by omega)) x4⟩
  · exact bdy_fr (fun j _ _ => by rw [bR_k (h := hc) (by rw [R2 17 (by omega) (by decide) (by decide) (by decide) (by decide)]) (by rw [R2 17 (by omega) (by decide) (by decide) (by decide) (by decide)]) (R2 18 (by omega) (by decide) (by decide) (by decide) (by decide)) (R2 19 (by omega) (by decide) (by decide) (by decide) (by decide))]) bd
  · rw [z0 10 (by decide), t6 10 (by decide) (by decide) (by decide), zup_ns (by decide), zup_ns (by decide), k3]
  · rw [z0 11 (by decide), t6 11 (by decide) (by decide) (by decide), zup_ns (by decide), zup_ns (by decide), k2 11 (by decide)]
  · rw [z0 12 (by decide), t4]
  · rw [z0 13 (by decide), t5]
  · rw [R 0 (by omega), zup_eq]
  · rw [z0 15 (by decide), t6 15 (by decide) (by decide) (by decide), zup_ns (by decide), zup_eq]
  · rw [z0 16 (by decide), t6 16 (by decide) (by decide) (by decide), zup_eq]
section CBe
variable {G : zG} {d : Nat} {h : zH}
theorem c_bench {a : Int} (hI : Inv h) (ha : zR a) : twI G (d + 64) mX11_bench mX12_bench [vi a] h := by
  obtain ⟨a1, a2, a3, a4, a5, a6, a7, a8⟩ := hI.1
  obtain ⟨e1, e2, e3, e4, e5, e6⟩ := hI.2.2.2.2.1
  obtain ⟨d1, d2, d3, d4⟩ := hI.2.2.2.1
  obtain ⟨b1, b2, b3⟩ := hI.2.2.2.2.2
  have bad : (a < 0 ∨ h 0 10 < a) → zCi G (d + 63) mX11_refused [vr 11 0, vi 2] h (fun x h2 => zCi G (d + 64) mX12_bench [vr 12 466, vi a] h2 (fun y h4 => zR x ∧ x = y ∧ Inv h4)) := fun q => by
    refine sp_refused (eX12_bench (bX12_bench_0 ?_))
    have e4 : zup h 0 14 2 466 4 = h 0 10 := by rw [zup_ne (by decide)]; omega
    rw [e4]
    exact ⟨ha, fun _ => sm_refused ⟨zR_m1, rfl, Inv_w hI (by decide)⟩, fun q2 => ⟨ha, ⟨by omega, by omega⟩, fun q3 => absurd q3 (by omega), fun _ => sm_refused ⟨zR_m1, rfl, Inv_w hI (by decide)⟩⟩⟩
  refine eX11_bench (bX11_bench_0 ⟨ha, fun q => bad (Or.inl q), fun q => ⟨ha, ⟨by omega, by omega⟩, fun q2 => ?_, fun q2 => bad (Or.inr (by omega))⟩⟩)
  have z : ∀ x, ¬ x = 0 → (zup h 0 10 0) x = h x := fun x p => zup_ne p
  have bb : b0 (h 12 5) (zup h 0 10 0) := ⟨by omega, by rw [z 12 (by decide)], by rw [z 80 (by decide)]; exact b3, by rw [z 81 (by decide)]; exact e2, by rw [z 81 (by decide)]; exact e4⟩
  have bd : bdy (zup h 0 10 0) := bdy_fr (fun j _ _ => by rw [bR_k (h := h) (by rw [z 17 (by decide)]) (by rw [z 17 (by decide)]) (z 18 (by decide)) (z 19 (by decide))]) ⟨b1, b2⟩
  have hT : ∀ s, 0 ≤ s → s < 12 → (zup h 0 10 0) (h 12 5 + 1) s = h 12 5 + 3 + 2 * s := fun s s0 s1 => by
    rw [z _ (by omega)]
    have := d2 s s0 s1
    rcases d1 with ⟨y1, y2⟩ | ⟨y1, y2⟩
    · rw [y2, show (82 : Int) + 1 = 83 from rfl]
      omega
    · rw [y2, show (249 : Int) + 1 = 250 from rfl]
      omega
  have tp : ∀ i, 0 ≤ i → i < a → (-128 ≤ (zup h 0 10 0) 1 i ∧ (zup h 0 10 0) 1 i < 128) ∧ h 467 i = (zup h 0 10 0) 1 i := fun i i0 i1 => by
    rw [z 1 (by decide)]
    exact hI.2.2.1 i i0 (by omega)
  refine sp_readBench (d := d + 54) ⟨by omega, by omega⟩ (fun i i0 i1 => (tp i i0 i1).1) bb bd hT (fun K Sp V En m ts spR n0 hc fl => ⟨fun z => (by cases z), fun _ => ?_⟩) (fun K Sp V En m ts spR e0 wd hc fl => ⟨fun z => (by cases z), fun _ => ?_⟩) (fun K Sp V En m Dl ts e0 hc fl tb c6 ok c8 c9 bdc so bt => ⟨fun _ => ?_, fun z => (by cases z)⟩)
  · obtain ⟨k1, -, -, -⟩ := fLn_k hI fl.1
    have w4 : ∀ x, 466 ≤ x → (zup (zup (zup hc 0 15 (lns K Sp V 902 0 s00).1) 0 16 (lns K Sp V 902 0 s00).2.1) 0 14 4) x = h x := fun x p => by rw [zup_ne (by omega), zup_ne (by omega), zup_ne (by omega), k1 x (by omega) (by omega) (by omega) (by omega) (by omega)]
    rw [fl.2.1, fl.2.2.1]
    exact sp_refused (sm_bench ts ⟨by omega, by omega⟩ (by rw [w4 466 (by decide)]; omega) (fun i i0 i1 => by rw [w4 467 (by decide)]; exact tp i i0 i1) (fun _ h' mff fs => ⟨zR_m1, rfl, Inv_F hI fl (lns_gd spR 902 0 s00) mff fs⟩) (fun z => absurd z n0))
  · obtain ⟨k1, -, -, -⟩ := fLn_k hI fl.1
    have w4 : ∀ x, 466 ≤ x → (zup (zup (zup hc 0 15 8) 0 16 (Sp (lns K Sp V 902 0 s00).2.2.1)) 0 14 4) x = h x := fun x p => by rw [zup_ne (by omega), zup_ne (by omega), zup_ne (by omega), k1 x (by omega) (by omega) (by omega) (by omega) (by omega)]
    rw [fl.2.1, fl.2.2.1]
    refine sp_refused (sm_bench ts ⟨by omega, by omega⟩ (by rw [w4 466 (by decide)]; omega) (fun i i0 i1 => by rw [w4 467 (by decide)]; exact tp i i0 i1) (fun z => absurd e0 z) (fun _ hn h1 c1 bt mff => ?_))
    have so := c1.2.2.2.2.2
    have nl := nO_len so
    refine sm_wides (d := d + 58) (O := nO (lns K Sp V 902 0 s00).2.2.2) (P := fun _ _ => True) (W := fun j => wdM (gM (nO (lns K Sp V 902 0 s00).2.2.2) j)) (cnt_rg so) c1.2.2.2.1 c1.2.1.1 (mMs_nO so c1.2.2.2.2.1) (pOK_nO so) (fun _ _ _ w => w) (fun j j0 j1 nw => ?_) (fun _ h2 h' w g1 g2 fs => ?_) (fun nw => ?_)
    · rcases wd.2 j j0 (by omega) with w | ⟨D, B, T, Pa, Vi, De, M, K0, x1, x2, x3, x4⟩
      · exact absurd w nw
      · exact ⟨D, B, T, Pa, Vi, De, M, K0, x1, x2, x3, x4, trivial⟩
    · have e8 : h1 466 8 = Sp (lns K Sp V 902 0 s00).2.2.1 := c1.2.1.2.2.1.1
      rw [e8] at fs
      rw [fs.1, fs.2.1]
      exact ⟨⟨by decide, by decide⟩, fun z => absurd z (by decide), fun _ => ⟨zR_m1, rfl, Inv_F hI fl (spR _) (mFF_w mff w g1 g2) fs⟩⟩
    · obtain ⟨j, j0, jw⟩ := wd.1
      exact absurd jw (nw j j0.1 (by omega))
  · obtain ⟨k1, -, -, -⟩ := fLn_k hI fl
    have cr := cnt_rg so
    have nl := nO_len so
    rw [c8, c9]
    refine sp_takeBench (N := cnt (lns K Sp V 902 0 s00).2.2.2) (by rw [zup_ne (by decide), zup_ne (by decide), c6]) cr (fun ht t1 t2 t3 t4 t5 t6 t7 t8 => ?_)
    rw [t5]
    have w4 : ∀ x, 466 ≤ x → (zup ht 0 14 0) x = h x := fun x p => by rw [zup_ne (by omega), t1 x (by omega) (by omega) (by omega) (by omega), zup_ne (by omega), zup_ne (by omega), k1 x (by omega) (by omega) (by omega) (by omega) (by omega)]
    refine sp_granted (sm_bench ts ⟨by omega, by omega⟩ (by rw [w4 466 (by decide)]; omega) (fun i i0 i1 => by rw [w4 467 (by decide)]; exact tp i i0 i1) (fun z => absurd e0 z) (fun _ hn h1 c1 _ mff => ?_))
    refine sm_wides (d := d + 58) (O := nO (lns K Sp V 902 0 s00).2.2.2) (P := fun j D => cRep hc (h 81 j) D ∧ pthOK hc (h 81 j) D) (W := fun _ => False) cr c1.2.2.2.1 c1.2.1.1 (mMs_nO so c1.2.2.2.2.1) (pOK_nO so) (fun _ _ _ w => w.elim) (fun j j0 j1 _ => ?_) (fun ⟨_, _, f⟩ => f.elim) (fun _ h2 w mr => ?_)
    · have := ok j j0 (by omega)
      rw [z 81 (by decide)] at this
      obtain ⟨D, x1, x2, x3, x4⟩ := this
      exact ⟨D, _, _, _, _, _, _, _, x1, x2, x4.2.1, rfl, x3, x4⟩
    · have e10 := c1.2.1.1
      rw [w.2.1 10 (by decide), e10]
      refine ⟨⟨by decide, by decide⟩, fun _ => sm_tail (L := (lns K Sp V 902 0 s00).2.2.2.1) (N := cnt (lns K Sp V 902 0 s00).2.2.2) (P := fun j D => cRep hc (h 81 j) D ∧ pthOK hc (h 81 j) D) ?_ (by rw [w.2.1 35 (by decide)]; exact c1.2.2.2.1) cr mr (fun h' u1 u2 u3 u4 u5 u6 u7 u8 u9 => ⟨⟨by omega, by omega⟩, rfl, Inv_G hI cr fl tb bdc t1 t2 t3 t4 t5 t6 t7 t8 mff e10 w u1 u2 u3 u4 u5 u6 u7 u8 u9⟩), fun z => absurd (by decide) z⟩
      have tb1 := c1.2.2.1
      unfold TBm at tb1 ⊢
      rw [w.2.1 23 (by decide), w.1 474 (by decide) (by decide), w.1 471 (by decide) (by decide), w.1 472 (by decide) (by decide), w.1 473 (by decide) (by decide)]
      exact tb1
end CBe
