/-! ===== only ===== -/
section MP
variable {G : zG} {d : Nat} {h D : zH} {n en : Int} {LE : List eT} {LF : List fT}
/-- the letters of a block that a set has -/
theorem sm_buildsOnly {K : zH → Prop} {a b s U e c : Int} {co : Int → Int} (hs : 0 ≤ s ∧ s < 24) (ms : mS h s U co) (hD : mOK D) (hc : 0 ≤ c ∧ c < D 0 4) (w : dEH D e c = true) (k : drM h n (LE ++ [(a, b, fun z => oX D co U e z && decide (z < D 7 c))]) LF) (l0 : LE.length < 160) (p0 : 0 ≤ h 488 LE.length) (p1 : h 488 LE.length + 87 ≤ 14000) (kk : ∀ h' : zH, bF h h' → (∀ j, ¬ j = LE.length + 1 → h' 488 j = h 488 j) → drM h' n (LE ++ [(a, b, fun z => oX D co U e z && decide (z < dEnd D c))]) LF → K h') : zCv G (d + 1) mX12_buildsOnly [vr 12 466, vi s, vi (D 7 c), vi (dEnd D c - 1)] h K := by
  obtain ⟨hco, U48, e71, e723⟩ := ms
  have hco' := hco
  obtain ⟨c1, c2, c3, c4⟩ := hco'
  have sc := mO_s hD hc.1 hc.2
  have en := dEnd_ok hD hc.1 hc.2
  have blk : ∀ z, D 7 c ≤ z → z < dEnd D c → pX D e z = true := fun z z0 z1 => by
    unfold pX
    rw [dB_u hD (by omega) hc.1 hc.2 z0 z1]
    exact w
  have go : ∀ (f : Nat) (i p : Int) (h1 : zH), 0 ≤ i ∧ i ≤ U / 2 → U / 2 - i ≤ f → D 7 c ≤ p ∧ p ≤ dEnd D c → (i < U / 2 → p ≤ D 7 c ∨ p ≤ co (2 * i)) → (∀ z j, p ≤ z → z < dEnd D c → 0 ≤ j → 2 * j + 1 < U → co (2 * j) ≤ z → z < co (2 * j + 1) → i ≤ j) → bF h h1 → (∀ j, ¬ j = LE.length + 1 → h1 488 j = h 488 j) → drM h1 n (LE ++ [(a, b, fun z => oX D co U e z && decide (z < p))]) LF → tX12_buildsOnly_6 G d K s (D 7 c) (dEnd D c - 1) (s * 24 + i) h1 := by
    intro f
    have fin : ∀ (i p : Int) (h1 : zH), U / 2 ≤ i → D 7 c ≤ p ∧ p ≤ dEnd D c → (∀ z j, p ≤ z → z < dEnd D c → 0 ≤ j → 2 * j + 1 < U → co (2 * j) ≤ z → z < co (2 * j + 1) → i ≤ j) → bF h h1 → (∀ j, ¬ j = LE.length + 1 → h1 488 j = h 488 j) → drM h1 n (LE ++ [(a, b, fun z => oX D co U e z && decide (z < p))]) LF → K h1 := fun i p h1 q1 q2 q3 g1 g2 g3 => kk h1 g1 g2 (drM_f (fun z z0 z1 => by
      show (oX D co U e z && decide (z < p)) = (oX D co U e z && decide (z < dEnd D c))
      by_cases v : z < p
      · rw [decide_eq_true v, decide_eq_true (show z < dEnd D c by omega)]
      · by_cases v2 : z < dEnd D c
        · cases y : oX D co U e z
          · rfl
          · obtain ⟨-, j, j0, j1, j2, j3⟩ := oX_t.mp y
            have := q3 z j (by omega) v2 j0 j1 j2 j3
            omega
        · rw [decide_eq_false v, decide_eq_false v2]) g3)
    induction f with
    | zero =>
      intro i p h1 hi hf hp q1 q2 g1 g2 g3
      refine bX12_buildsOnly_6 ?_
      rw [g1.1 471 (by decide) (by decide), e71]
      exact ⟨hs, ⟨by omega, by omega⟩, ⟨by omega, by omega⟩, fun z => fin i p h1 (by omega) hp q2 g1 g2 g3, fun z => absurd hf (by omega)⟩
    | succ f ih =>
      intro i p h1 hi hf hp q1 q2 g1 g2 g3
      refine bX12_buildsOnly_6 ?_
      rw [g1.1 471 (by decide) (by decide), e71]
      refine ⟨hs, ⟨by omega, by omega⟩, ⟨by omega, by omega⟩, fun z => fin i p h1 (by omega) hp q2 g1 g2 g3, fun z => ?_⟩
      have il : i < U / 2 := by omega
      obtain ⟨r1, r2⟩ := e723 i hi.1 il
      rw [g1.1 472 (by decide) (by decide), g1.1 473 (by decide) (by decide), r1, r2]
      have b1 := c3 (2 * i) (by omega) (by omega)
      have b2 := c3 (2 * i + 1) (by omega) (by omega)
      have b3 := c4 (2 * i) (2 * i + 1) (by omega) (by omega) (by omega)
      have up : i + 1 < U / 2 → co (2 * i + 1) < co (2 * (i + 1)) := fun q => c4 _ _ (by omega) (by omega) (by omega)
      have q1' := q1 il
      -- ranges behind
      have q2n : ∀ z j, p ≤ z → z < dEnd D c → 0 ≤ j → 2 * j + 1 < U → co (2 * j) ≤ z → z < co (2 * j + 1) → ¬ (co (2 * i) ≤ z ∧ z < co (2 * i + 1)) → i + 1 ≤ j := fun z j y0 y1 y2 y3 y4 y5 y6 => by
        have := q2 z j y0 y1 y2 y3 y4 y5
        by_cases v : j = i
        · rw [v] at y4 y5
          exact absurd ⟨y4, y5⟩ y6
        · omega
      have skip : (∀ z, D 7 c ≤ z → z < dEnd D c → ¬ (co (2 * i) ≤ z ∧ z < co (2 * i + 1))) → tX12_buildsOnly_6 G d K s (D 7 c) (dEnd D c - 1) (s * 24 + i + 1) h1 := fun no => by
        rw [show s * 24 + i + 1 = s * 24 + (i + 1) by omega]
        refine ih (i + 1) p h1 (by omega) (by omega) hp (fun y => ?_) (fun z j y0 y1 y2 y3 y4 y5 => q2n z j y0 y1 y2 y3 y4 y5 (no z (by omega) y1)) g1 g2 g3
        have := up y
        omega
      have put : ∀ u v : Int, D 7 c ≤ u → co (2 * i) ≤ u → (u = D 7 c ∨ u = co (2 * i)) → v ≤ dEnd D c - 1 → v ≤ co (2 * i + 1) - 1 → (v = dEnd D c - 1 ∨ v = co (2 * i + 1) - 1) → u ≤ v → zCv G d mX12_buildsRange [vr 12 466, vi u, vi v] h1 (fun h2 => tX12_buildsOnly_6 G d K s (D 7 c) (dEnd D c - 1) (s * 24 + i + 1) h2) := by
        intro u v u1 u2 u3 v1 v2 v3 uv
        have pu : p ≤ u := by omega
        refine sm_buildsRange (g := fun z => oX D co U e z && decide (z < v + 1)) g3 l0 (by rw [g2 _ (by omega)]; exact p0) (by omega) (fun z z0 z1 => ?_) (fun z z0 z1 => ?_) (fun lo hi c' y1 y2 => ?_) (fun h2 f1 f2 f3 => ?_)
        · show (oX D co U e z && decide (z < p)) = false
          rw [decide_eq_false (by omega), Bool.and_false]
        · show (oX D co U e z && decide (z < v + 1)) = true ↔ (oX D co U e z && decide (z < p)) = true ∨ _
          rw [Bool.and_eq_true, Bool.and_eq_true, decide_eq_true_iff, decide_eq_true_iff]
          constructor
          · rintro ⟨t, y⟩
            by_cases x : z < p
            · exact Or.inl ⟨t, x⟩
            · refine Or.inr ⟨?_, by omega⟩
              obtain ⟨-, j, j0, j1, j2, j3⟩ := oX_t.mp t
              have ij := q2 z j (by omega) (by omega) j0 j1 j2 j3
              have : co (2 * i) ≤ co (2 * j) := by
                by_cases x2 : i = j
                · rw [x2]
                  exact Int.le_refl _
                · have := c4 (2 * i) (2 * j) (by omega) (by omega) (by omega)
                  omega
              omega
          · rintro (⟨t, y⟩ | ⟨y1, y2⟩)
            · exact ⟨t, by omega⟩
            · exact ⟨oX_t.mpr ⟨blk z (by omega) (by omega), i, hi.1, by omega, by omega, by omega⟩, by omega⟩
        · rw [g2 _ (by omega)] at y1 y2
          have := rgs_rc y2 y1 (rcn_pre (p := v + 1) (rcn_only hD (e := e) hco U48) (fun z z0 z1 => by
            show (oX D co U e z && decide (z < v + 1)) = true ↔ _
            rw [Bool.and_eq_true, decide_eq_true_iff]))
          omega
        · rw [show s * 24 + i + 1 = s * 24 + (i + 1) by omega]
          refine ih (i + 1) (v + 1) h2 (by omega) (by omega) (by omega) (fun y => ?_) (fun z j y0 y1 y2 y3 y4 y5 => q2n z j (by omega) y1 y2 y3 y4 y5 (by omega)) (bF_t g1 f1) (fun j y => by rw [f2 j y, g2 j y]) f3
          have := up y
          omega
      refine ⟨by omega, ⟨by omega, by omega⟩, ⟨by omega, by omega⟩, fun x1 => ⟨by omega, ⟨by omega, by omega⟩, ⟨by omega, by omega⟩, fun x2 => ⟨⟨by omega, by omega⟩, ⟨by omega, by omega⟩, fun x3 => absurd x3 (by omega), fun x3 => put _ _ (by omega) (by omega) (by omega) (by omega) (by omega) (by omega) (by omega)⟩, fun x2 => ⟨by omega, ⟨by omega, by omega⟩, ⟨by omega, by omega⟩, fun x3 => skip (fun z y0 y1 y2 => by omega), fun x3 => put _ _ (by omega) (by omega) (by omega) (by omega) (by omega) (by omega) (by omega)⟩⟩, fun x1 => ⟨by omega, by omega, ⟨by omega, by omega⟩, ⟨by omega, by omega⟩, fun x2 => ⟨⟨by omega, by omega⟩, ⟨by omega, by omega⟩, fun x3 => skip (fun z y0 y1 y2 => by omega), fun x3 => put _ _ (by omega) (by omega) (by omega) (by omega) (by omega) (by omega) (by omega)⟩, fun x2 => ⟨by omega, ⟨by omega, by omega⟩, ⟨by omega, by omega⟩, fun x3 => absurd x3 (by omega), fun x3 => put _ _ (by omega) (by omega) (by omega) (by omega) (by omega) (by omega) (by omega)⟩⟩⟩
  refine eX12_buildsOnly (bX12_buildsOnly_0 ?_)
  have := go (U / 2).toNat 0 (D 7 c) h (by omega) (by omega) (by omega) (fun _ => Or.inl (Int.le_refl _)) (fun z j _ _ j0 _ _ _ => j0) (bF_r h) (fun _ _ => rfl) k
  rwa [Int.add_zero] at this
end MP
