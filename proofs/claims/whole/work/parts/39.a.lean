/-! ===== pairs, all of them ===== -/
theorem pST_k {h H : zH} {l : Int} {D : zH} {S : Int → Int} (mc : mcell l) (hk : ∀ a, l ≤ a → a ≤ l + 18 → H a = h a) : pST H l D S = pST h l D S ∧ pTk H l = pTk h l := by
  constructor
  · funext a b
    unfold pST CS
    rw [hk (l + 7 + 8) (by omega) (by omega), hk (l + 7 + 2) (by omega) (by omega), hk (l + 7 + 9) (by omega) (by omega)]
  · funext a
    unfold pTk
    rw [hk (l + 7) (by omega) (by omega), hk (l + 7 + 9) (by omega) (by omega)]
section PA
variable {n C1 C2 : Int} {f g f' g' : Int → Int → Int} {U U' k0 k0' : Int} {Nu A B Pa Vi De Nu' A' B' Pa' Vi' De' : Int → Int}
theorem pbf_c (ef : ∀ a b, 0 ≤ b → b < n → f a b = f' a b) (eg : ∀ a b, 0 ≤ b → b < n → g a b = g' a b) (h : pbf n C1 C2 f g U Nu A B Pa Vi De k0) : pbf n C1 C2 f' g' U Nu A B Pa Vi De k0 := by
  obtain ⟨h1, h2, h3, h4, h5, h6⟩ := h
  refine ⟨h1, h2, h3, fun t b t0 t1 b0 b1 k => ?_, fun j j0 j1 => ?_, h6⟩
  · rw [← ef _ b b0 b1, ← eg _ b b0 b1]
    exact h4 t b t0 t1 b0 b1 k
  · obtain ⟨p1, p2, p3, p4, p5⟩ := h5 j j0 j1
    rw [← ef _ _ p2.1 p2.2, ← eg _ _ p2.1 p2.2]
    exact ⟨p1, p2, p3, p4, p5⟩
theorem pbf_inj (h : pbf n C1 C2 f g U Nu A B Pa Vi De k0) {i j : Int} (hi : 0 ≤ i ∧ i < U) (hj : 0 ≤ j ∧ j < U) (ea : A i = A j) (eb : B i = B j) : i = j := by
  have a := (h.2.1 i hi.1 hi.2).2.2
  have b := (h.2.1 j hj.1 hj.2).2.2
  rw [ea, eb, b] at a
  exact a.symm
/-- what the next pair is does not depend on who looks -/
theorem pbf_step (h : pbf n C1 C2 f g U Nu A B Pa Vi De k0) (h' : pbf n C1 C2 f g U' Nu' A' B' Pa' Vi' De' k0') {j : Int} (j0 : 0 < j) (j1 : j < U) (j2 : j < U') (ih : ∀ i, 0 ≤ i → i < j → A i = A' i ∧ B i = B' i) (le : Pa j * 256 + Vi j ≤ Pa' j * 256 + Vi' j) : A j = A' j ∧ B j = B' j := by
  obtain ⟨p1, p2, p3, p4, -, p6⟩ := h.2.2.2.2.1 j j0 j1
  obtain ⟨q1, q2, q3, q4, -, q6⟩ := h'.2.2.2.2.1 j j0 j2
  obtain ⟨i, hi, ea, eb, le2⟩ := h'.2.2.2.1 (Pa j) (Vi j) p1.1 (by omega) p2.1 p2.2 (by omega)
  have x := ih (Pa j) p1.1 p1.2
  rw [← x.1, ← p3] at ea
  rw [← x.2, ← p4] at eb
  have ij : i ≤ j := by
    by_cases w : i ≤ j
    · exact w
    · have := h'.2.2.2.2.2 j i j0 (by omega) hi.2
      omega
  by_cases w : i = j
  · rw [w] at ea eb
    exact ⟨ea.symm, eb.symm⟩
  · have y := ih i hi.1 (by omega)
    have := pbf_inj h (i := i) (j := j) (by omega) (by omega) (by rw [y.1, ea]) (by rw [y.2, eb])
    omega
theorem pbf_same (h : pbf n C1 C2 f g U Nu A B Pa Vi De k0) (h' : pbf n C1 C2 f g U' Nu' A' B' Pa' Vi' De' k0') : ∀ (j : Nat), (j : Int) < U → (j : Int) < U' → A j = A' j ∧ B j = B' j := by
  intro j
  induction j using Nat.strongRecOn with
  | _ j ih =>
    intro j1 j2
    have ih2 : ∀ i, 0 ≤ i → i < (j : Int) → A i = A' i ∧ B i = B' i := fun i i0 i1 => by
      have := ih i.toNat (by omega) (by omega) (by omega)
      rwa [show ((i.toNat : Nat) : Int) = i by omega] at this
    by_cases z : j = 0
    · rw [z]
      show A 0 = A' 0 ∧ B 0 = B' 0
      rw [h.1.2.1, h'.1.2.1, h.1.2.2.1, h'.1.2.2.1]
      exact ⟨rfl, rfl⟩
    · by_cases le : Pa j * 256 + Vi j ≤ Pa' j * 256 + Vi' j
      · exact pbf_step h h' (by omega) j1 j2 ih2 le
      · have := pbf_step h' h (j := j) (by omega) j2 j1 (fun i i0 i1 => ⟨(ih2 i i0 i1).1.symm, (ih2 i i0 i1).2.symm⟩) (by omega)
        exact ⟨this.1.symm, this.2.symm⟩
/-- all pairs are no fewer than some -/
theorem pbf_all (n256 : n ≤ 256) (h : pbf n C1 C2 f g U Nu A B Pa Vi De (U * 256)) (h' : pbf n C1 C2 f g U' Nu' A' B' Pa' Vi' De' k0') : U' ≤ U := by
  by_cases w : U' ≤ U
  · exact w
  · have u1 := h.1.1
    have sm : ∀ i, 0 ≤ i → i < U → A i = A' i ∧ B i = B' i := fun i i0 i1 => by
      have := pbf_same h h' i.toNat (by omega) (by omega)
      rwa [show ((i.toNat : Nat) : Int) = i by omega] at this
    obtain ⟨q1, q2, q3, q4, -, q6⟩ := h'.2.2.2.2.1 U (by omega) (by omega)
    obtain ⟨i, hi, ea, eb, -⟩ := h.2.2.2.1 (Pa' U) (Vi' U) q1.1 q1.2 q2.1 q2.2 (by omega)
    have x := sm (Pa' U) q1.1 q1.2
    have y := sm i hi.1 hi.2
    rw [x.1, ← q3, y.1] at ea
    rw [x.2, ← q4, y.2] at eb
    have := pbf_inj h' (i := i) (j := U) (by omega) (by omega) ea eb
    omega
end PA
section PJ
variable {G : zG} {d : Nat} {h D E : zH} {l1 l2 : Int}
/-- all but the draft's and the pairs' rows -/
def frJ (h h' : zH) : Prop := ∀ a, ¬ (4 ≤ a ∧ a ≤ 11) → ¬ (233 ≤ a ∧ a ≤ 241) → h' a = h a
/-- the class draws all pairs -/
theorem sp_drawAll {K : Bool → zH → Prop} {F : Int} (mc1 : mcell l1) (mc2 : mcell l2) (hD : mOK D) (hE : mOK E) (o1 : cRep h l1 D) (o2 : cRep h l2 E) (p1 : pthOK h l1 D) (p2 : pthOK h l2 E)
    (k1 : ∀ (h' : zH) (S : Int → Int) (n en : Int) (U : Nat) (Nu A B Pa Vi De : Int → Int), frJ h h' → jC D E S n → pbf n (h (l1 + 7) 10) (h (l2 + 7) 10) (pST h l1 D S) (pST h l2 E S) U Nu A B Pa Vi De ((U : Int) * 256) → (1 ≤ U ∧ U ≤ 40) → zRL en → (∀ q, tS en q ↔ (0 ≤ q ∧ q < (U : Int)) ∧ ztr F (pTk h l1 (A q)) (pTk h l2 (B q)) = true) → drC h' U en (eA (fun q b => Nu (pST h l1 D S (A q) b * 40 + pST h l2 E S (B q) b)) S n U) [] → lBk h' (eA (fun q b => Nu (pST h l1 D S (A q) b * 40 + pST h l2 E S (B q) b)) S n U) → K true h')
    (k2 : ∀ (h' : zH) (S : Int → Int) (n U k0 : Int) (Nu A B Pa Vi De : Int → Int), frJ h h' → jC D E S n → pbf n (h (l1 + 7) 10) (h (l2 + 7) 10) (pST h l1 D S) (pST h l2 E S) U Nu A B Pa Vi De k0 → 40 < U → K false h') : zCb G (d + 4) mX6_drawAll [vr 6 233, vr 4 l1, vr 4 l2, vi F] h K := by
  have r1 := mcell_rg mc1
  have r2 := mcell_rg mc2
  have hp := pth_p p1
  have hq := pth_p p2
  have pn := pP_n hp
  have qn := pP_n hq
  refine eX6_drawAll (bX6_drawAll_0 (sp_pBegin (d := d + 1) mc1 mc2 hD hE o1 o2 hp hq (fun h2 jc fx pb u1 e7 e8 e9 e10 e12 => ?_)))
  obtain ⟨S, eS⟩ : ∃ S, h2 10 = S := ⟨_, rfl⟩
  obtain ⟨n, en⟩ : ∃ n, h2 4 11 = n := ⟨_, rfl⟩
  rw [eS, en] at jc fx pb
  have hS := jc.1
  have n256 := hS.1
  -- the draft is still bare
  have bare : ∀ h3 : zH, h3 4 = h2 4 → h3 10 = S → ∀ u : Int, u ≤ 40 → 1 ≤ u → drC (zup h3 4 7 u) u 0 [] [] := fun h3 e4 e3 u u40 u1 => by
    have o4 : ∀ j, ¬ j = 7 → (zup h3 4 7 u) 4 j = h2 4 j := fun j p => by rw [zup_ns p, e4]
    have ft : fits u [] [] := ⟨u40, by decide, by decide⟩
    unfold drC
    rw [zup_eq, o4 8 (by decide), o4 9 (by decide), o4 10 (by decide), o4 11 (by decide), o4 12 (by decide), zup_ne (by decide : ¬ (10 : Int) = 4), e3, en, e8, e9, e10, e12]
    exact ⟨⟨rfl, rfl⟩, hS, ⟨by omega, fun e a b => absurd b (by omega)⟩, by omega, fun _ => ⟨rfl, fun e a b => absurd b (by simp; omega)⟩, fun _ => ⟨rfl, fun e a b => absurd b (by simp; omega)⟩, fun z => absurd z (by decide), fun z => absurd z (by decide), fun _ => rfl, fun z => absurd ft z⟩
  -- the edges
  have draw : ∀ (h3 : zH) (U : Nat), pFx h h3 D E S n → h3 4 = h2 4 → (U : Int) = h3 233 9 → 1 ≤ U ∧ U ≤ 40 → pB h h3 l1 l2 D E S n ((U : Int) * 256) → tX6_drawAll_64 G (d + 3) K l1 l2 F 0 (zup h3 4 7 U) := by
    intro h3 U fx3 e4 eU U0 pb3
    obtain ⟨T, eT⟩ : ∃ T : Int → Int → Int, T = fun q b => h3 234 (pST h l1 D S (h3 235 q) b * 40 + pST h l2 E S (h3 236 q) b) := ⟨_, rfl⟩
    have pb4 : pbf n (h (l1 + 7) 10) (h (l2 + 7) 10) (pST h l1 D S) (pST h l2 E S) U (h3 234) (h3 235) (h3 236) (h3 237) (h3 238) (h3 239) ((U : Int) * 256) := by
      rw [eU]
      rw [eU] at pb3
      exact pb3
    have rT : ∀ q b : Int, 0 ≤ q → q < U → 0 ≤ b → b < n → 0 ≤ T q b ∧ T q b < U := fun q b q0 q1 b0 b1 => by
      obtain ⟨j, hj, ea, eb, -⟩ := pb4.2.2.2.1 q b q0 q1 b0 b1 (by omega)
      have := (pb4.2.1 j hj.1 hj.2).2.2
      rw [eT]
      show 0 ≤ h3 234 (pST h l1 D S (h3 235 q) b * 40 + pST h l2 E S (h3 236 q) b) ∧ h3 234 (pST h l1 D S (h3 235 q) b * 40 + pST h l2 E S (h3 236 q) b) < U
      rw [← ea, ← eb, this]
      exact hj
    -- what stays as it is
    obtain ⟨FX, eFX⟩ : ∃ FX : zH → Prop, FX = fun h5 => (∀ a, ¬ (4 ≤ a ∧ a ≤ 9) → h5 a = h3 a) ∧ h5 4 11 = n := ⟨_, rfl⟩
    have fxx : ∀ h5, FX h5 → (∀ a, ¬ (4 ≤ a ∧ a ≤ 9) → h5 a = h3 a) ∧ h5 4 11 = n ∧ h5 10 = S ∧ frJ h h5 ∧ pthOK h5 l1 D ∧ pthOK h5 l2 E ∧ pFx h5 h5 D E S n ∧ pST h5 l1 D S = pST h l1 D S ∧ pST h5 l2 E S = pST h l2 E S ∧ pTk h5 l1 = pTk h l1 ∧ pTk h5 l2 = pTk h l2 ∧ h5 (l1 + 7) = h (l1 + 7) ∧ h5 (l2 + 7) = h (l2 + 7) := fun h5 q => by
      rw [eFX] at q
      have c1 : ∀ a, l1 ≤ a → a ≤ l1 + 18 → h5 a = h a := fun a x y => by rw [q.1 a (by unfold mrg at r1; omega), fx3.1 a (by unfold mrg at r1; omega) (by unfold mrg at r1; omega) (by unfold mrg at r1; omega)]
      have c2 : ∀ a, l2 ≤ a → a ≤ l2 + 18 → h5 a = h a := fun a x y => by rw [q.1 a (by unfold mrg at r2; omega), fx3.1 a (by unfold mrg at r2; omega) (by unfold mrg at r2; omega) (by unfold mrg at r2; omega)]
      have e10' : h5 10 = S := by rw [q.1 10 (by decide), fx3.2.1]
      refine ⟨q.1, q.2, e10', fun a x y => by rw [q.1 a (by omega), fx3.1 a y (by omega) (by omega)], pth_fr (fun a x y => c1 a (by omega) (by omega)) p1, pth_fr (fun a x y => c2 a (by omega) (by omega)) p2, ⟨fun _ _ _ _ => rfl, e10', q.2, ?_⟩, (pST_k mc1 c1).1, (pST_k mc2 c2).1, (pST_k (D := D) (S := S) mc1 c1).2, (pST_k (D := E) (S := S) mc2 c2).2, c1 _ (by omega) (by omega), c2 _ (by omega) (by omega)⟩
      rw [q.1 240 (by decide), q.1 241 (by decide)]
      exact fx3.2.2.2
    have fxT : ∀ h5 h6, FX h5 → dF h5 h6 → FX h6 := fun h5 h6 a b => by
      rw [eFX] at a ⊢
      exact ⟨fun x p => (b.1 x p).trans (a.1 x p), b.2.trans a.2⟩
    have ab : ∀ h5, FX h5 → ∀ q : Int, 0 ≤ q → q < U → (0 ≤ h5 235 q ∧ h5 235 q < h5 (l1 + 7) 10) ∧ (0 ≤ h5 236 q ∧ h5 236 q < h5 (l2 + 7) 10) := fun h5 f q q0 q1 => by
      obtain ⟨x1, -, -, -, -, -, -, -, -, -, -, y1, y2⟩ := fxx h5 f
      have := pb4.2.1 q q0 q1
      rw [x1 235 (by decide), x1 236 (by decide), y1, y2]
      exact ⟨this.1, this.2.1⟩
    have l76 : ∀ (f : Nat) (q b : Nat) (h5 : zH) (ez : Int), (q : Int) < U → (b : Int) + f = n → FX h5 → zRL ez → (∀ k, tS ez k ↔ (0 ≤ k ∧ k < (q : Int)) ∧ ztr F (pTk h l1 (h3 235 k)) (pTk h l2 (h3 236 k)) = true) → drC h5 U ez (eA T S n q ++ eP T S n q b b) [] → (∀ (h6 : zH) (ez' : Int), FX h6 → zRL ez' → (∀ k, tS ez' k ↔ (0 ≤ k ∧ k < (q : Int) + 1) ∧ ztr F (pTk h l1 (h3 235 k)) (pTk h l2 (h3 236 k)) = true) → drC h6 U ez' (eA T S n (q + 1)) [] → tX6_drawAll_64 G (d + 3) K l1 l2 F ((q : Int) + 1) h6) → tX6_drawAll_76 G (d + 3) K l1 l2 F q b h5 := by
      intro f
      induction f with
      | zero =>
        intro q b h5 ez q1 bf f5 z0 z1 dc nx
        obtain ⟨x1, x2, x3, x4, x5, x6, x7, x8, x9, y1, y2, y3, y4⟩ := fxx h5 f5
        have aq := ab h5 f5 q (by omega) q1
        refine bX6_drawAll_76 ?_
        rw [x2]
        refine ⟨⟨by omega, by omega⟩, ⟨by omega, by omega⟩, fun _ => sp_isTrueOf (d := d + 1) r1 r2 (pth_p x5) (pth_p x6) x7 (by omega) aq.1 aq.2 ?_, fun z => absurd (by omega) z⟩
        rw [y1, y2, x1 235 (by decide), x1 236 (by decide)]
        have dc2 : drC h5 U ez (eA T S n (q + 1)) [] := by
          rw [eA_s, show n.toNat = b by omega, ← eP_Q n256.1 (show n ≤ (b : Int) by omega)]
          exact dc
        have e48 : h5 4 8 = ez := dc.1.2
        refine ⟨fun w => nx h5 ez f5 z0 (fun k => ?_) dc2, fun w => ?_⟩
        · rw [z1 k]
          constructor
          · rintro ⟨a, b⟩
            exact ⟨by omega, b⟩
          · rintro ⟨a, b⟩
            by_cases v : k = q
            · rw [v, w] at b
              cases b
            · exact ⟨by omega, b⟩
        · rw [e48]
          refine nx _ _ (fxT h5 _ f5 ⟨fun x p => zup_ne (by omega), zup_ns (by decide)⟩) (zlor_R _ _) (fun k => ?_) (drC_en dc2)
          rw [tS_lor, tS_shl (by omega) (by omega), z1 k]
          constructor
          · rintro (⟨a, b⟩ | a)
            · exact ⟨by omega, b⟩
            · rw [a]
              exact ⟨by omega, w⟩
          · rintro ⟨a, b⟩
            by_cases v : k = q
            · exact Or.inr v
            · exact Or.inl ⟨by omega, b⟩
      | succ f ih =>
        intro q b h5 ez q1 bf f5 z0 z1 dc nx
        obtain ⟨x1, x2, x3, x4, x5, x6, x7, x8, x9, y1, y2, y3, y4⟩ := fxx h5 f5
        have aq := ab h5 f5 q (by omega) q1
        have ra := pST_rg (a := h5 235 q) (b := b) hD (pth_p x5) hS aq.1 (by omega)
        have rb := pST_rg (a := h5 236 q) (b := b) hE (pth_p x6) hS aq.2 (by omega)
        rw [y3] at ra
        rw [y4] at rb
        refine bX6_drawAll_76 ?_
        rw [x2]
        refine ⟨⟨by omega, by omega⟩, ⟨by omega, by omega⟩, fun z => absurd z (by omega), fun _ => sp_keyAfter (d := d + 1) r1 r2 hD hE (pth_p x5) (pth_p x6) hS x7 (by omega) aq.1 aq.2 (by omega) ⟨by omega, ?_⟩⟩
        rw [x8, x9, x1 235 (by decide), x1 236 (by decide), x1 234 (by decide)]
        have et : h3 234 (pST h l1 D S (h3 235 q) b * 40 + pST h l2 E S (h3 236 q) b) = T q b := by rw [eT]
        rw [et]
        have tq := rT q b (by omega) q1 (by omega) (by omega)
        refine sp_lead (d := d + 2) hS (by omega) (by omega) x3 x2 (eA_low n256.1 q) ⟨by omega, by omega⟩ dc (fun h6 g1 g2 => ?_)
        have := ih q (b + 1) h6 ez q1 (by omega) (fxT h5 h6 f5 g1) z0 z1 g2 nx
        rwa [show ((b + 1 : Nat) : Int) = (b : Int) + 1 by omega] at this
    have l64 : ∀ (f : Nat) (q : Nat) (h5 : zH) (ez : Int), q + f = U → FX h5 → zRL ez → (∀ k, tS ez k ↔ (0 ≤ k ∧ k < (q : Int)) ∧ ztr F (pTk h l1 (h3 235 k)) (pTk h l2 (h3 236 k)) = true) → drC h5 U ez (eA T S n q) [] → tX6_drawAll_64 G (d + 3) K l1 l2 F q h5 := by
      intro f
      induction f with
      | zero =>
        intro q h5 ez qf f5 z0 z1 dc
        have eq : q = U := by omega
        subst eq
        obtain ⟨x1, x2, x3, x4, -⟩ := fxx h5 f5
        have lb := lBk_t (T := T) (N := q) hS x3 x2
        refine bX6_drawAll_64 ?_
        rw [x1 233 (by decide), ← eU]
        rw [eT] at dc lb
        exact ⟨⟨by omega, by omega⟩, ⟨by omega, by omega⟩, fun _ => k1 h5 S n ez q _ _ _ _ _ _ x4 jc pb4 U0 z0 z1 dc lb, fun z => absurd (Int.le_refl _) z⟩
      | succ f ih =>
        intro q h5 ez qf f5 z0 z1 dc
        obtain ⟨x1, x2, x3, x4, -⟩ := fxx h5 f5
        refine bX6_drawAll_64 ?_
        rw [x1 233 (by decide), ← eU]
        refine ⟨⟨by omega, by omega⟩, ⟨by omega, by omega⟩, fun z => absurd z (by omega), fun _ => l76 n.toNat q 0 h5 ez (by omega) (by omega) f5 z0 z1 (by show drC h5 U ez (eA T S n q ++ []) []; rw [List.append_nil]; exact dc) (fun h6 ez' g1 g2 g3 g4 => ?_)⟩
        have := ih (q + 1) h6 ez' (by omega) g1 g2 (by rw [show ((q + 1 : Nat) : Int) = (q : Int) + 1 by omega]; exact g3) g4
        rwa [show ((q + 1 : Nat) : Int) = (q : Int) + 1 by omega] at this
    refine l64 U 0 _ 0 (by omega) ?_ zRL_0 (fun k => ⟨fun z => absurd z tS_0, fun z => absurd z.1.2 (by omega)⟩) (bare h3 e4 fx3.2.1 U (by omega) (by omega))
    rw [eFX]
    exact ⟨fun a p => zup_ne (by omega), by rw [zup_ns (by decide)]; exact fx3.2.2.1⟩
  -- the pairs
  have l9 : ∀ (f : Nat) (p : Nat) (h3 : zH), p + f = 40 → (p : Int) ≤ h3 233 9 → pFx h h3 D E S n → h3 4 = h2 4 → pB h h3 l1 l2 D E S n ((p : Int) * 256) → tX6_drawAll_9 G (d + 3) K l1 l2 F p h3 := by
    intro f
    have done : ∀ (p : Nat) (h3 : zH), (p : Int) = 40 ∨ h3 233 9 ≤ p → (p : Int) ≤ h3 233 9 → pFx h h3 D E S n → h3 4 = h2 4 → pB h h3 l1 l2 D E S n ((p : Int) * 256) → zR (h3 233 9) ∧ (h3 233 9 ≤ 40 → tX6_drawAll_64 G (d + 3) K l1 l2 F 0 (zup h3 4 7 (h3 233 9))) ∧ (¬ h3 233 9 ≤ 40 → K false h3) := by
      intro p h3 hp' pu fx3 e4 pb3
      have uu := pbf_U (by omega) pb3
      refine ⟨⟨by omega, by omega⟩, fun w => ?_, fun w => k2 h3 S n _ _ _ _ _ _ _ _ (fun a x y => fx3.1 a y (by omega) (by omega)) jc pb3 (by omega)⟩
      have ep : h3 233 9 = p := by omega
      rw [ep]
      exact draw h3 p fx3 e4 ep.symm (by omega) pb3
    induction f with
    | zero =>
      intro p h3 pf pu fx3 e4 pb3
      exact bX6_drawAll_9 ⟨⟨by omega, by omega⟩, fun _ => done p h3 (Or.inl (by omega)) pu fx3 e4 pb3, fun z => absurd (by omega) z⟩
    | succ f ih =>
      intro p h3 pf pu fx3 e4 pb3
      have uu := pbf_U (by omega) pb3
      refine bX6_drawAll_9 ⟨⟨by omega, by omega⟩, fun z => absurd z (by omega), fun _ => ⟨⟨by omega, by omega⟩, ⟨by omega, by omega⟩, fun z => done p h3 (Or.inr z) pu fx3 e4 pb3, fun z => sp_widen r1 r2 hD hE hp hq hS fx3 pb3 (by omega) (by omega) (fun h4 g1 g2 g3 g4 _ => ?_)⟩⟩
      have := ih (p + 1) h4 (by omega) (by omega) g1 (g2.trans e4) (by rw [show ((p + 1 : Nat) : Int) = (p : Int) + 1 by omega]; exact g3)
      rwa [show ((p + 1 : Nat) : Int) = (p : Int) + 1 by omega] at this
  exact l9 40 0 h2 (by omega) (by omega) fx rfl pb
end PJ
