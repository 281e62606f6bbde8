/-! ===== steps of classes; the dead class ===== -/
def CS (h : zH) (p c b : Int) : Int := h (p + 8) (h (p + 2) (h (p + 9) c * 128 + b))
/-- facts of a class's step -/
theorem pP_step {h : zH} {p : Int} {D : zH} (hp : pthP h p D) (hD : mOK D) {c b : Int} (c0 : 0 ≤ c) (c1 : c < h p 10) (b0 : 0 ≤ b) (b1 : b < D 0 4) : (0 ≤ h (p + 9) c ∧ h (p + 9) c < h p 0) ∧ (0 ≤ h (p + 2) (h (p + 9) c * 128 + b) ∧ h (p + 2) (h (p + 9) c * 128 + b) < h p 0) ∧ (0 ≤ CS h p c b ∧ CS h p c b < h p 10) := by
  obtain ⟨p7, pb, pt, R, pR, pc⟩ := hp
  have a := cl_He pc c0 c1
  have e := bfs_T pb a.1 a.2 b0 b1 hD
  exact ⟨a, e, cl_Ki pc e.1 e.2⟩
theorem pP_n {h : zH} {p : Int} {D : zH} (hp : pthP h p D) : (1 ≤ h p 0 ∧ h p 0 ≤ 40) ∧ (1 ≤ h p 10 ∧ h p 10 ≤ h p 0) := by
  obtain ⟨p7, pb, pt, R, pR, pc⟩ := hp
  have a := pb.1
  have b := cl_C pc
  have c := num_one a.1 pc.2.2.1
  omega
def isDd (h : zH) (p : Int) (D : zH) (c : Int) : Prop := tb (h p 6) (h (p + 9) c) = false ∧ ∀ b, 0 ≤ b → b < D 0 4 → CS h p c b = c
section CQ
variable {G : zG} {d : Nat} {h D : zH}
theorem sp_classesAfter {K : Int → zH → Prop} {p x : Int} (hp : pthP h p D) (hD : mOK D) (k : ∀ y, lp y (fun q => ∃ c b, (0 ≤ c ∧ c < h p 10) ∧ tS x c ∧ (0 ≤ b ∧ b < D 0 4) ∧ q = CS h p c b) → K y h) : zCl G (d + 2) mX7_classesAfter [vr 7 p, vl x] h K := by
  have nn := pP_n hp
  have hB := mO_bl hD
  have p7 := hp.1
  have l5 : ∀ (f : Nat) (c y : Int), 0 ≤ c → c + f = h p 10 → lp y (fun q => ∃ c' b, (0 ≤ c' ∧ c' < c) ∧ tS x c' ∧ (0 ≤ b ∧ b < D 0 4) ∧ q = CS h p c' b) → tX7_classesAfter_5 G (d + 1) K p x y c h := by
    intro f
    induction f with
    | zero =>
      intro c y c0 cf hy
      have e : c = h p 10 := by omega
      subst e
      exact bX7_classesAfter_5 ⟨⟨by omega, by omega⟩, ⟨by omega, by omega⟩, fun _ => k y hy, fun z => absurd (Int.le_refl _) z⟩
    | succ f ih =>
      intro c y c0 cf hy
      have l17 : ∀ (f2 : Nat) (b y : Int), tS x c → 0 ≤ b → b + f2 = D 0 4 → lp y (fun q => ∃ c' b', (0 ≤ c' ∧ c' ≤ c) ∧ tS x c' ∧ (0 ≤ b' ∧ b' < D 0 4) ∧ (c' = c → b' < b) ∧ q = CS h p c' b') → tX7_classesAfter_17 G (d + 1) K p x y c b h := by
        intro f2
        induction f2 with
        | zero =>
          intro b y hc b0 bf hy
          refine bX7_classesAfter_17 ?_
          rw [zbit_u (by omega) (by omega), p7]
          refine ⟨fun z => absurd hc.2.2 z, fun _ => ⟨⟨by omega, by omega⟩, ⟨by omega, by omega⟩, fun _ => ih (c + 1) y (by omega) (by omega) (lp_iff hy (fun q => ⟨fun ⟨c', b', x1, x2, x3, x4, x5⟩ => ⟨c', b', by omega, x2, x3, x5⟩, fun ⟨c', b', x1, x2, x3, x5⟩ => ⟨c', b', by omega, x2, x3, fun _ => by omega, x5⟩⟩)), fun z => absurd z (by omega)⟩⟩
        | succ f2 ih2 =>
          intro b y hc b0 bf hy
          obtain ⟨s1, s2, s3⟩ := pP_step hp hD c0 (show c < h p 10 by omega) b0 (show b < D 0 4 by omega)
          refine bX7_classesAfter_17 ?_
          rw [zbit_u (by omega) (by omega), p7]
          refine ⟨fun z => absurd hc.2.2 z, fun _ => ⟨⟨by omega, by omega⟩, ⟨by omega, by omega⟩, fun z => absurd z (by omega), fun _ => sp_classStep (by omega) (by omega) (by omega) (by omega) (ih2 (b + 1) _ hc (by omega) (by omega) (lp_iff (lp_lor hy (lp_shl (k := CS h p c b) (by omega) (by omega))) (fun q => ⟨fun z => ?_, fun ⟨c', b', x1, x2, x3, x4, x5⟩ => ?_⟩)))⟩⟩
          · rcases z with ⟨c', b', x1, x2, x3, x4, x5⟩ | z
            · exact ⟨c', b', x1, x2, x3, fun w => by have := x4 w; omega, x5⟩
            · exact ⟨c, b, by omega, hc, by omega, fun _ => by omega, z⟩
          · by_cases w : c' = c ∧ b' = b
            · obtain ⟨w1, w2⟩ := w
              subst w1 w2
              exact Or.inr x5
            · exact Or.inl ⟨c', b', x1, x2, x3, fun w2 => by have := x4 w2; omega, x5⟩
      refine bX7_classesAfter_5 ⟨⟨by omega, by omega⟩, ⟨by omega, by omega⟩, fun z => absurd z (by omega), fun _ => ?_⟩
      by_cases hc : tS x c
      · refine l17 (D 0 4).toNat 0 y hc (by omega) (by omega) (lp_iff hy (fun q => ⟨fun ⟨c', b', x1, x2, x3, x5⟩ => ⟨c', b', by omega, x2, x3, fun w => by omega, x5⟩, fun ⟨c', b', x1, x2, x3, x4, x5⟩ => ⟨c', b', ?_, x2, x3, x5⟩⟩))
        by_cases w : c' = c
        · have := x4 w
          omega
        · omega
      · refine bX7_classesAfter_17 ?_
        rw [zbit_u (by omega) (by omega)]
        refine ⟨fun _ => ih (c + 1) y (by omega) (by omega) (lp_iff hy (fun q => ⟨fun ⟨c', b', x1, x2, x3, x5⟩ => ⟨c', b', by omega, x2, x3, x5⟩, fun ⟨c', b', x1, x2, x3, x5⟩ => ⟨c', b', ?_, x2, x3, x5⟩⟩)), fun z => absurd ⟨by omega, by omega, z⟩ hc⟩
        by_cases w : c' = c
        · rw [w] at x2
          exact absurd x2 hc
        · omega
  exact eX7_classesAfter (bX7_classesAfter_0 (l5 (h p 10).toNat 0 0 (by omega) (by omega) ⟨zRL_0, fun q => ⟨fun z => absurd z tS_0, fun ⟨c', b', x1, _⟩ => absurd x1 (by omega)⟩⟩))
theorem sp_deadClass {K : Int → zH → Prop} {p : Int} (hp : pthP h p D) (hD : mOK D) (k1 : ∀ c, 0 ≤ c → c < h p 10 → isDd h p D c → (∀ c', 0 ≤ c' → c' < c → ¬ isDd h p D c') → K c h) (k2 : (∀ c', 0 ≤ c' → c' < h p 10 → ¬ isDd h p D c') → K (-2) h) : zCi G (d + 3) mX7_deadClass [vr 7 p] h K := by
  have nn := pP_n hp
  have hB := mO_bl hD
  have go : ∀ (f : Nat) (c : Int), 0 ≤ c → c + f = h p 10 → (∀ c', 0 ≤ c' → c' < c → ¬ isDd h p D c') → tX7_deadClass_2 G (d + 2) K p c h := by
    intro f
    induction f with
    | zero =>
      intro c c0 cf no
      exact bX7_deadClass_2 ⟨⟨by omega, by omega⟩, ⟨by omega, by omega⟩, fun _ => k2 (fun c' x y => no c' x (by omega)), fun z => absurd z (by omega)⟩
    | succ f ih =>
      intro c c0 cf no
      obtain ⟨s1, -, -⟩ := pP_step hp hD c0 (show c < h p 10 by omega) (Int.le_refl 0) (show 0 < D 0 4 by omega)
      have nx : ¬ isDd h p D c → tX7_deadClass_2 G (d + 2) K p (c + 1) h := fun w => ih (c + 1) (by omega) (by omega) (fun c' x y => by
        by_cases z : c' = c
        · rw [z]
          exact w
        · exact no c' x (by omega))
      refine bX7_deadClass_2 ⟨⟨by omega, by omega⟩, ⟨by omega, by omega⟩, fun z => absurd z (by omega), fun _ => sp_classTakes (by omega) (by omega) ⟨fun z => nx (fun w => absurd (z.symm.trans w.1) (by decide)), fun z => sp_classesAfter hp hD (fun y hy => ?_)⟩⟩
      have e1 : y = zlshl 1 c ↔ ∀ b, 0 ≤ b → b < D 0 4 → CS h p c b = c := by
        constructor
        · intro e b b0 b1
          have w := (hy.2 (CS h p c b)).mpr ⟨c, b, ⟨c0, by omega⟩, (tS_shl (by omega) (by omega)).mpr rfl, ⟨b0, b1⟩, rfl⟩
          rw [e] at w
          exact (tS_shl (by omega) (by omega)).mp w
        · intro e
          refine lp_eq hy (lp_iff (lp_shl (by omega) (by omega)) (fun q => ⟨fun w => ⟨c, 0, ⟨c0, by omega⟩, (tS_shl (by omega) (by omega)).mpr rfl, by omega, ?_⟩, fun ⟨c', b, x1, x2, x3, x4⟩ => ?_⟩))
          · rw [e 0 (by omega) (by omega)]
            exact w
          · have := (tS_shl (by omega) (by omega)).mp x2
            rw [x4, this]
            exact e b x3.1 x3.2
      rw [(zcmp_lt hy.1 (zlshl_R _ _)).2.1, e1]
      exact ⟨fun w => nx (fun w2 => w w2.2), fun w => k1 c c0 (by omega) ⟨z, w⟩ no⟩
  exact eX7_deadClass (bX7_deadClass_0 (go (h p 10).toNat 0 (by omega) (by omega) (fun c' x y => absurd y (by omega))))
end CQ
section CR
variable {G : zG} {d : Nat} {h : zH}
theorem c_dead {m : Int} (hI : Inv h) (hm : zR m) : twI G (d + 7) mX11_dead mX12_dead [vi m] h := by
  have b0 : ∀ w, bK h (zup (zup h 0 14 w) 466 0 0) := fun w => bK_w (fun _ _ => rfl) rfl
  refine eX11_dead (bX11_dead_0 (q_mach hI hm (fun q => ⟨fun _ => ?_, fun z => (by cases z)⟩) (fun q => ⟨fun z => (by cases z), fun _ => sp_refused (eX12_dead (bX12_dead_0 (q_machM hI rfl hm (fun z => absurd z q) (fun _ => ⟨fun z => (by cases z), fun _ => sm_refused ⟨zR_m1, rfl, Inv_w hI (by omega)⟩⟩))))⟩)))
  obtain ⟨m10, mc, o1, o2, o3, o4⟩ := iM_d hI q.1 q.2
  have pp := pth_p o4
  have nn := pP_n pp
  have hB := mO_bl o1
  have pp2 := pp
  obtain ⟨p7, pb, pt, R, pR, pc⟩ := pp2
  have two : ∀ x, zR x → ((0 ≤ x ∧ x < h (h 3 m + 7) 10 ∧ isDd h (h 3 m + 7) (dOf h m) x ∧ ∀ c', 0 ≤ c' → c' < x → ¬ isDd h (h 3 m + 7) (dOf h m) c') ∨ (x = -2 ∧ ∀ c', 0 ≤ c' → c' < h (h 3 m + 7) 10 → ¬ isDd h (h 3 m + 7) (dOf h m) c')) → zCi G (d + 7) mX12_dead [vr 12 466, vi m] (zup h 0 14 0) (fun y h4 => zR x ∧ x = y ∧ Inv h4) := fun x hx ex => by
    refine eX12_dead (bX12_dead_0 (q_machM hI rfl hm (fun _ => ⟨fun _ => q_sorts (b0 0) m10 o1 o3 pb pt pc (fun h3 f g s => ?_), fun z => (by cases z)⟩) (fun z => absurd q z)))
    have Ik := Inv_k hI (w := 0) (by omega) (fun _ _ => rfl) rfl rfl f
    have hr3 := mRep_b (bK_m (b0 0) f) o3
    have isD : ∀ {K : Bool → zH → Prop} (c : Int), 0 ≤ c → c < h (h 3 m + 7) 10 → (∀ b : Bool, (b = true ↔ isDd h (h 3 m + 7) (dOf h m) c) → K b h3) → zCb G (d + 6) mX12_isDead [vr 12 466, vi m, vi c] h3 K := fun {K} c c0 c1 kk => by
      have go : ∀ (f : Nat) (b : Int), 0 ≤ b → b + f = dOf h m 0 4 → (∀ b', 0 ≤ b' → b' < b → CS h (h 3 m + 7) c b' = c) → tX12_isDead_2 G (d + 5) K m c b h3 := by
        intro f
        induction f with
        | zero =>
          intro b x0 x1 al
          have hh := cl_He pc c0 c1
          refine bX12_isDead_2 ⟨by omega, ?_⟩
          rw [hr3.1.2.2.2.2]
          refine ⟨⟨by omega, by omega⟩, ⟨by omega, by omega⟩, fun _ => sm_classEnds (by omega) hr3 (by omega) g s pt ⟨c0, c1⟩ (by omega) hh ⟨fun z => kk false ⟨fun w => (by cases w), fun w => absurd (z.symm.trans w.1) (by decide)⟩, fun z => kk true ⟨fun _ => ⟨z, fun b' y0 y1 => al b' y0 (by omega)⟩, fun _ => rfl⟩⟩, fun z => absurd z (by omega)⟩
        | succ f ih =>
          intro b x0 x1 al
          obtain ⟨s1, s2, s3⟩ := pP_step pp o1 c0 c1 x0 (show b < dOf h m 0 4 by omega)
          refine bX12_isDead_2 ⟨by omega, ?_⟩
          rw [hr3.1.2.2.2.2]
          refine ⟨⟨by omega, by omega⟩, ⟨by omega, by omega⟩, fun z => absurd z (by omega), fun _ => sm_classGoes (by omega) hB.2 g s ⟨c0, c1⟩ (by omega) s1 ⟨x0, by omega⟩ s2 ?_⟩
          refine ⟨⟨by unfold CS at s3; omega, by unfold CS at s3; omega⟩, ⟨by omega, by omega⟩, fun w => ih (b + 1) (by omega) (by omega) (fun b' y0 y1 => ?_), fun w => kk false ⟨fun y => (by cases y), fun y => absurd (y.2 b x0 (by omega)) w⟩⟩
          by_cases y : b' = b
          · rw [y]
            exact w
          · exact al b' y0 (by omega)
      exact eX12_isDead (bX12_isDead_0 (go (dOf h m 0 4).toNat 0 (by omega) (by omega) (fun b' x y => absurd y (by omega))))
    have go : ∀ (f : Nat) (c : Int), 0 ≤ c → c + f = h (h 3 m + 7) 10 → (∀ c', 0 ≤ c' → c' < c → ¬ isDd h (h 3 m + 7) (dOf h m) c') → tX12_dead_27 G (d + 6) (fun y h4 => zR x ∧ x = y ∧ Inv h4) m c h3 := by
      intro f
      induction f with
      | zero =>
        intro c c0 cf no
        refine bX12_dead_27 ?_
        rw [s.1]
        refine ⟨⟨by omega, by omega⟩, ⟨by omega, by omega⟩, fun _ => sm_good ⟨hx, ?_, Ik⟩, fun z => absurd z (by omega)⟩
        rcases ex with ⟨x0, x1, x2, x3⟩ | ⟨x0, x1⟩
        · exact absurd x2 (no x x0 (by omega))
        · exact x0
      | succ f ih =>
        intro c c0 cf no
        refine bX12_dead_27 ?_
        rw [s.1]
        refine ⟨⟨by omega, by omega⟩, ⟨by omega, by omega⟩, fun z => absurd z (by omega), fun _ => isD c c0 (by omega) (fun b hb => ⟨fun w => ih (c + 1) (by omega) (by omega) (fun c' y0 y1 => ?_), fun w => sm_good ⟨hx, ?_, Ik⟩⟩)⟩
        · by_cases y : c' = c
          · rw [y]
            intro y2
            have := hb.mpr y2
            rw [w] at this
            cases this
          · exact no c' y0 (by omega)
        · have dc := hb.mp w
          rcases ex with ⟨x0, x1, x2, x3⟩ | ⟨x0, x1⟩
          · rcases Int.lt_trichotomy x c with z | z | z
            · exact absurd x2 (no x x0 z)
            · exact z
            · exact absurd dc (x3 c c0 z)
          · exact absurd dc (x1 c c0 (by omega))
    exact go (h (h 3 m + 7) 10).toNat 0 (by omega) (by omega) (fun c' x y => absurd y (by omega))
  refine ⟨m10, sp_deadClass pp o1 (fun c c0 c1 hd mn => sp_granted (two c ⟨by omega, by omega⟩ (Or.inl ⟨c0, c1, hd, mn⟩))) (fun no => sp_granted (two (-2) ⟨by decide, by decide⟩ (Or.inr ⟨rfl, no⟩)))⟩
end CR
