/-! ===== cases: edges ===== -/
def dBeg (D : zH) (e b : Int) : Prop := b = 0 ∨ dEH D e (b - 1) = false
def dFin (D : zH) (e b : Int) : Prop := b + 1 = D 0 4 ∨ dEH D e (b + 1) = false
/-- what a range's bound is: it is looked for from block b on, r ranges have begun -/
def ebP (D : zH) (e j : Int) (g : Bool) (b r v : Int) : Prop := dEH D e b = true ∧ r + dRn D e b = j + 1 ∧ (g = false → dBeg D e b ∧ v = D 7 b) ∧ (g = true → dFin D e b ∧ v = dEnd D b - 1)
section EB
variable {D : zH} {e j : Int} {g : Bool}
theorem dRn_b {b : Int} (h : dEH D e b = true) (hb : dBeg D e b) : dRn D e b = 1 := by
  unfold dRn
  exact if_pos ⟨h, hb⟩
theorem dRn_n {b : Int} (h : ¬ (dEH D e b = true ∧ dBeg D e b)) : dRn D e b = 0 := by
  unfold dRn
  exact if_neg h
/-- nothing found: there are no more than j ranges -/
theorem eb_none : ∀ (f : Nat) (b r : Int), 0 ≤ b → b + f = D 0 4 → r = zsum (dRn D e) b.toNat → (r ≤ j ∨ (g = true ∧ r = j + 1 ∧ 0 < b ∧ dEH D e (b - 1) = true ∧ b < D 0 4 ∧ dEH D e b = true)) → (∀ b' v, b ≤ b' → b' < D 0 4 → ¬ ebP D e j g b' (zsum (dRn D e) b'.toNat) v) → zsum (dRn D e) (D 0 4).toNat ≤ j
  | 0, b, r, b0, bf, er, hr, no => by
    rw [show (D 0 4).toNat = b.toNat by omega, ← er]
    rcases hr with z | z
    · exact z
    · omega
  | f + 1, b, r, b0, bf, er, hr, no => by
    have d01 := dRn_01 (D := D) e b
    have nx : zsum (dRn D e) (b + 1).toNat = r + dRn D e b := by
      rw [show (b + 1).toNat = b.toNat + 1 by omega, er]
      show zsum (dRn D e) b.toNat + dRn D e (b.toNat : Int) = _
      rw [show ((b.toNat : Nat) : Int) = b by omega]
    refine eb_none f (b + 1) (r + dRn D e b) (by omega) (by omega) nx.symm ?_ (fun b' v x0 x1 => no b' v (by omega) x1)
    by_cases w : r + dRn D e b ≤ j
    · exact Or.inl w
    · refine Or.inr ?_
      have hb : dEH D e b = true := by
        rcases hr with z | z
        · by_cases y : dEH D e b = true ∧ dBeg D e b
          · exact y.1
          · have := dRn_n y
            omega
        · exact z.2.2.2.2.2
      have rj : r + dRn D e b = j + 1 := by
        rcases hr with z | ⟨-, z, z1, z2, -⟩
        · omega
        · have := dRn_n (D := D) (e := e) (b := b) (fun y => by
            rcases y.2 with y | y
            · omega
            · rw [y] at z2
              cases z2)
          omega
      have gt : g = true := by
        cases hg : g
        · exfalso
          rcases hr with z | z
          · have bg : dBeg D e b := by
              refine Classical.byContradiction (fun y => ?_)
              have := dRn_n (D := D) (e := e) (b := b) (fun y2 => y y2.2)
              omega
            refine no b (D 7 b) (Int.le_refl _) (by omega) ⟨hb, by rw [← er]; exact rj, fun _ => ⟨bg, rfl⟩, fun y => ?_⟩
            rw [hg] at y
            cases y
          · rw [hg] at z
            cases z.1
        · rfl
      have nf : ¬ dFin D e b := fun y => no b (dEnd D b - 1) (Int.le_refl _) (by omega) ⟨hb, by rw [← er]; exact rj, fun y2 => (by rw [gt] at y2; cases y2), fun _ => ⟨y, rfl⟩⟩
      unfold dFin at nf
      refine ⟨gt, rj, by omega, by rw [show b + 1 - 1 = b by omega]; exact hb, by omega, ?_⟩
      cases y : dEH D e (b + 1)
      · exact absurd (Or.inr y) nf
      · rfl
theorem eb_some {b v : Int} (b0 : 0 ≤ b) (b1 : b < D 0 4) (h : ebP D e j g b (zsum (dRn D e) b.toNat) v) : j < zsum (dRn D e) (D 0 4).toNat := by
  have m := zsum_mono (f := dRn D e) (n := b.toNat + 1) (m := (D 0 4).toNat) (by omega) (fun i _ _ => (dRn_01 e i).1)
  have e1 : zsum (dRn D e) (b.toNat + 1) = zsum (dRn D e) b.toNat + dRn D e b := by
    show zsum (dRn D e) b.toNat + dRn D e (b.toNat : Int) = _
    rw [show ((b.toNat : Nat) : Int) = b by omega]
  have := h.2.1
  omega
end EB
section CH
variable {G : zG} {d : Nat} {h D : zH}
theorem sp_edgeBound {K : Int → zH → Prop} {m e j : Int} {g : Bool} (hD : mOK D) (hr : cRep h m D) (he : 0 ≤ e ∧ e < D 0 2) (hj : 0 ≤ j ∧ j < 1000) (k1 : ∀ b v, 0 ≤ b → b < D 0 4 → ebP D e j g b (zsum (dRn D e) b.toNat) v → (∀ b' v', 0 ≤ b' → b' < b → ¬ ebP D e j g b' (zsum (dRn D e) b'.toNat) v') → K v h) (k2 : (∀ b' v', 0 ≤ b' → b' < D 0 4 → ¬ ebP D e j g b' (zsum (dRn D e) b'.toNat) v') → K (-1) h) : zCi G (d + 1) mX4_edgeBound [vr 4 m, vi e, vi j, vi (bi g)] h K := by
  have hB := mO_bl hD
  have e11 := hr.1.2.2.2.2
  have go : ∀ (f n : Nat), (n : Int) + f = D 0 4 → (∀ b' v', 0 ≤ b' → b' < (n : Int) → ¬ ebP D e j g b' (zsum (dRn D e) b'.toNat) v') → tX4_edgeBound_6 G d K m e j g (zsum (dRn D e) n) n h := by
    intro f
    induction f with
    | zero =>
      intro n hn no
      have z := zsum_01 (f := dRn D e) (n := n) (fun i _ _ => dRn_01 e i)
      refine bX4_edgeBound_6 ?_
      rw [e11]
      exact ⟨⟨by omega, by omega⟩, ⟨by omega, by omega⟩, fun _ => k2 (fun b' v' x0 x1 => no b' v' x0 (by omega)), fun q => absurd q (by omega)⟩
    | succ f ih =>
      intro n hn no
      have z01 := zsum_01 (f := dRn D e) (n := n) (fun i _ _ => dRn_01 e i)
      have en : zsum (dRn D e) ((n : Int)).toNat = zsum (dRn D e) n := rfl
      have nx : (∀ v', ¬ ebP D e j g n (zsum (dRn D e) n) v') → tX4_edgeBound_145 G d K m e j g (zsum (dRn D e) n + dRn D e n) n h := fun no2 => bX4_edgeBound_145 (ih (n + 1) (by omega) (fun b' v' x0 x1 => by
        by_cases z : b' = (n : Int)
        · rw [z]
          exact no2 v'
        · exact no b' v' x0 (by omega)))
      have t122 : ∀ v, ebP D e j g n (zsum (dRn D e) n) v → tX4_edgeBound_122 G d K m g n h := fun v hv => by
        have kk := k1 n v (by omega) (by omega) hv no
        refine bX4_edgeBound_122 ⟨fun eg => ⟨by omega, ?_⟩, fun eg => sp_endOf hD hr (by omega) ?_⟩
        · rw [hr.2.2.2 n (by omega) (by omega), ← (hv.2.2.1 eg).2]
          exact kk
        · rw [← (hv.2.2.2 eg).2]
          exact kk
      have t87 : ∀ (l4 l6 l7 : Int), l4 = zsum (dRn D e) n + dRn D e n → (l6 = 0 ∨ l6 = 1) → (l7 = 0 ∨ l7 = 1) → (¬ l6 = 0 ↔ dBeg D e n) → (¬ l7 = 0 ↔ dFin D e n) → tX4_edgeBound_87 G d K m e j g l4 n l6 l7 h := by
        intro l4 l6 l7 e4 r6 r7 e6 e7
        subst e4
        have d01 := dRn_01 (D := D) e n
        refine bX4_edgeBound_87 (sp_edgeHas hD hr he (by omega) ⟨fun q => nx (fun v' y => ?_), fun q => ⟨⟨by omega, by omega⟩, ⟨by omega, by omega⟩, fun q2 => nx (fun v' y => q2 y.2.1), fun q2 => ⟨fun eg => ⟨⟨by omega, by omega⟩, fun w => nx (fun v' y => ?_), fun w => t122 (D 7 n) ⟨q, q2, fun _ => ⟨e6.mp w, rfl⟩, fun y => (by rw [eg] at y; cases y)⟩⟩, fun eg => ⟨⟨by omega, by omega⟩, fun w => nx (fun v' y => ?_), fun w => t122 (dEnd D n - 1) ⟨q, q2, fun y => (by rw [eg] at y; cases y), fun _ => ⟨e7.mp w, rfl⟩⟩⟩⟩⟩⟩)
        · have := y.1
          rw [q] at this
          cases this
        · exact (e6.mpr (y.2.2.1 eg).1) w
        · exact (e7.mpr (y.2.2.2 eg).1) w
      have t62 : ∀ (l6 : Int), (l6 = 0 ∨ l6 = 1) → (¬ l6 = 0 ↔ dBeg D e n) → dFin D e n → tX4_edgeBound_62 G d K m e j g (zsum (dRn D e) n) n l6 h := by
        intro l6 r6 e6 hf
        refine bX4_edgeBound_62 (sp_edgeHas hD hr he (by omega) ⟨fun q => t87 _ l6 1 ?_ r6 (Or.inr rfl) e6 ⟨fun _ => hf, fun _ => by decide⟩, fun q => ⟨⟨by omega, by omega⟩, fun w => t87 _ l6 1 ?_ r6 (Or.inr rfl) e6 ⟨fun _ => hf, fun _ => by decide⟩, fun w => t87 _ l6 1 ?_ r6 (Or.inr rfl) e6 ⟨fun _ => hf, fun _ => by decide⟩⟩⟩)
        · rw [dRn_n (fun y => by rw [q] at y; cases y.1)]
          omega
        · rw [dRn_n (fun y => e6.mpr y.2 w)]
          omega
        · rw [dRn_b q (e6.mp w)]
      have t32 : dBeg D e n → tX4_edgeBound_32 G d K m e j g (zsum (dRn D e) n) n h := fun hb => by
        refine bX4_edgeBound_32 ?_
        rw [e11]
        refine ⟨⟨by omega, by omega⟩, ⟨by omega, by omega⟩, fun q => t62 1 (Or.inr rfl) ⟨fun _ => hb, fun _ => by decide⟩ (Or.inl q), fun q => sp_edgeHas hD hr he (by omega) ⟨fun q2 => ?_, fun q2 => t62 1 (Or.inr rfl) ⟨fun _ => hb, fun _ => by decide⟩ (Or.inr q2)⟩⟩
        have nf : ¬ dFin D e n := fun y => by
          rcases y with y | y
          · exact q y
          · rw [q2] at y
            cases y
        refine sp_edgeHas hD hr he (by omega) ⟨fun q3 => t87 _ 1 0 ?_ (Or.inr rfl) (Or.inl rfl) ⟨fun _ => hb, fun _ => by decide⟩ ⟨fun y => absurd rfl y, fun y => absurd y nf⟩, fun q3 => t87 _ 1 0 ?_ (Or.inr rfl) (Or.inl rfl) ⟨fun _ => hb, fun _ => by decide⟩ ⟨fun y => absurd rfl y, fun y => absurd y nf⟩⟩
        · rw [dRn_n (fun y => by rw [q3] at y; cases y.1)]
          omega
        · rw [dRn_b q3 hb]
      refine bX4_edgeBound_6 ?_
      rw [e11]
      refine ⟨⟨by omega, by omega⟩, ⟨by omega, by omega⟩, fun q => absurd q (by omega), fun _ => ⟨⟨by omega, by omega⟩, fun q => t32 (Or.inl q), fun q => sp_edgeHas hD hr he (by omega) ⟨fun q2 => ?_, fun q2 => t32 (Or.inr q2)⟩⟩⟩
      have nb : ¬ dBeg D e n := fun y => by
        rcases y with y | y
        · exact q y
        · rw [q2] at y
          cases y
      rw [e11]
      refine ⟨⟨by omega, by omega⟩, ⟨by omega, by omega⟩, fun q3 => t62 0 (Or.inl rfl) ⟨fun y => absurd rfl y, fun y => absurd y nb⟩ (Or.inl q3), fun q3 => sp_edgeHas hD hr he (by omega) ⟨fun q4 => ?_, fun q4 => t62 0 (Or.inl rfl) ⟨fun y => absurd rfl y, fun y => absurd y nb⟩ (Or.inr q4)⟩⟩
      have nf : ¬ dFin D e n := fun y => by
        rcases y with y | y
        · exact q3 y
        · rw [q4] at y
          cases y
      have r0 : zsum (dRn D e) n = zsum (dRn D e) n + dRn D e n := by
        rw [dRn_n (fun y => nb y.2)]
        omega
      exact sp_edgeHas hD hr he (by omega) ⟨fun q5 => t87 _ 0 0 r0 (Or.inl rfl) (Or.inl rfl) ⟨fun y => absurd rfl y, fun y => absurd y nb⟩ ⟨fun y => absurd rfl y, fun y => absurd y nf⟩, fun q5 => t87 _ 0 0 r0 (Or.inl rfl) (Or.inl rfl) ⟨fun y => absurd rfl y, fun y => absurd y nb⟩ ⟨fun y => absurd rfl y, fun y => absurd y nf⟩⟩
  exact eX4_edgeBound (bX4_edgeBound_0 (go (D 0 4).toNat 0 (by omega) (fun b' v' x0 x1 => absurd x1 (by omega))))
/-- the model's search -/
theorem sm_edgeRange30 {K : Int → zH → Prop} {i e j : Int} {g : Bool} (hD : mOK D) (hi : 0 ≤ i ∧ i < 14) (hr : mRep h i D) (he : 0 ≤ e ∧ e < D 0 2) (hj : 0 ≤ j) (hjR : zR j) (k1 : ∀ b v, 0 ≤ b → b < D 0 4 → ebP D e j g b (zsum (dRn D e) b.toNat) v → (∀ b' v', 0 ≤ b' → b' < b → ¬ ebP D e j g b' (zsum (dRn D e) b'.toNat) v') → K v (zup (zup h 466 1 0) 466 2 (-1))) (k2 : (∀ b' v', 0 ≤ b' → b' < D 0 4 → ¬ ebP D e j g b' (zsum (dRn D e) b'.toNat) v') → K (-1) (zup (zup h 466 1 1) 466 2 (-1))) : tX12_edgeRange_30 G (d + 1) K i e j g (-1) 0 h := by
  have hB := mO_bl hD
  have go : ∀ (f n : Nat) (l5 : Int), (n : Int) + f = D 0 4 → l5 = zsum (dRn D e) n - 1 → (g = false → zsum (dRn D e) n ≤ j) → (∀ b' v', 0 ≤ b' → b' < (n : Int) → ¬ ebP D e j g b' (zsum (dRn D e) b'.toNat) v') → tX12_edgeRange_30 G (d + 1) K i e j g l5 n h := by
    intro f
    induction f with
    | zero =>
      intro n l5 hn e5 hg no
      refine bX12_edgeRange_30 ⟨hi, ?_⟩
      rw [hr.1.2.2.2.2]
      exact ⟨⟨by omega, by omega⟩, ⟨by omega, by omega⟩, fun _ => sm_refused (k2 (fun b' v' x0 x1 => no b' v' x0 (by omega))), fun q => absurd q (by omega)⟩
    | succ f ih =>
      intro n l5 hn e5 hg no
      have z01 := zsum_01 (f := dRn D e) (n := n) (fun i _ _ => dRn_01 e i)
      have d01 := dRn_01 (D := D) e n
      have nx : ∀ l5', l5' = zsum (dRn D e) n + dRn D e n - 1 → (g = false → zsum (dRn D e) n + dRn D e n ≤ j) → (∀ v', ¬ ebP D e j g n (zsum (dRn D e) n) v') → tX12_edgeRange_160 G (d + 1) K i e j g l5' n h := fun l5' e5' hg' no2 => bX12_edgeRange_160 (ih (n + 1) l5' (by omega) e5' hg' (fun b' v' x0 x1 => by
        by_cases z : b' = (n : Int)
        · rw [z]
          exact no2 v'
        · exact no b' v' x0 (by omega)))
      have t125 : ∀ v, ebP D e j g n (zsum (dRn D e) n) v → tX12_edgeRange_125 G (d + 1) K i g n h := fun v hv => by
        have kk := k1 n v (by omega) (by omega) hv no
        refine bX12_edgeRange_125 ⟨fun eg => ⟨by omega, ?_⟩, fun eg => sm_blockEnd hD hi hr (by omega) ?_⟩
        · rw [hr.2.2.2 n (by omega) (by omega), ← (hv.2.2.1 eg).2]
          exact sm_good kk
        · rw [← (hv.2.2.2 eg).2]
          exact sm_good kk
      have t76 : ∀ l5', l5' = zsum (dRn D e) n + dRn D e n - 1 → dEH D e n = true → tX12_edgeRange_76 G (d + 1) K i e j g l5' n h := fun l5' e5' hh => by
        have begs : g = false → zsum (dRn D e) n + dRn D e n = j + 1 → dBeg D e n := fun eg ej => by
          refine Classical.byContradiction (fun y => ?_)
          have := dRn_n (D := D) (e := e) (b := n) (fun y2 => y y2.2)
          have := hg eg
          omega
        have miss : ¬ l5' = j → tX12_edgeRange_160 G (d + 1) K i e j g l5' n h := fun q => nx l5' e5' (fun eg => by have := hg eg; omega) (fun v' y => q (by have := y.2.1; omega))
        have t102 : dFin D e n → tX12_edgeRange_102 G (d + 1) K i e j g l5' n h := fun hf => by
          refine bX12_edgeRange_102 ⟨⟨by omega, by omega⟩, hjR, fun q => miss q, fun q => ⟨fun eg => t125 (D 7 n) ⟨hh, by omega, fun _ => ⟨begs eg (by omega), rfl⟩, fun y => (by rw [eg] at y; cases y)⟩, fun eg => t125 (dEnd D n - 1) ⟨hh, by omega, fun y => (by rw [eg] at y; cases y), fun _ => ⟨hf, rfl⟩⟩⟩⟩
        refine bX12_edgeRange_76 ⟨hi, ?_⟩
        rw [hr.1.2.2.2.2]
        refine ⟨⟨by omega, by omega⟩, ⟨by omega, by omega⟩, fun q => t102 (Or.inl q), fun q => sm_edgeHas hD hi hr he (by omega) ⟨fun q2 => ⟨⟨by omega, by omega⟩, hjR, fun q3 => miss q3, fun q3 => ⟨fun eg => t125 (D 7 n) ⟨hh, by omega, fun _ => ⟨begs eg (by omega), rfl⟩, fun y => (by rw [eg] at y; cases y)⟩, fun eg => nx l5' e5' (fun y => (by rw [eg] at y; cases y)) (fun v' y => ?_)⟩⟩, fun q2 => t102 (Or.inr q2)⟩⟩
        rcases (y.2.2.2 eg).1 with y2 | y2
        · exact q y2
        · rw [q2] at y2
          cases y2
      refine bX12_edgeRange_30 ⟨hi, ?_⟩
      rw [hr.1.2.2.2.2]
      refine ⟨⟨by omega, by omega⟩, ⟨by omega, by omega⟩, fun q => absurd q (by omega), fun _ => sm_edgeHas hD hi hr he (by omega) ⟨fun q => ⟨⟨by omega, by omega⟩, fun q2 => bX12_edgeRange_73 (t76 _ ?_ q), fun q2 => sm_edgeHas hD hi hr he (by omega) ⟨fun q3 => t76 _ ?_ q, fun q3 => bX12_edgeRange_73 (t76 _ ?_ q)⟩⟩, fun q => nx l5 ?_ ?_ ?_⟩⟩
      · rw [dRn_b q (Or.inl q2)]
        omega
      · rw [dRn_n (fun y => by
          rcases y.2 with y2 | y2
          · exact q2 y2
          · rw [q3] at y2
            cases y2)]
        omega
      · rw [dRn_b q (Or.inr q3)]
        omega
      · rw [dRn_n (fun y => by rw [q] at y; cases y.1)]
        omega
      · rw [dRn_n (fun y => by rw [q] at y; cases y.1)]
        intro eg
        have := hg eg
        omega
      · intro v' y
        have := y.1
        rw [q] at this
        cases this
  exact go (D 0 4).toNat 0 (-1) (by omega) rfl (fun _ => hj) (fun b' v' x0 x1 => absurd x1 (by omega))
end CH
