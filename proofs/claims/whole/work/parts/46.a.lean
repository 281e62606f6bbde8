/-! ===== the model builds what is told ===== -/
def pq (lo : Int → Int) (c q : Int) : Int := if q < c then lo q else 65536
section MP
variable {G : zG} {d : Nat} {h : zH} {Q : zH → Prop}
theorem sm_buildsTold {c : M4} {j : Int} (hj : 0 ≤ j ∧ j < 4) (mx : mMx h j c) (po : pOK c) (kk : ∀ h' : zH, (∀ a, ¬ a = 466 → ¬ (486 ≤ a ∧ a ≤ 492) → h' a = h a) → (∀ k, ¬ (47 ≤ k ∧ k ≤ 51) → h' 466 k = h 466 k) → dfM h' c.1 c.2.1 c.2.2.1.length (eFr c.2.2.1) (eTo c.2.2.1) (eX c.2.2.1) c.2.2.2.length (fFr c.2.2.2) (fTo c.2.2.2) → h' 466 51 = 0 → Q h') : zCv G (d + 1) mX12_buildsTold [vr 12 466, vi j] h Q := by
  obtain ⟨⟨m1, m2, m3, m4⟩, me, mf⟩ := mx
  obtain ⟨p1, lo, p3, p4, p5⟩ := po
  refine eX12_buildsTold (bX12_buildsTold_0 ⟨hj, ?_⟩)
  rw [m1]
  refine sm_builds ⟨by omega, by omega⟩ (fun h2 g1 g2 g3 g4 g5 => ⟨hj, ?_⟩)
  rw [g1 485 (by decide) (by decide), m2]
  obtain ⟨h3, e3⟩ : ∃ h3, h3 = zup h2 466 50 c.2.1 := ⟨_, rfl⟩
  rw [← e3]
  have d3 : drM h3 c.1 [] [] := by rw [e3]; exact drM_en g5
  have w3 : ∀ a, ¬ a = 466 → ¬ (486 ≤ a ∧ a ≤ 492) → h3 a = h a := fun a p q => by rw [e3, zup_ne p, g1 a p q]
  have s3 : ∀ k, ¬ (47 ≤ k ∧ k ≤ 51) → h3 466 k = h 466 k := fun k p => by rw [e3, zup_ns (by omega), g2 k p]
  have e50 : h3 466 50 = c.2.1 := by rw [e3, zup_eq]
  have z488 : h3 488 0 = 0 := by rw [e3, zup_ne (by decide), g4]
  have R : ∀ h1 : zH, bF h3 h1 → ∀ a, 475 ≤ a → a ≤ 485 → h1 a = h a := fun h1 b a p q => by rw [b.1 a (by omega) (by omega), w3 a (by omega) (by omega)]
  -- the end
  have fin : ∀ (LE : List eT) (LF : List fT) (h1 : zH), LE.length = c.2.2.1.length → (∀ e : Int, 0 ≤ e → e < LE.length → gE LE e = gE c.2.2.1 e) → LF.length = c.2.2.2.length → (∀ e : Int, 0 ≤ e → e < LF.length → gF LF e = gF c.2.2.2 e) → bF h3 h1 → drM h1 c.1 LE LF → h1 488 LE.length ≤ 24 * (LE.length : Int) → Q h1 := by
    intro LE LF h1 l1 l2 l3 l4 b1 dm bd
    have ft : fits c.1 LE LF := ⟨by omega, by omega, by omega⟩
    have df := drM_d dm ft (en := c.2.1) (by rw [b1.2 50 (by decide) (by decide), e50]) (by omega)
    have ov := dm.2.2.2.2.2.1 ft
    refine kk h1 (fun a p q => by rw [b1.1 a p q, w3 a p q]) (fun k p => by rw [b1.2 k (by omega) (by omega), s3 k p]) ?_ ov
    rw [← l1, ← l3]
    obtain ⟨x1, x2, x3, x4⟩ := df
    refine ⟨x1, x2, fun e a b => ?_, fun i a b => ?_⟩
    · have := x3 e a b
      unfold eFr eTo eX at this ⊢
      rw [l2 e a b] at this
      exact this
    · have := x4 i a b
      unfold fFr fTo at this ⊢
      rw [l4 i a b] at this
      exact this
  -- free steps
  have frees : ∀ (f : Nat) (q : Int) (LE : List eT) (LF : List fT) (h1 : zH), 0 ≤ q → q + f = c.2.2.2.length → LE.length = c.2.2.1.length → (∀ e : Int, 0 ≤ e → e < LE.length → gE LE e = gE c.2.2.1 e) → (LF.length : Int) = q → (∀ e : Int, 0 ≤ e → e < LF.length → gF LF e = gF c.2.2.2 e) → bF h3 h1 → drM h1 c.1 LE LF → h1 488 LE.length ≤ 24 * (LE.length : Int) → tX12_buildsTold_112 G d Q j (j * 8 + q) h1 := by
    intro f
    induction f with
    | zero =>
      intro q LE LF h1 q0 qf l1 l2 l3 l4 b1 dm bd
      refine bX12_buildsTold_112 ?_
      rw [R h1 b1 477 (by decide) (by decide), m4]
      exact ⟨hj, ⟨by omega, by omega⟩, ⟨by omega, by omega⟩, fun _ => fin LE LF h1 l1 l2 (by omega) l4 b1 dm bd, fun z => absurd (by omega) z⟩
    | succ f ih =>
      intro q LE LF h1 q0 qf l1 l2 l3 l4 b1 dm bd
      have mq := mf q q0 (by omega)
      refine bX12_buildsTold_112 ?_
      rw [R h1 b1 477 (by decide) (by decide), R h1 b1 483 (by decide) (by decide), R h1 b1 484 (by decide) (by decide), m4, mq.1, mq.2]
      refine ⟨hj, ⟨by omega, by omega⟩, ⟨by omega, by omega⟩, fun z => absurd z (by omega), fun _ => ⟨by omega, by omega, sm_buildsFree dm (fun h4 y1 y2 y3 => ?_)⟩⟩
      rw [show j * 8 + q + 1 = j * 8 + (q + 1) by omega]
      refine ih (q + 1) LE _ h4 (by omega) (by omega) l1 l2 (by rw [len_1]; omega) (fun e a b => ?_) (bF_t b1 y1) y3 (by rw [y2]; exact bd)
      rw [len_1] at b
      by_cases w : e = LF.length
      · rw [gF_r w, show e = q by omega]
      · rw [gF_l a (by omega)]
        exact l4 e a (by omega)
  -- ranges
  have rngs : ∀ (f : Nat) (q e : Int) (LE : List eT) (h1 : zH), 0 ≤ q → q + f = h 480 (j * 24 + e) → 0 ≤ e ∧ e < c.2.2.1.length → (LE.length : Int) = e → bF h3 h1 → drM h1 c.1 (LE ++ [((gE c.2.2.1 e).1, (gE c.2.2.1 e).2.1, fun z => (gE c.2.2.1 e).2.2 z && decide (z < pq (fun k => h 481 ((j * 24 + e) * 24 + k)) (h 480 (j * 24 + e)) q))]) [] → (0 ≤ h1 488 LE.length ∧ h1 488 LE.length ≤ 24 * (LE.length : Int)) → (∀ h2 : zH, bF h3 h2 → h2 488 LE.length = h1 488 LE.length → drM h2 c.1 (LE ++ [gE c.2.2.1 e]) [] → tX12_buildsTold_25 G d Q j (j * 24 + e + 1) h2) → tX12_buildsTold_59 G d Q j (j * 24 + e) q h1 := by
    intro f
    induction f with
    | zero =>
      intro q e LE h1 q0 qf he l0 b1 dm bd nx
      obtain ⟨-, -, c24, rg⟩ := me e he.1 he.2
      refine bX12_buildsTold_59 ?_
      rw [R h1 b1 480 (by decide) (by decide)]
      refine ⟨by omega, ⟨by omega, by omega⟩, ⟨by omega, by omega⟩, fun _ => nx h1 b1 rfl (drM_f (g := (gE c.2.2.1 e).2.2) (fun z z0 z1 => ?_) dm), fun z => absurd (by omega) z⟩
      show ((gE c.2.2.1 e).2.2 z && decide (z < pq _ _ q)) = _
      unfold pq
      rw [if_neg (by omega), decide_eq_true z1, Bool.and_true]
    | succ f ih =>
      intro q e LE h1 q0 qf he l0 b1 dm bd nx
      obtain ⟨-, -, c24, rg⟩ := me e he.1 he.2
      have rq : 0 ≤ h 481 ((j * 24 + e) * 24 + q) ∧ h 481 ((j * 24 + e) * 24 + q) ≤ h 482 ((j * 24 + e) * 24 + q) ∧ h 482 ((j * 24 + e) * 24 + q) < 65536 := rg.1 q q0 (by omega)
      refine bX12_buildsTold_59 ?_
      rw [R h1 b1 480 (by decide) (by decide), R h1 b1 481 (by decide) (by decide), R h1 b1 482 (by decide) (by decide)]
      have pq0 : pq (fun k => h 481 ((j * 24 + e) * 24 + k)) (h 480 (j * 24 + e)) q = h 481 ((j * 24 + e) * 24 + q) := if_pos (by omega)
      have pq1 : h 482 ((j * 24 + e) * 24 + q) < pq (fun k => h 481 ((j * 24 + e) * 24 + k)) (h 480 (j * 24 + e)) (q + 1) := by
        unfold pq
        by_cases w : q + 1 < h 480 (j * 24 + e)
        · rw [if_pos w]
          have : h 482 ((j * 24 + e) * 24 + q) + 1 < h 481 ((j * 24 + e) * 24 + (q + 1)) := rg.2.1 q q0 w
          show _ < h 481 ((j * 24 + e) * 24 + (q + 1))
          omega
        · rw [if_neg w]
          exact rq.2.2
      refine ⟨by omega, ⟨by omega, by omega⟩, ⟨by omega, by omega⟩, fun z => absurd z (by omega), fun _ => ⟨by omega, by omega, sm_buildsRange (g := fun z => (gE c.2.2.1 e).2.2 z && decide (z < pq (fun k => h 481 ((j * 24 + e) * 24 + k)) (h 480 (j * 24 + e)) (q + 1))) dm (by omega) bd.1 rq (fun z z0 z1 => ?_) (fun z z0 z1 => ?_) (fun lo' hi' c' q1 q2 => ?_) (fun h4 y1 y2 y3 => ih (q + 1) e LE h4 (by omega) (by omega) he l0 (bF_t b1 y1) y3 (by rw [y2 _ (by omega)]; exact bd) (fun h5 u1 u2 u3 => nx h5 u1 (by rw [u2, y2 _ (by omega)]) u3))⟩⟩
      · show ((gE c.2.2.1 e).2.2 z && decide (z < pq _ _ q)) = false
        rw [pq0, decide_eq_false (by omega), Bool.and_false]
      · show ((gE c.2.2.1 e).2.2 z && decide (z < pq _ _ (q + 1))) = true ↔ ((gE c.2.2.1 e).2.2 z && decide (z < pq _ _ q)) = true ∨ _
        rw [pq0, Bool.and_eq_true, Bool.and_eq_true, decide_eq_true_iff, decide_eq_true_iff]
        constructor
        · rintro ⟨x1, x2⟩
          obtain ⟨k, k0, k1, k2⟩ := (rg.2.2 z z0 z1).mp x1
          have k1 : h 481 ((j * 24 + e) * 24 + k) ≤ z := k1
          have k2 : z ≤ h 482 ((j * 24 + e) * 24 + k) := k2
          by_cases w : k < q
          · left
            refine ⟨x1, ?_⟩
            have : h 482 ((j * 24 + e) * 24 + k) + 1 < h 481 ((j * 24 + e) * 24 + q) := rgs_m rg k0.1 (q - k - 1).toNat q (by omega) (by omega)
            omega
          · by_cases w2 : k = q
            · rw [w2] at k1 k2
              exact Or.inr ⟨k1, k2⟩
            · exfalso
              unfold pq at x2
              rw [if_pos (by omega)] at x2
              have x2 : z < h 481 ((j * 24 + e) * 24 + (q + 1)) := x2
              have : h 481 ((j * 24 + e) * 24 + (q + 1)) ≤ h 481 ((j * 24 + e) * 24 + k) := rgs_mo rg (j := q + 1) (k := k) (by omega) (by omega) k0.2
              omega
        · rintro (⟨x1, x2⟩ | x)
          · exact ⟨x1, by omega⟩
          · exact ⟨(rg.2.2 z z0 z1).mpr ⟨q, ⟨q0, by omega⟩, x.1, x.2⟩, by omega⟩
      · have := rgs_rc q2 q1 (rcn_pre (p := pq (fun k => h 481 ((j * 24 + e) * 24 + k)) (h 480 (j * 24 + e)) (q + 1)) (p5 _ (gE_mem he.1 he.2)) (fun z z0 z1 => by
          show ((gE c.2.2.1 e).2.2 z && decide (z < pq _ _ (q + 1))) = true ↔ _
          rw [Bool.and_eq_true, decide_eq_true_iff]))
        omega
  -- edges
  have edges : ∀ (f : Nat) (e : Int) (LE : List eT) (h1 : zH), 0 ≤ e → e + f = c.2.2.1.length → (LE.length : Int) = e → (∀ i : Int, 0 ≤ i → i < LE.length → gE LE i = gE c.2.2.1 i) → bF h3 h1 → drM h1 c.1 LE [] → (0 ≤ h1 488 LE.length ∧ h1 488 LE.length ≤ 24 * (LE.length : Int)) → tX12_buildsTold_25 G d Q j (j * 24 + e) h1 := by
    intro f
    induction f with
    | zero =>
      intro e LE h1 e0 ef l0 l1 b1 dm bd
      refine bX12_buildsTold_25 ?_
      rw [R h1 b1 476 (by decide) (by decide), m3]
      refine ⟨hj, ⟨by omega, by omega⟩, ⟨by omega, by omega⟩, fun _ => ?_, fun z => absurd (by omega) z⟩
      have := frees c.2.2.2.length 0 LE [] h1 (by omega) (by omega) (by omega) l1 rfl (fun i a b => absurd b (by show ¬ i < ((0 : Nat) : Int); omega)) b1 dm bd.2
      rwa [show j * 8 + 0 = j * 8 by omega] at this
    | succ f ih =>
      intro e LE h1 e0 ef l0 l1 b1 dm bd
      obtain ⟨u1, u2, c24, rg⟩ := me e e0 (by omega)
      refine bX12_buildsTold_25 ?_
      rw [R h1 b1 476 (by decide) (by decide), R h1 b1 478 (by decide) (by decide), R h1 b1 479 (by decide) (by decide), m3, u1, u2]
      refine ⟨hj, ⟨by omega, by omega⟩, ⟨by omega, by omega⟩, fun z => absurd z (by omega), fun _ => ⟨by omega, by omega, sm_buildsEdge dm (by omega) (fun l2 h4 y1 y2 y3 y4 => rngs (h 480 (j * 24 + e)).toNat 0 e LE h4 (by omega) (by omega) ⟨e0, by omega⟩ l0 (bF_t b1 y1) (drM_f (fun z z0 z1 => ?_) y4) (by rw [y2 _ (by omega)]; exact bd) (fun h5 v1 v2 v3 => ?_)) (fun z => absurd z (by omega))⟩⟩
      · show false = ((gE c.2.2.1 e).2.2 z && decide (z < pq _ _ 0))
        cases w : (gE c.2.2.1 e).2.2 z
        · rfl
        · obtain ⟨k, k0, k1, k2⟩ := (rg.2.2 z z0 z1).mp w
          have : h 481 ((j * 24 + e) * 24 + 0) ≤ h 481 ((j * 24 + e) * 24 + k) := rgs_mo rg (j := 0) (k := k) (by omega) k0.1 k0.2
          have k1 : h 481 ((j * 24 + e) * 24 + k) ≤ z := k1
          unfold pq
          rw [if_pos (by omega), decide_eq_false (by show ¬ z < h 481 ((j * 24 + e) * 24 + 0); omega), Bool.and_false]
      · rw [show j * 24 + e + 1 = j * 24 + (e + 1) by omega]
        have bb := drM_b v3 (by omega) (p5 _ (gE_mem e0 (by omega)))
        have eb : h5 488 LE.length = h1 488 LE.length := by rw [v2, y2 _ (by omega)]
        have ln : (((LE ++ [gE c.2.2.1 e]).length : Nat) : Int) = (LE.length : Int) + 1 := by rw [len_1]; omega
        refine ih (e + 1) _ h5 (by omega) (by omega) (by omega) (fun i a b => ?_) v1 v3 (by rw [ln]; omega)
        by_cases w : i = LE.length
        · rw [gE_r w, show i = e by omega]
        · rw [gE_l a (by omega)]
          exact l1 i a (by omega)
  have := edges c.2.2.1.length 0 [] h3 (by omega) (by omega) rfl (fun i a b => absurd b (by show ¬ i < ((0 : Nat) : Int); omega)) (bF_r h3) d3 (by show 0 ≤ h3 488 ((0 : Nat) : Int) ∧ h3 488 ((0 : Nat) : Int) ≤ 24 * ((0 : Nat) : Int); rw [show ((0 : Nat) : Int) = 0 from rfl, z488]; omega)
  rwa [show j * 24 + 0 = j * 24 by omega] at this
end MP
