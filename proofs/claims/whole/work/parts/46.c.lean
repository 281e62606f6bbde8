/-! ===== the model keeps what is told ===== -/
theorem msF_3 {i j x : Int} {h : zH} (hj : 0 ≤ j ∧ j < 128) : msF i h (zup h 497 (i * 128 + j) x) := ⟨fun y p => zup_ne (by omega), fun y j p q r s => by rw [zup_ne (by omega)], fun j p => zup_ns (by omega), fun y j p q => by rw [zup_ne (by omega)], fun y j p q => by rw [zup_ne (by omega)]⟩
theorem msF_4 {i a j x : Int} {h : zH} (hj : 0 ≤ j ∧ j < 160) (ha : a = 498 ∨ a = 499 ∨ a = 503 ∨ a = 504) : msF i h (zup h a (i * 160 + j) x) := ⟨fun y p => zup_ne (by omega), fun y j p q r s => by rw [zup_ne (by omega)], fun j p => by rw [zup_ne (by omega)], fun y j p q => zup_ns (by omega), fun y j p q => by rw [zup_ne (by omega)]⟩
section MK2
variable {G : zG} {d : Nat} {h D : zH} {Q : zH → Prop}
theorem sm_keepsSet {s c : Int} (hs : 0 ≤ s ∧ s < 12) (hc : h 471 (12 + s) = c) (c0 : 0 ≤ c ∧ c ≤ 24) (kk : ∀ h' : zH, (∀ a, ¬ (471 ≤ a ∧ a ≤ 473) → h' a = h a) → h' 471 = fup (h 471) s c → (∀ j, ¬ (s * 24 ≤ j ∧ j < s * 24 + c) → h' 472 j = h 472 j ∧ h' 473 j = h 473 j) → (∀ q, 0 ≤ q → q < c → h' 472 (s * 24 + q) = h 472 ((12 + s) * 24 + q) ∧ h' 473 (s * 24 + q) = h 473 ((12 + s) * 24 + q)) → Q h') : zCv G d mX12_keepsSet [vr 12 466, vi s] h Q := by
  have go : ∀ (f : Nat) (q : Int) (h1 : zH), 0 ≤ q → q + f = c → (∀ a, ¬ (471 ≤ a ∧ a ≤ 473) → h1 a = h a) → h1 471 = fup (h 471) s c → (∀ j, ¬ (s * 24 ≤ j ∧ j < s * 24 + q) → h1 472 j = h 472 j ∧ h1 473 j = h 473 j) → (∀ p, 0 ≤ p → p < q → h1 472 (s * 24 + p) = h 472 ((12 + s) * 24 + p) ∧ h1 473 (s * 24 + p) = h 473 ((12 + s) * 24 + p)) → tX12_keepsSet_17 G d Q s q h1 := by
    intro f
    induction f with
    | zero =>
      intro q h1 q0 qf g1 g2 g3 g4
      have eq : q = c := by omega
      rw [eq] at g3 g4
      refine bX12_keepsSet_17 ?_
      rw [g2, fup_eq]
      exact ⟨by omega, ⟨by omega, by omega⟩, ⟨by omega, by omega⟩, fun _ => kk h1 g1 g2 g3 g4, fun z => absurd (by omega) z⟩
    | succ f ih =>
      intro q h1 q0 qf g1 g2 g3 g4
      refine bX12_keepsSet_17 ?_
      rw [g2, fup_eq]
      have r1 := g3 ((12 + s) * 24 + q) (by omega)
      rw [r1.1, r1.2]
      refine ⟨by omega, ⟨by omega, by omega⟩, ⟨by omega, by omega⟩, fun z => absurd z (by omega), fun _ => ⟨by omega, by omega, by omega, by omega, ?_⟩⟩
      refine ih (q + 1) _ (by omega) (by omega) (fun a p => by rw [zup_ne (by omega), zup_ne (by omega), g1 a p]) (by rw [zup_ne (by decide), zup_ne (by decide), g2]) (fun j p => ?_) (fun p p0 p1 => ?_)
      · rw [zup_ne (show ¬ (472 : Int) = 473 by decide), zup_ns (by omega), zup_ns (by omega), zup_ne (show ¬ (473 : Int) = 472 by decide)]
        exact g3 j (by omega)
      · rw [zup_ne (show ¬ (472 : Int) = 473 by decide)]
        by_cases e : p = q
        · rw [e, zup_eq, zup_eq]
          exact ⟨rfl, rfl⟩
        · rw [zup_ns (by omega), zup_ns (by omega), zup_ne (show ¬ (473 : Int) = 472 by decide)]
          exact g4 p p0 (by omega)
  refine eX12_keepsSet (bX12_keepsSet_0 ⟨by omega, by omega, ?_⟩)
  rw [hc]
  exact go c.toNat 0 _ (by omega) (by omega) (fun a p => zup_ne (by omega)) zup_r (fun j _ => ⟨by rw [zup_ne (by decide)], by rw [zup_ne (by decide)]⟩) (fun p p0 p1 => absurd p1 (by omega))
theorem sm_keepsMachine {x m : Int} (hx : 0 ≤ x ∧ x < 14) (hm : 0 ≤ m ∧ m < 14) (ne : ¬ x = m) (hD : mOK D) (hr : mRep h x D) (kk : ∀ h' : zH, msF m h h' → mRep h' m D → Q h') : zCv G d mX12_keepsMachine [vr 12 466, vi x, vi m] h Q := by
  obtain ⟨o1, o2, o3, o4, o5, -⟩ := id hD
  have l218 : ∀ (f : Nat) (q : Int) (h1 : zH), 0 ≤ q → q + f = D 0 3 → msF m h h1 → (h1 493 m = D 0 0 ∧ h1 502 m = D 0 1 ∧ h1 494 m = D 0 2 ∧ h1 495 m = D 0 3 ∧ h1 496 m = D 0 4) → (∀ b, 0 ≤ b → b < D 0 4 → h1 497 (m * 128 + b) = D 7 b) → (∀ e, 0 ≤ e → e < D 0 2 → h1 498 (m * 160 + e) = D 1 e ∧ h1 499 (m * 160 + e) = D 2 e ∧ h1 503 (m * 160 + e) = D 3 e ∧ h1 504 (m * 160 + e) = D 4 e) → (∀ j, 0 ≤ j → j < q → h1 500 (m * 64 + j) = D 5 j ∧ h1 501 (m * 64 + j) = D 6 j) → tX12_keepsMachine_218 G d Q x m q h1 := by
    intro f
    induction f with
    | zero =>
      intro q h1 q0 qf ms g1 g2 g3 g4
      have eq : q = D 0 3 := by omega
      rw [eq] at g4
      refine bX12_keepsMachine_218 ?_
      rw [g1.2.2.2.1]
      exact ⟨hm, ⟨by omega, by omega⟩, ⟨by omega, by omega⟩, fun _ => kk h1 ms ⟨g1, g3, g4, g2⟩, fun z => absurd (by omega) z⟩
    | succ f ih =>
      intro q h1 q0 qf ms g1 g2 g3 g4
      have r1 := msF_rep ms hx ne hD hr
      have rq := r1.2.2.1 q q0 (by omega)
      refine bX12_keepsMachine_218 ?_
      rw [g1.2.2.2.1, rq.1, rq.2]
      refine ⟨hm, ⟨by omega, by omega⟩, ⟨by omega, by omega⟩, fun z => absurd z (by omega), fun _ => ⟨by omega, by omega, by omega, by omega, ?_⟩⟩
      refine ih (q + 1) _ (by omega) (by omega) (msF_t ms (msF_t (msF_2 (j := q) (by omega) (by decide)) (msF_2 (j := q) (by omega) (by decide)))) ?_ (fun b b0 b1 => ?_) (fun e e0 e1 => ?_) (fun j j0 j1 => ?_)
      · rw [zup_ne (show ¬ (493 : Int) = 501 by decide), zup_ne (show ¬ (493 : Int) = 500 by decide), zup_ne (show ¬ (502 : Int) = 501 by decide), zup_ne (show ¬ (502 : Int) = 500 by decide), zup_ne (show ¬ (494 : Int) = 501 by decide), zup_ne (show ¬ (494 : Int) = 500 by decide), zup_ne (show ¬ (495 : Int) = 501 by decide), zup_ne (show ¬ (495 : Int) = 500 by decide), zup_ne (show ¬ (496 : Int) = 501 by decide), zup_ne (show ¬ (496 : Int) = 500 by decide)]
        exact g1
      · rw [zup_ne (show ¬ (497 : Int) = 501 by decide), zup_ne (show ¬ (497 : Int) = 500 by decide)]
        exact g2 b b0 b1
      · rw [zup_ne (show ¬ (498 : Int) = 501 by decide), zup_ne (show ¬ (498 : Int) = 500 by decide), zup_ne (show ¬ (499 : Int) = 501 by decide), zup_ne (show ¬ (499 : Int) = 500 by decide), zup_ne (show ¬ (503 : Int) = 501 by decide), zup_ne (show ¬ (503 : Int) = 500 by decide), zup_ne (show ¬ (504 : Int) = 501 by decide), zup_ne (show ¬ (504 : Int) = 500 by decide)]
        exact g3 e e0 e1
      · rw [zup_ne (show ¬ (500 : Int) = 501 by decide)]
        by_cases e : j = q
        · rw [e, zup_eq, zup_eq]
          exact ⟨rfl, rfl⟩
        · rw [zup_ns (by omega), zup_ns (by omega), zup_ne (show ¬ (501 : Int) = 500 by decide)]
          exact g4 j j0 (by omega)
  have l104 : ∀ (f : Nat) (q : Int) (h1 : zH), 0 ≤ q → q + f = D 0 2 → msF m h h1 → (h1 493 m = D 0 0 ∧ h1 502 m = D 0 1 ∧ h1 494 m = D 0 2 ∧ h1 495 m = D 0 3 ∧ h1 496 m = D 0 4) → (∀ b, 0 ≤ b → b < D 0 4 → h1 497 (m * 128 + b) = D 7 b) → (∀ e, 0 ≤ e → e < q → h1 498 (m * 160 + e) = D 1 e ∧ h1 499 (m * 160 + e) = D 2 e ∧ h1 503 (m * 160 + e) = D 3 e ∧ h1 504 (m * 160 + e) = D 4 e) → tX12_keepsMachine_104 G d Q x m q h1 := by
    intro f
    induction f with
    | zero =>
      intro q h1 q0 qf ms g1 g2 g3
      have eq : q = D 0 2 := by omega
      rw [eq] at g3
      refine bX12_keepsMachine_104 ?_
      rw [g1.2.2.1]
      exact ⟨hm, ⟨by omega, by omega⟩, ⟨by omega, by omega⟩, fun _ => l218 (D 0 3).toNat 0 h1 (by omega) (by omega) ms g1 g2 g3 (fun j a b => absurd b (by omega)), fun z => absurd (by omega) z⟩
    | succ f ih =>
      intro q h1 q0 qf ms g1 g2 g3
      have r1 := msF_rep ms hx ne hD hr
      have rq := r1.2.1 q q0 (by omega)
      refine bX12_keepsMachine_104 ?_
      rw [g1.2.2.1, rq.1, rq.2.1, rq.2.2.1, rq.2.2.2]
      refine ⟨hm, ⟨by omega, by omega⟩, ⟨by omega, by omega⟩, fun z => absurd z (by omega), fun _ => ⟨by omega, by omega, by omega, by omega, by omega, by omega, by omega, by omega, ?_⟩⟩
      have o : ∀ a, ¬ a = 498 → ¬ a = 499 → ¬ a = 503 → ¬ a = 504 → (zup (zup (zup (zup h1 498 (m * 160 + q) (D 1 q)) 499 (m * 160 + q) (D 2 q)) 503 (m * 160 + q) (D 3 q)) 504 (m * 160 + q) (D 4 q)) a = h1 a := fun a p q r s => by rw [zup_ne s, zup_ne r, zup_ne q, zup_ne p]
      refine ih (q + 1) _ (by omega) (by omega) (msF_t ms (msF_t (msF_4 (j := q) (by omega) (by decide)) (msF_t (msF_4 (j := q) (by omega) (by decide)) (msF_t (msF_4 (j := q) (by omega) (by decide)) (msF_4 (j := q) (by omega) (by decide)))))) ?_ (fun b b0 b1 => ?_) (fun e e0 e1 => ?_)
      · rw [o 493 (by decide) (by decide) (by decide) (by decide), o 502 (by decide) (by decide) (by decide) (by decide), o 494 (by decide) (by decide) (by decide) (by decide), o 495 (by decide) (by decide) (by decide) (by decide), o 496 (by decide) (by decide) (by decide) (by decide)]
        exact g1
      · rw [o 497 (by decide) (by decide) (by decide) (by decide)]
        exact g2 b b0 b1
      · have r1 : (zup (zup (zup (zup h1 498 (m * 160 + q) (D 1 q)) 499 (m * 160 + q) (D 2 q)) 503 (m * 160 + q) (D 3 q)) 504 (m * 160 + q) (D 4 q)) 498 = fup (h1 498) (m * 160 + q) (D 1 q) := by rw [zup_ne (by decide), zup_ne (by decide), zup_ne (by decide), zup_r]
        have r2 : (zup (zup (zup (zup h1 498 (m * 160 + q) (D 1 q)) 499 (m * 160 + q) (D 2 q)) 503 (m * 160 + q) (D 3 q)) 504 (m * 160 + q) (D 4 q)) 499 = fup (h1 499) (m * 160 + q) (D 2 q) := by rw [zup_ne (by decide), zup_ne (by decide), zup_r, zup_ne (by decide)]
        have r3 : (zup (zup (zup (zup h1 498 (m * 160 + q) (D 1 q)) 499 (m * 160 + q) (D 2 q)) 503 (m * 160 + q) (D 3 q)) 504 (m * 160 + q) (D 4 q)) 503 = fup (h1 503) (m * 160 + q) (D 3 q) := by rw [zup_ne (by decide), zup_r, zup_ne (by decide), zup_ne (by decide)]
        have r4 : (zup (zup (zup (zup h1 498 (m * 160 + q) (D 1 q)) 499 (m * 160 + q) (D 2 q)) 503 (m * 160 + q) (D 3 q)) 504 (m * 160 + q) (D 4 q)) 504 = fup (h1 504) (m * 160 + q) (D 4 q) := by rw [zup_r, zup_ne (by decide), zup_ne (by decide), zup_ne (by decide)]
        rw [r1, r2, r3, r4]
        by_cases w : e = q
        · rw [w, fup_eq, fup_eq, fup_eq, fup_eq]
          exact ⟨rfl, rfl, rfl, rfl⟩
        · rw [fup_ne (by omega), fup_ne (by omega), fup_ne (by omega), fup_ne (by omega)]
          exact g3 e e0 (by omega)
  have l62 : ∀ (f : Nat) (q : Int) (h1 : zH), 0 ≤ q → q + f = D 0 4 → msF m h h1 → (h1 493 m = D 0 0 ∧ h1 502 m = D 0 1 ∧ h1 494 m = D 0 2 ∧ h1 495 m = D 0 3 ∧ h1 496 m = D 0 4) → (∀ b, 0 ≤ b → b < q → h1 497 (m * 128 + b) = D 7 b) → tX12_keepsMachine_62 G d Q x m q h1 := by
    intro f
    induction f with
    | zero =>
      intro q h1 q0 qf ms g1 g2
      have eq : q = D 0 4 := by omega
      rw [eq] at g2
      refine bX12_keepsMachine_62 ?_
      rw [g1.2.2.2.2]
      exact ⟨hm, ⟨by omega, by omega⟩, ⟨by omega, by omega⟩, fun _ => l104 (D 0 2).toNat 0 h1 (by omega) (by omega) ms g1 g2 (fun j a b => absurd b (by omega)), fun z => absurd (by omega) z⟩
    | succ f ih =>
      intro q h1 q0 qf ms g1 g2
      have r1 := msF_rep ms hx ne hD hr
      have rq := r1.2.2.2 q q0 (by omega)
      refine bX12_keepsMachine_62 ?_
      rw [g1.2.2.2.2, rq]
      refine ⟨hm, ⟨by omega, by omega⟩, ⟨by omega, by omega⟩, fun z => absurd z (by omega), fun _ => ⟨by omega, by omega, ?_⟩⟩
      refine ih (q + 1) _ (by omega) (by omega) (msF_t ms (msF_3 (j := q) (by omega))) ?_ (fun b b0 b1 => ?_)
      · rw [zup_ne (show ¬ (493 : Int) = 497 by decide), zup_ne (show ¬ (502 : Int) = 497 by decide), zup_ne (show ¬ (494 : Int) = 497 by decide), zup_ne (show ¬ (495 : Int) = 497 by decide), zup_ne (show ¬ (496 : Int) = 497 by decide)]
        exact g1
      · by_cases w : b = q
        · rw [w, zup_eq]
        · rw [zup_ns (by omega)]
          exact g2 b b0 (by omega)
  obtain ⟨⟨r1, r2, r3, r4, r5⟩, -⟩ := id hr
  refine eX12_keepsMachine (bX12_keepsMachine_0 ⟨hx, hm, hx, hm, hx, hm, hx, hm, hx, hm, ?_⟩)
  rw [r1, r2, r3, r4, r5]
  refine l62 (D 0 4).toNat 0 _ (by omega) (by omega) (msF_t (msF_1 (by decide)) (msF_t (msF_1 (by decide)) (msF_t (msF_1 (by decide)) (msF_t (msF_1 (by decide)) (msF_1 (by decide)))))) ⟨?_, ?_, ?_, ?_, ?_⟩ (fun j a b => absurd b (by omega))
  · rw [zup_ne (by decide), zup_ne (by decide), zup_ne (by decide), zup_ne (by decide), zup_eq]
  · rw [zup_eq]
  · rw [zup_ne (by decide), zup_ne (by decide), zup_ne (by decide), zup_eq]
  · rw [zup_ne (by decide), zup_ne (by decide), zup_eq]
  · rw [zup_ne (by decide), zup_eq]
end MK2
