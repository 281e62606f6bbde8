/-! ===== the model settles ===== -/
/-- a row's starts are just some letters -/
def stQ (i : Int) (h : zH) (P : Int → Prop) : Prop := h 496 i ≤ 128 ∧ dS (rS h i) (h 496 i) ∧ ∀ z, (∃ b, (0 ≤ b ∧ b < h 496 i) ∧ rS h i b = z) ↔ P z
def cuQ (lo hi : Int → Int) (k z : Int) : Prop := z = 0 ∨ (z < 65536 ∧ ∃ j, (0 ≤ j ∧ j < k) ∧ (z = lo j ∨ z = hi j + 1))
section MD
variable {G : zG} {d : Nat} {h : zH} {i n en E F : Int} {fr to ff ft : Int → Int} {X : Int → Int → Bool}
theorem sm_cuts2 {K : Bool → zH → Prop} {x : Int} {P : Int → Prop} (hi : 0 ≤ i ∧ i < 14) (s : stQ i h P) (hx : 0 ≤ x ∧ x ≤ 65536) (hP : ∀ z, P z → chp E X z) (hx2 : x < 65536 → chp E X x) (k1 : ∀ h' : zH, cuF i h h' → stQ i h' (fun z => P z ∨ (z = x ∧ z < 65536)) → K true h') (k2 : chF E X → K false h) : zCb G d mX12_cuts [vr 12 466, vi i, vi x] h K := by
  obtain ⟨s1, s2, s3⟩ := s
  refine sm_cuts hi rfl s1 s2 hx (fun q => k1 h (cuF_r i h) ⟨s1, s2, fun z => ?_⟩) (fun x6 q n1 h' f e1 d1 st => k1 h' f ⟨by rw [e1]; omega, by rw [e1]; exact d1, fun z => ?_⟩) (fun x6 q n1 => k2 ?_)
  · rw [s3 z]
    refine ⟨fun w => Or.inl w, ?_⟩
    rintro (w | ⟨w1, w2⟩)
    · exact w
    · rcases q with q | q
      · omega
      · rw [w1]
        exact (s3 x).mp q
  · rw [e1, st z, s3 z]
    exact ⟨fun w => w.elim Or.inl (fun w => Or.inr ⟨w, by omega⟩), fun w => w.elim Or.inl (fun w => Or.inr w.1)⟩
  · refine ⟨fup (rS h i) 128 x, fun j j0 j1 => ?_, fun a b a0 a1 a2 => ?_⟩
    · by_cases w : j = 128
      · rw [w, fup_eq]
        exact hx2 x6
      · rw [fup_ne w]
        exact hP _ ((s3 _).mp ⟨j, by omega, rfl⟩)
    · rw [fup_ne (show ¬ a = 128 by omega)]
      by_cases w : b = 128
      · rw [w, fup_eq]
        exact q a a0 (by omega)
      · rw [fup_ne w]
        have := s2.2.2.2 a b a0 a1 (by omega)
        omega
theorem stQ_i {P Q : Int → Prop} (e : ∀ z, P z ↔ Q z) (s : stQ i h P) : stQ i h Q := ⟨s.1, s.2.1, fun z => (s.2.2 z).trans (e z)⟩
theorem cu_chp (k : dfM h n en E fr to X F ff ft) (E0 : 0 ≤ E) : (∀ j, 0 ≤ j → j < h 488 E → (0 ≤ h 489 j ∧ h 489 j ≤ h 490 j ∧ h 490 j < 65536) ∧ chp E X (h 489 j) ∧ (h 490 j + 1 < 65536 → chp E X (h 490 j + 1))) ∧ ∀ z, cuQ (h 489) (h 490) (h 488 E) z ↔ chp E X z := by
  obtain ⟨-, ⟨a0, a1⟩, he, -⟩ := k
  have at' := dfM_at (E := E) a0 (fun e e0 e1 => (he e e0 e1).2.2.1) E.toNat (by omega)
  rw [show ((E.toNat : Nat) : Int) = E by omega] at at'
  have one : ∀ j, 0 ≤ j → j < h 488 E → (0 ≤ h 489 j ∧ h 489 j ≤ h 490 j ∧ h 490 j < 65536) ∧ chp E X (h 489 j) ∧ (h 490 j + 1 < 65536 → chp E X (h 490 j + 1)) := fun j j0 j1 => by
    obtain ⟨e, he1, e2, e3⟩ := at'.2 j j0 j1
    have he1 : 0 ≤ e ∧ e < E := by omega
    have r := (he e he1.1 he1.2).2.2.2
    have rg := r.1 j e2 e3
    refine ⟨rg, ?_, fun q => ?_⟩
    · by_cases z : h 489 j = 0
      · exact Or.inl z
      · exact Or.inr ⟨by omega, e, he1, rgs_lo r ⟨e2, e3⟩ (by omega)⟩
    · refine Or.inr ⟨by omega, e, he1, ?_⟩
      rw [show h 490 j + 1 - 1 = h 490 j by omega]
      exact rgs_hi r ⟨e2, e3⟩ q
  refine ⟨one, fun z => ⟨?_, ?_⟩⟩
  · rintro (w | ⟨w, j, hj, w2⟩)
    · exact Or.inl w
    · have := one j hj.1 hj.2
      rcases w2 with w2 | w2
      · rw [w2]
        exact this.2.1
      · rw [w2]
        exact this.2.2 (by omega)
  · rintro (w | ⟨w, e, he1, w2⟩)
    · exact Or.inl w
    · obtain ⟨k, hk, q⟩ := rgs_ch (he e he1.1 he1.2).2.2.2 w w2
      have m0 := dfM_at (E := E) a0 (fun e e0 e1 => (he e e0 e1).2.2.1) e.toNat (by omega)
      have m1 := dfM_mono (E := E) (fun e e0 e1 => (he e e0 e1).2.2.1) (e := e + 1) (by omega) (E - e - 1).toNat (by omega)
      rw [show e + 1 + ((E - e - 1).toNat : Int) = E by omega] at m1
      rw [show ((e.toNat : Nat) : Int) = e by omega] at m0
      exact Or.inr ⟨w.2, k, by omega, q⟩
theorem sm_cutsAll {K : Bool → zH → Prop} (hi : 0 ≤ i ∧ i < 14) (k : dfM h n en E fr to X F ff ft) (E0 : 0 ≤ E ∧ E ≤ 160) (k1 : ∀ h' : zH, cuF i h h' → stQ i h' (chp E X) → K true h') (k2 : ∀ h' : zH, cuF i h h' → chF E X → K false h') : zCb G (d + 1) mX12_cutsAll [vr 12 466, vi i] h K := by
  obtain ⟨one, all⟩ := cu_chp k E0.1
  have a14 := k.2.1.2
  have e48 := k.1.2.2.1
  have at0 := dfM_at (E := E) k.2.1.1 (fun e e0 e1 => (k.2.2.1 e e0 e1).2.2.1) E.toNat (by omega)
  rw [show ((E.toNat : Nat) : Int) = E by omega] at at0
  have go : ∀ (f : Nat) (t : Int) (h1 : zH), 0 ≤ t ∧ t ≤ h 488 E → h 488 E - t ≤ f → cuF i h h1 → stQ i h1 (cuQ (h 489) (h 490) t) → tX12_cutsAll_20 G d K i t h1 := by
    intro f
    induction f with
    | zero =>
      intro t h1 t0 hf c s
      refine bX12_cutsAll_20 ?_
      rw [c.1 466 (by decide) (by decide), c.1 488 (by decide) (by decide), e48]
      refine ⟨by omega, ⟨by omega, by omega⟩, ⟨by omega, by omega⟩, fun _ => k1 h1 c (stQ_i (fun z => ?_) s), fun z => absurd hf (by omega)⟩
      rw [show t = h 488 E by omega]
      exact all z
    | succ f ih =>
      intro t h1 t0 hf c s
      refine bX12_cutsAll_20 ?_
      rw [c.1 466 (by decide) (by decide), c.1 488 (by decide) (by decide), e48, c.1 489 (by decide) (by decide)]
      refine ⟨by omega, ⟨by omega, by omega⟩, ⟨by omega, by omega⟩, fun z => k1 h1 c (stQ_i (fun z => ?_) s), fun z => ⟨by omega, ?_⟩⟩
      · rw [show t = h 488 E by omega]
        exact all z
      · have o := one t t0.1 (by omega)
        have sub : ∀ z, cuQ (h 489) (h 490) t z → chp E X z := fun z q => (all z).mp (by
          rcases q with q | ⟨q, j, hj, q2⟩
          · exact Or.inl q
          · exact Or.inr ⟨q, j, by omega, q2⟩)
        refine sm_cuts2 (E := E) (X := X) hi s (by omega) sub (fun _ => o.2.1) (fun h2 c2 s2 => ⟨fun z => (by cases z), fun _ => ⟨by omega, ?_⟩⟩) (fun q => ⟨fun _ => k2 h1 c q, fun z => (by cases z)⟩)
        rw [c2.1 490 (by decide) (by decide), c.1 490 (by decide) (by decide)]
        refine sm_cuts2 (E := E) (X := X) hi s2 (by omega) (fun z q => q.elim (sub z) (fun q => by rw [q.1]; exact o.2.1)) o.2.2 (fun h3 c3 s3 => ⟨fun _ => ih (t + 1) h3 (by omega) (by omega) (cuF_t (cuF_t c c2) c3) (stQ_i (fun z => ?_) s3), fun z => (by cases z)⟩) (fun q => ⟨fun z => (by cases z), fun _ => k2 h2 (cuF_t c c2) q⟩)
        constructor
        · rintro ((q | q) | q)
          · rcases q with q | ⟨q, j, hj, q2⟩
            · exact Or.inl q
            · exact Or.inr ⟨q, j, by omega, q2⟩
          · exact Or.inr ⟨q.2, t, by omega, Or.inl q.1⟩
          · exact Or.inr ⟨q.2, t, by omega, Or.inr q.1⟩
        · rintro (q | ⟨q, j, hj, q2⟩)
          · exact Or.inl (Or.inl (Or.inl q))
          · by_cases w : j = t
            · rw [w] at q2
              rcases q2 with q2 | q2
              · exact Or.inl (Or.inr ⟨q2, q⟩)
              · exact Or.inr ⟨q2, q⟩
            · exact Or.inl (Or.inl (Or.inr ⟨q, j, by omega, q2⟩))
  refine eX12_cutsAll (bX12_cutsAll_0 ⟨by omega, hi, go (h 488 E).toNat 0 _ (by omega) (by omega) ⟨fun a p q => by rw [zup_ne p, zup_ne q], fun j p => by rw [zup_ns p, zup_ne (by decide)], fun j p => by rw [zup_ne (by decide), zup_ns (by omega)]⟩ ⟨by rw [zup_eq]; decide, ?_, fun z => ?_⟩⟩)
  · have r0 : rS (zup (zup h 497 (i * 128) 0) 496 i 1) i 0 = 0 := by
      show (zup (zup h 497 (i * 128) 0) 496 i 1) 497 (i * 128 + 0) = 0
      rw [zup_ne (by decide), Int.add_zero, zup_eq]
    rw [zup_eq]
    refine ⟨by decide, r0, fun b b0 b1 => ?_, fun a b a0 a1 a2 => absurd a2 (by omega)⟩
    rw [show b = 0 by omega, r0]
    decide
  · have r0 : rS (zup (zup h 497 (i * 128) 0) 496 i 1) i 0 = 0 := by
      show (zup (zup h 497 (i * 128) 0) 496 i 1) 497 (i * 128 + 0) = 0
      rw [zup_ne (by decide), Int.add_zero, zup_eq]
    rw [zup_eq]
    constructor
    · rintro ⟨b, hb, e⟩
      rw [show b = 0 by omega, r0] at e
      exact Or.inl e.symm
    · rintro (q | ⟨q, j, hj, -⟩)
      · exact ⟨0, by omega, by rw [r0, q]⟩
      · omega
/-- the block of a letter, by the row's starts alone -/
theorem sm_blockAt2 {K : Int → zH → Prop} {N x : Int} (hi : 0 ≤ i ∧ i < 14) (hN : h 496 i = N) (N1 : N ≤ 128) (hd : dS (rS h i) N) (hx : 0 ≤ x ∧ x < 65536) (k : ∀ b, 0 ≤ b → b < N → rS h i b ≤ x → (∀ c, b < c → c < N → x < rS h i c) → K b h) : zCi G d mX12_blockAt [vr 12 466, vi i, vi x] h K := by
  have nn := hd.1
  have go : ∀ (f : Nat) (b : Int), b = f → b < N → (∀ c, b < c → c < N → x < rS h i c) → tX12_blockAt_9 G d K i x b h := by
    intro f
    induction f with
    | zero =>
      intro b e b1 q
      have r0 := hd.2.1
      have rr : rS h i 0 = h 497 (i * 128 + 0) := rfl
      have e0 : b = 0 := by omega
      subst e0
      refine bX12_blockAt_9 ⟨by omega, ⟨by omega, by omega⟩, ⟨by omega, by omega⟩, fun z => k 0 (by omega) b1 (by omega) q, fun z => absurd z (by omega)⟩
    | succ f ih =>
      intro b e b1 q
      have r := hd.2.2.1 b (by omega) b1
      have rr : rS h i b = h 497 (i * 128 + b) := rfl
      refine bX12_blockAt_9 ⟨by omega, ⟨by omega, by omega⟩, ⟨by omega, by omega⟩, fun z => k b (by omega) b1 (by omega) q, fun z => ?_⟩
      rw [show b + (-1) = b - 1 by omega]
      refine ih (b - 1) (by omega) (by omega) (fun c c0 c1 => ?_)
      by_cases w : c = b
      · rw [w]
        omega
      · exact q c (by omega) c1
  refine eX12_blockAt (bX12_blockAt_0 ⟨hi, ?_⟩)
  rw [hN]
  exact go (N - 1).toNat (N - 1) (by omega) (by omega) (fun c c0 c1 => absurd c1 (by omega))
end MD
