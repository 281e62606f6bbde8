/-! ===== the model settles ===== -/
theorem isD_same {D D' : zH} {n en E : Int} {fr to : Int → Int} {X : Int → Int → Bool} {F : Int} {ff ft : Int → Int} (h : isD D n en E fr to X F ff ft) (h' : isD D' n en E fr to X F ff ft) : (D 0 0 = D' 0 0 ∧ D 0 1 = D' 0 1 ∧ D 0 2 = D' 0 2 ∧ D 0 3 = D' 0 3 ∧ D 0 4 = D' 0 4) ∧ (∀ e, 0 ≤ e → e < E → D 1 e = D' 1 e ∧ D 2 e = D' 2 e ∧ D 3 e = D' 3 e ∧ D 4 e = D' 4 e) ∧ (∀ i, 0 ≤ i → i < F → D 5 i = D' 5 i ∧ D 6 i = D' 6 i) ∧ ∀ b, 0 ≤ b → b < D 0 4 → D 7 b = D' 7 b := by
  obtain ⟨⟨a0, a1, a2, a3⟩, a4, a5, a6, a7, a8⟩ := h
  obtain ⟨⟨b0, b1, b2, b3⟩, b4, b5, b6, b7, b8⟩ := h'
  obtain ⟨u1, u2⟩ := dS_u a7 b7 (fun z => (a8 z).trans (b8 z).symm)
  refine ⟨⟨by omega, by omega, by omega, by omega, u1⟩, fun e e0 e1 => ?_, fun i i0 i1 => ?_, u2⟩
  · obtain ⟨x1, x2, x3, x4, x5⟩ := a5 e e0 e1
    obtain ⟨y1, y2, y3, y4, y5⟩ := b5 e e0 e1
    have eq : ∀ b, 0 ≤ b → b < 128 → dEH D e b = dEH D' e b := fun b c0 c1 => by
      rw [x5 b c0 c1, y5 b c0 c1, u1]
      by_cases w : b < D' 0 4
      · rw [u2 b c0 (by omega)]
      · rw [decide_eq_false w]
        rfl
    refine ⟨by rw [x1, y1], by rw [x2, y2], tb_ext x3 y3 (fun k k0 k1 => ?_), tb_ext x4 y4 (fun k k0 k1 => ?_)⟩
    · have := eq k k0 (by omega)
      unfold dEH at this
      rwa [if_pos k1, if_pos k1] at this
    · have := eq (k + 64) (by omega) (by omega)
      unfold dEH at this
      rwa [if_neg (by omega), if_neg (by omega), show k + 64 - 64 = k by omega] at this
  · rw [(a6 i i0 i1).1, (a6 i i0 i1).2, (b6 i i0 i1).1, (b6 i i0 i1).2]
    exact ⟨rfl, rfl⟩
theorem mRep_u {D D' h : zH} {i n en E : Int} {fr to : Int → Int} {X : Int → Int → Bool} {F : Int} {ff ft : Int → Int} (a : isD D n en E fr to X F ff ft) (b : isD D' n en E fr to X F ff ft) (r : mRep h i D') : mRep h i D := by
  obtain ⟨⟨s0, s1, s2, s3, s4⟩, t1, t2, t3⟩ := isD_same a b
  have aE := a.1.2.2.1
  have aF := a.1.2.2.2
  obtain ⟨⟨r0, r1, r2, r3, r4⟩, q1, q2, q3⟩ := r
  refine ⟨⟨by omega, by omega, by omega, by omega, by omega⟩, fun e e0 e1 => ?_, fun j j0 j1 => ?_, fun b b0 b1 => ?_⟩
  · obtain ⟨w1, w2, w3, w4⟩ := t1 e e0 (by omega)
    rw [w1, w2, w3, w4]
    exact q1 e e0 (by omega)
  · obtain ⟨w1, w2⟩ := t2 j j0 (by omega)
    rw [w1, w2]
    exact q2 j j0 (by omega)
  · rw [t3 b b0 b1]
    exact q3 b b0 (by omega)
def mD (h : zH) (i : Int) : zH := fun r j => if r = 0 then (if j = 0 then h 493 i else if j = 1 then h 502 i else if j = 2 then h 494 i else if j = 3 then h 495 i else h 496 i) else if r = 1 then h 498 (i * 160 + j) else if r = 2 then h 499 (i * 160 + j) else if r = 3 then h 503 (i * 160 + j) else if r = 4 then h 504 (i * 160 + j) else if r = 5 then h 500 (i * 64 + j) else if r = 6 then h 501 (i * 64 + j) else h 497 (i * 128 + j)
theorem mD_rep (h : zH) (i : Int) : mRep h i (mD h i) := ⟨⟨rfl, rfl, rfl, rfl, rfl⟩, fun _ _ _ => ⟨rfl, rfl, rfl, rfl⟩, fun _ _ _ => ⟨rfl, rfl⟩, fun _ _ _ => rfl⟩
/-- what settling row i may change -/
def msF (i : Int) (h h' : zH) : Prop := (∀ a, ¬ (493 ≤ a ∧ a ≤ 509) → h' a = h a) ∧ (∀ a j, 0 ≤ j → j < 14 → ¬ j = i → a = 493 ∨ a = 494 ∨ a = 495 ∨ a = 496 ∨ a = 502 → h' a j = h a j) ∧ (∀ j, j < i * 128 ∨ i * 128 + 128 ≤ j → h' 497 j = h 497 j) ∧ (∀ a j, j < i * 160 ∨ i * 160 + 160 ≤ j → a = 498 ∨ a = 499 ∨ a = 503 ∨ a = 504 → h' a j = h a j) ∧ ∀ a j, j < i * 64 ∨ i * 64 + 64 ≤ j → a = 500 ∨ a = 501 → h' a j = h a j
theorem msF_r (i : Int) (h : zH) : msF i h h := ⟨fun _ _ => rfl, fun _ _ _ _ _ _ => rfl, fun _ _ => rfl, fun _ _ _ _ => rfl, fun _ _ _ _ => rfl⟩
theorem msF_t {i : Int} {h1 h2 h3 : zH} (a : msF i h1 h2) (b : msF i h2 h3) : msF i h1 h3 := ⟨fun x p => (b.1 x p).trans (a.1 x p), fun x j p q r s => (b.2.1 x j p q r s).trans (a.2.1 x j p q r s), fun j p => (b.2.2.1 j p).trans (a.2.2.1 j p), fun x j p q => (b.2.2.2.1 x j p q).trans (a.2.2.2.1 x j p q), fun x j p q => (b.2.2.2.2 x j p q).trans (a.2.2.2.2 x j p q)⟩
theorem msF_se {i e : Int} {h h' : zH} (he : 0 ≤ e ∧ e < 160) (s : seF (i * 160 + e) h h') : msF i h h' := ⟨fun x p => s.1 x (by omega) (by omega) (by omega) (by omega), fun x j p q r t => by rw [s.1 x (by omega) (by omega) (by omega) (by omega)], fun j p => by rw [s.1 497 (by decide) (by decide) (by decide) (by decide)], fun x j p q => s.2 x j (by omega), fun x j p q => by rw [s.1 x (by omega) (by omega) (by omega) (by omega)]⟩
theorem msF_cu {i : Int} {h h' : zH} (s : cuF i h h') : msF i h h' := ⟨fun x p => s.1 x (by omega) (by omega), fun x j p q r t => by
    by_cases w : x = 496
    · rw [w]
      exact s.2.1 j r
    · rw [s.1 x w (by omega)], fun j p => s.2.2 j p, fun x j p q => by rw [s.1 x (by omega) (by omega)], fun x j p q => by rw [s.1 x (by omega) (by omega)]⟩
theorem msF_1 {i a x : Int} {h : zH} (ha : a = 493 ∨ a = 494 ∨ a = 495 ∨ a = 496 ∨ a = 502) : msF i h (zup h a i x) := ⟨fun y p => zup_ne (by omega), fun y j p q r s => zup_ns r, fun j p => by rw [zup_ne (by omega)], fun y j p q => by rw [zup_ne (by omega)], fun y j p q => by rw [zup_ne (by omega)]⟩
theorem msF_2 {i a j x : Int} {h : zH} (hj : 0 ≤ j ∧ j < 64) (ha : a = 500 ∨ a = 501) : msF i h (zup h a (i * 64 + j) x) := ⟨fun y p => zup_ne (by omega), fun y j p q r s => by rw [zup_ne (by omega)], fun j p => by rw [zup_ne (by omega)], fun y j p q => by rw [zup_ne (by omega)], fun y j p q => zup_ns (by omega)⟩
theorem msF_g {i bank : Int} {h h' : zH} (s : mFr bank h h') : msF i h h' := ⟨fun x p => s.1 x (by omega), fun x j p q r t => by rw [s.1 x (by omega)], fun j p => by rw [s.1 497 (by decide)], fun x j p q => by rw [s.1 x (by omega)], fun x j p q => by rw [s.1 x (by omega)]⟩
theorem msF_rep {i j : Int} {h h' D : zH} (s : msF i h h') (j0 : 0 ≤ j ∧ j < 14) (ne : ¬ j = i) (hD : mOK D) (r : mRep h j D) : mRep h' j D := by
  have h2 := mO_ed hD
  have h3 := mO_fr hD
  have h4 := mO_bl hD
  obtain ⟨s1, s2, s3, s4, s5⟩ := s
  obtain ⟨⟨r0, r1, r2, r3, r4⟩, q1, q2, q3⟩ := r
  have n1 : j < i ∨ i + 1 ≤ j := by omega
  refine ⟨⟨?_, ?_, ?_, ?_, ?_⟩, fun e e0 e1 => ?_, fun l l0 l1 => ?_, fun b b0 b1 => ?_⟩
  · rw [s2 493 j j0.1 j0.2 ne (by omega), r0]
  · rw [s2 502 j j0.1 j0.2 ne (by omega), r1]
  · rw [s2 494 j j0.1 j0.2 ne (by omega), r2]
  · rw [s2 495 j j0.1 j0.2 ne (by omega), r3]
  · rw [s2 496 j j0.1 j0.2 ne (by omega), r4]
  · rw [s4 498 _ (by omega) (by omega), s4 499 _ (by omega) (by omega), s4 503 _ (by omega) (by omega), s4 504 _ (by omega) (by omega)]
    exact q1 e e0 e1
  · rw [s5 500 _ (by omega) (by omega), s5 501 _ (by omega) (by omega)]
    exact q2 l l0 l1
  · rw [s3 _ (by omega)]
    exact q3 b b0 b1
theorem dfM_fr {h h' : zH} {n en E F : Int} {fr to ff ft : Int → Int} {X : Int → Int → Bool} (f : ∀ a, a = 466 ∨ (486 ≤ a ∧ a ≤ 492) → h' a = h a) (k : dfM h n en E fr to X F ff ft) : dfM h' n en E fr to X F ff ft := by
  unfold dfM at k ⊢
  rw [f 466 (by omega), f 486 (by omega), f 487 (by omega), f 488 (by omega), f 489 (by omega), f 490 (by omega), f 491 (by omega), f 492 (by omega)]
  exact k
theorem dEH_mD {h : zH} {i e b : Int} : dEH (mD h i) e b = mb h (i * 160 + e) b := rfl
section MF
variable {G : zG} {d : Nat} {h : zH} {i n en E F : Int} {fr to ff ft : Int → Int} {X : Int → Int → Bool}
theorem sm_settles0 {K : Bool → zH → Prop} (hi : 0 ≤ i ∧ i < 14) (k : dfM h n en E fr to X F ff ft) (ok : dOK n en E fr to F ff ft) (ov : h 466 51 = 0) (k1 : chF E X → ∀ h' : zH, msF i h h' → K false h') (k2 : ∀ h' : zH, msF i h h' → isD (mD h' i) n en E fr to X F ff ft → zCb G (d + 3) mX12_gathers [vr 12 466, vi i, vi 0] h' K) : zCb G (d + 4) mX12_settles [vr 12 466, vi i] h K := by
  have E0 := ok.2.2.1
  have F0 := ok.2.2.2.1
  refine eX12_settles (bX12_settles_0 ⟨by rw [ov]; exact ⟨by decide, by decide⟩, fun z => absurd ov z, fun _ => sm_cutsAll hi k E0 (fun h2 c s => ⟨fun _ => ⟨hi, hi, hi, hi, ?_⟩, fun z => (by cases z)⟩) (fun h2 c q => ⟨fun z => (by cases z), fun _ => k1 q h2 (msF_cu c)⟩)⟩)
  have e2 : h2 466 = h 466 := c.1 466 (by decide) (by decide)
  rw [e2, k.1.1, k.1.2.1, k.1.2.2.1, k.1.2.2.2]
  obtain ⟨nb, enb⟩ : ∃ x, x = h2 496 i := ⟨_, rfl⟩
  obtain ⟨S, eS⟩ : ∃ x, x = rS h2 i := ⟨_, rfl⟩
  have st1 := s.1
  have st2 := s.2.1
  have st3 := s.2.2
  rw [← enb] at st1
  rw [← enb, ← eS] at st2
  rw [← enb, ← eS] at st3
  -- the free steps
  have l81 : ∀ (f : Nat) (l : Int) (h1 : zH), 0 ≤ l ∧ l ≤ F → F - l ≤ f → msF i h h1 → ((mD h1 i) 0 3 = F ∧ (mD h1 i) 0 0 = n ∧ (mD h1 i) 0 1 = en ∧ (mD h1 i) 0 2 = E ∧ (mD h1 i) 0 4 = nb) → (mD h1 i) 7 = S → (∀ e, 0 ≤ e → e < E → (mD h1 i) 1 e = fr e ∧ (mD h1 i) 2 e = to e ∧ zRL ((mD h1 i) 3 e) ∧ zRL ((mD h1 i) 4 e) ∧ ∀ b, 0 ≤ b → b < 128 → dEH (mD h1 i) e b = (decide (b < nb) && X e (S b))) → (∀ j, 0 ≤ j → j < l → (mD h1 i) 5 j = ff j ∧ (mD h1 i) 6 j = ft j) → tX12_settles_81 G (d + 3) K i l h1 := by
    intro f
    have done : ∀ (l : Int) (h1 : zH), 0 ≤ l ∧ l ≤ F → F ≤ l → msF i h h1 → ((mD h1 i) 0 3 = F ∧ (mD h1 i) 0 0 = n ∧ (mD h1 i) 0 1 = en ∧ (mD h1 i) 0 2 = E ∧ (mD h1 i) 0 4 = nb) → (mD h1 i) 7 = S → (∀ e, 0 ≤ e → e < E → (mD h1 i) 1 e = fr e ∧ (mD h1 i) 2 e = to e ∧ zRL ((mD h1 i) 3 e) ∧ zRL ((mD h1 i) 4 e) ∧ ∀ b, 0 ≤ b → b < 128 → dEH (mD h1 i) e b = (decide (b < nb) && X e (S b))) → (∀ j, 0 ≤ j → j < l → (mD h1 i) 5 j = ff j ∧ (mD h1 i) 6 j = ft j) → zCb G (d + 3) mX12_gathers [vr 12 466, vi i, vi 0] h1 K := by
      intro l h1 hl hz mf q0 q7 q1 q5
      refine k2 h1 mf ⟨⟨q0.2.1, q0.2.2.1, q0.2.2.2.1, q0.1⟩, ?_, ?_, fun j j0 j1 => q5 j j0 (by omega), ?_, ?_⟩
      · rw [q0.2.2.2.2]
        have := st2.1
        omega
      · rw [q0.2.2.2.2, q7]
        exact q1
      · rw [q0.2.2.2.2, q7]
        exact st2
      · rw [q0.2.2.2.2, q7]
        exact st3
    induction f with
    | zero =>
      intro l h1 hl hf mf q0 q7 q1 q5
      refine bX12_settles_81 ?_
      rw [mf.1 466 (by decide), k.1.2.2.2]
      exact ⟨⟨by omega, by omega⟩, ⟨by omega, by omega⟩, fun z => done l h1 hl z mf q0 q7 q1 q5, fun z => absurd hf (by omega)⟩
    | succ f ih =>
      intro l h1 hl hf mf q0 q7 q1 q5
      refine bX12_settles_81 ?_
      rw [mf.1 466 (by decide), k.1.2.2.2]
      refine ⟨⟨by omega, by omega⟩, ⟨by omega, by omega⟩, fun z => done l h1 hl z mf q0 q7 q1 q5, fun z => ⟨by omega, by omega, by omega, by omega, ?_⟩⟩
      have kf := k.2.2.2 l hl.1 (by omega)
      rw [mf.1 491 (by decide), mf.1 492 (by decide), kf.1, kf.2]
      have sm : ∀ a, ¬ a = 500 → ¬ a = 501 → (zup (zup h1 500 (i * 64 + l) (ff l)) 501 (i * 64 + l) (ft l)) a = h1 a := fun a p q => by rw [zup_ne q, zup_ne p]
      have sr : ∀ r j, ¬ r = 5 → ¬ r = 6 → mD (zup (zup h1 500 (i * 64 + l) (ff l)) 501 (i * 64 + l) (ft l)) i r j = mD h1 i r j := fun r j p q => by
        unfold mD
        rw [sm 493 (by decide) (by decide), sm 502 (by decide) (by decide), sm 494 (by decide) (by decide), sm 495 (by decide) (by decide), sm 496 (by decide) (by decide), sm 497 (by decide) (by decide), sm 498 (by decide) (by decide), sm 499 (by decide) (by decide), sm 503 (by decide) (by decide), sm 504 (by decide) (by decide), if_neg p, if_neg q, if_neg p, if_neg q]
      refine ih (l + 1) _ (by omega) (by omega) (msF_t mf (msF_t (msF_2 (by omega) (by omega)) (msF_2 (by omega) (by omega)))) ?_ ?_ ?_ ?_
      · rw [sr 0 3 (by decide) (by decide), sr 0 0 (by decide) (by decide), sr 0 1 (by decide) (by decide), sr 0 2 (by decide) (by decide), sr 0 4 (by decide) (by decide)]
        exact q0
      · rw [← q7]
        funext b
        exact sr 7 b (by decide) (by decide)
      · intro e e0 e1
        rw [sr 1 e (by decide) (by decide), sr 2 e (by decide) (by decide), sr 3 e (by decide) (by decide), sr 4 e (by decide) (by decide)]
        have := q1 e e0 e1
        unfold dEH at this ⊢
        rw [sr 3 e (by decide) (by decide), sr 4 e (by decide) (by decide)]
        exact this
      · intro j j0 j1
        show (zup (zup h1 500 (i * 64 + l) (ff l)) 501 (i * 64 + l) (ft l)) 500 (i * 64 + j) = ff j ∧ (zup (zup h1 500 (i * 64 + l) (ff l)) 501 (i * 64 + l) (ft l)) 501 (i * 64 + j) = ft j
        by_cases w : j = l
        · rw [w, zup_ne (by decide), zup_eq, zup_eq]
          exact ⟨rfl, rfl⟩
        · rw [zup_ne (by decide), zup_ns (by omega), zup_ns (by omega), zup_ne (by decide)]
          exact q5 j j0 (by omega)
  have l59 : ∀ (f : Nat) (e : Int) (h1 : zH), 0 ≤ e ∧ e ≤ E → E - e ≤ f → msF i h h1 → ((mD h1 i) 0 3 = F ∧ (mD h1 i) 0 0 = n ∧ (mD h1 i) 0 1 = en ∧ (mD h1 i) 0 2 = E ∧ (mD h1 i) 0 4 = nb) → (mD h1 i) 7 = S → (∀ e', 0 ≤ e' → e' < e → (mD h1 i) 1 e' = fr e' ∧ (mD h1 i) 2 e' = to e' ∧ zRL ((mD h1 i) 3 e') ∧ zRL ((mD h1 i) 4 e') ∧ ∀ b, 0 ≤ b → b < 128 → dEH (mD h1 i) e' b = (decide (b < nb) && X e' (S b))) → tX12_settles_59 G (d + 3) K i e h1 := by
    intro f
    induction f with
    | zero =>
      intro e h1 he hf mf q0 q7 q1
      refine bX12_settles_59 ?_
      rw [mf.1 466 (by decide), k.1.2.2.1]
      exact ⟨⟨by omega, by omega⟩, ⟨by omega, by omega⟩, fun z => l81 F.toNat 0 h1 (by omega) (by omega) mf q0 q7 (fun e' a b => q1 e' a (by omega)) (fun j j0 j1 => absurd j1 (by omega)), fun z => absurd hf (by omega)⟩
    | succ f ih =>
      intro e h1 he hf mf q0 q7 q1
      refine bX12_settles_59 ?_
      rw [mf.1 466 (by decide), k.1.2.2.1]
      refine ⟨⟨by omega, by omega⟩, ⟨by omega, by omega⟩, fun z => l81 F.toNat 0 h1 (by omega) (by omega) mf q0 q7 (fun e' a b => q1 e' a (by omega)) (fun j j0 j1 => absurd j1 (by omega)), fun z => ?_⟩
      have enb1 : h1 496 i = nb := q0.2.2.2.2
      have eS1 : rS h1 i = S := q7
      refine sm_settlesEdge (d := d + 2) hi (dfM_fr (fun a q => mf.1 a (by omega)) k) E0 (e := e) (by omega) ⟨by rw [enb1]; exact st1, by rw [enb1, eS1]; exact st2, by rw [enb1, eS1]; exact st3⟩ (fun h3 sf r1 r2 r3 r4 r5 => ?_)
      rw [enb1, eS1] at r5
      refine ih (e + 1) h3 (by omega) (by omega) (msF_t mf (msF_se (by omega) sf)) ?_ ?_ (fun e' a0 a1 => ?_)
      · show h3 495 i = F ∧ h3 493 i = n ∧ h3 502 i = en ∧ h3 494 i = E ∧ h3 496 i = nb
        rw [sf.1 495 (by decide) (by decide) (by decide) (by decide), sf.1 493 (by decide) (by decide) (by decide) (by decide), sf.1 502 (by decide) (by decide) (by decide) (by decide), sf.1 494 (by decide) (by decide) (by decide) (by decide), sf.1 496 (by decide) (by decide) (by decide) (by decide)]
        exact q0
      · show rS h3 i = S
        unfold rS
        rw [sf.1 497 (by decide) (by decide) (by decide) (by decide)]
        exact eS1
      · by_cases w : e' = e
        · rw [w]
          exact ⟨r1, r2, r3, r4, r5⟩
        · have := q1 e' a0 (by omega)
          have g : ∀ a, h3 a (i * 160 + e') = h1 a (i * 160 + e') := fun a => sf.2 a _ (by omega)
          have t : (h1 498 (i * 160 + e') = fr e' ∧ h1 499 (i * 160 + e') = to e' ∧ zRL (h1 503 (i * 160 + e')) ∧ zRL (h1 504 (i * 160 + e')) ∧ ∀ b, 0 ≤ b → b < 128 → mb h1 (i * 160 + e') b = (decide (b < nb) && X e' (S b))) := this
          show (h3 498 (i * 160 + e') = fr e' ∧ h3 499 (i * 160 + e') = to e' ∧ zRL (h3 503 (i * 160 + e')) ∧ zRL (h3 504 (i * 160 + e')) ∧ ∀ b, 0 ≤ b → b < 128 → mb h3 (i * 160 + e') b = (decide (b < nb) && X e' (S b)))
          unfold mb at t ⊢
          rw [g 498, g 499, g 503, g 504]
          exact t
  refine l59 E.toNat 0 _ (by omega) (by omega) (msF_t (msF_cu c) (msF_t (msF_1 (by omega)) (msF_t (msF_1 (by omega)) (msF_t (msF_1 (by omega)) (msF_1 (by omega)))))) ?_ ?_ (fun e' a0 a1 => absurd a1 (by omega))
  · show (zup (zup (zup (zup h2 493 i n) 494 i E) 495 i F) 502 i en) 495 i = F ∧ (zup (zup (zup (zup h2 493 i n) 494 i E) 495 i F) 502 i en) 493 i = n ∧ (zup (zup (zup (zup h2 493 i n) 494 i E) 495 i F) 502 i en) 502 i = en ∧ (zup (zup (zup (zup h2 493 i n) 494 i E) 495 i F) 502 i en) 494 i = E ∧ (zup (zup (zup (zup h2 493 i n) 494 i E) 495 i F) 502 i en) 496 i = nb
    refine ⟨?_, ?_, ?_, ?_, ?_⟩
    · rw [zup_ne (by decide), zup_eq]
    · rw [zup_ne (by decide), zup_ne (by decide), zup_ne (by decide), zup_eq]
    · rw [zup_eq]
    · rw [zup_ne (by decide), zup_ne (by decide), zup_eq]
    · rw [zup_ne (by decide), zup_ne (by decide), zup_ne (by decide), zup_ne (by decide), enb]
  · rw [eS]
    funext b
    show (zup (zup (zup (zup h2 493 i n) 494 i E) 495 i F) 502 i en) 497 (i * 128 + b) = h2 497 (i * 128 + b)
    rw [zup_ne (by decide), zup_ne (by decide), zup_ne (by decide), zup_ne (by decide)]
theorem sm_settles_ch {K : Bool → zH → Prop} (hi : 0 ≤ i ∧ i < 14) (k : dfM h n en E fr to X F ff ft) (ok : dOK n en E fr to F ff ft) (ov : h 466 51 = 0) (c : chF E X) (k1 : ∀ h' : zH, msF i h h' → K false h') : zCb G (d + 4) mX12_settles [vr 12 466, vi i] h K :=
  sm_settles0 hi k ok ov (fun _ => k1) (fun _ _ q => absurd (chF_no q c) id)
theorem sm_settles {K : Bool → zH → Prop} {D : zH} {N K0 : Int} {B T Pa Vi De : Int → Int} (hi : 0 ≤ i ∧ i < 14) (k : dfM h n en E fr to X F ff ft) (ok : dOK n en E fr to F ff ft) (ov : h 466 51 = 0) (iD : isD D n en E fr to X F ff ft) (mok : mOK D) (hb : bfs D N B T Pa Vi De K0) (hc : K0 = N * 128 ∨ gFail D N B K0) (k1 : K0 = N * 128 → ∀ h' : zH, msF i h h' → mRep h' i D → K true h') (k2 : ¬ K0 = N * 128 → ∀ h' : zH, msF i h h' → K false h') : zCb G (d + 4) mX12_settles [vr 12 466, vi i] h K :=
  sm_settles0 hi k ok ov (fun c => absurd (chF_no iD c) id) (fun h2 mf q => by
    have r := mRep_u iD q (mD_rep h2 i)
    refine sm_gathers mok hi r (Or.inl rfl) hb hc (fun e h3 f _ => k1 e h3 (msF_t mf (msF_g f)) (mRep_fr (fun a x y => f.1 a (by omega)) r)) (fun e h3 f => k2 e h3 (msF_t mf (msF_g f))))
theorem sm_settles_over {K : Bool → zH → Prop} (ov : ¬ h 466 51 = 0) (ov2 : h 466 51 = 1) (k : K false h) : zCb G (d + 4) mX12_settles [vr 12 466, vi i] h K :=
  eX12_settles (bX12_settles_0 ⟨by rw [ov2]; exact ⟨by decide, by decide⟩, fun _ => k, fun z => absurd z ov⟩)
end MF
