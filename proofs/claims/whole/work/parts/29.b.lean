/-! ===== minterms: the model, cases ===== -/
section DA
variable {G : zG} {d : Nat} {h D : zH}
theorem sp_leaderOf {K : Int → zH → Prop} {m i C : Int} {e : Int → Int → Prop} {He : Int → Int} (hD : mOK D) (hr : cRep h m D) (nm : numOK e (D 0 4) C (h 245) He) (hi : 0 ≤ i ∧ i < C) (k : K (He i) h) : zCi G d mX5_leaderOf [vr 5 244, vr 4 m, vi i] h K := by
  have hB := mO_bl hD
  have C0 := nm.1.1
  have hh := nm.1.2.2.1 i hi.1 hi.2
  have go : ∀ (f : Nat) (b : Int), 0 ≤ b → b + f = He i → tX5_leaderOf_2 G d K m i b h := by
    intro f
    induction f with
    | zero =>
      intro b b0 bf
      have eb : b = He i := by omega
      subst eb
      refine bX5_leaderOf_2 ?_
      rw [hr.1.2.2.2.2, hh.2]
      exact ⟨⟨by omega, by omega⟩, ⟨by omega, by omega⟩, fun _ => k, fun _ => ⟨by omega, ⟨by omega, by omega⟩, ⟨by omega, by omega⟩, fun _ => k, fun z => absurd rfl z⟩⟩
    | succ f ih =>
      intro b b0 bf
      obtain ⟨k1, k2, k3⟩ := nm.1.2.1 b b0 (by omega)
      refine bX5_leaderOf_2 ?_
      rw [hr.1.2.2.2.2]
      refine ⟨⟨by omega, by omega⟩, ⟨by omega, by omega⟩, fun z => absurd z (by omega), fun _ => ⟨by omega, ⟨by omega, by omega⟩, ⟨by omega, by omega⟩, fun z => ?_, fun _ => ih (b + 1) (by omega) (by omega)⟩⟩
      rw [z] at k3
      omega
  exact eX5_leaderOf (bX5_leaderOf_0 (go (He i).toNat 0 (by omega) (by omega)))
theorem sp_amountOf {K : Int → zH → Prop} {m i C : Int} {e : Int → Int → Prop} {He : Int → Int} (hD : mOK D) (hr : cRep h m D) (nm : numOK e (D 0 4) C (h 245) He) (hi : 0 ≤ i ∧ i < C) (k : K (zsum (fun b => if h 245 b = i then wid D b else 0) (D 0 4).toNat) h) : zCi G (d + 2) mX5_amountOf [vr 5 244, vr 4 m, vi i] h K := by
  have hB := mO_bl hD
  have C0 := nm.1.1
  have go : ∀ (f b : Nat), (b : Int) + f = D 0 4 → tX5_amountOf_5 G (d + 1) K m i (zsum (fun b => if h 245 b = i then wid D b else 0) b) b h := by
    intro f
    induction f with
    | zero =>
      intro b hb
      refine bX5_amountOf_5 ?_
      rw [hr.1.2.2.2.2]
      rw [show (D 0 4).toNat = b by omega] at k
      exact ⟨⟨by omega, by omega⟩, ⟨by omega, by omega⟩, fun _ => k, fun z => absurd z (by omega)⟩
    | succ f ih =>
      intro b hb
      obtain ⟨k1, k2, k3⟩ := nm.1.2.1 b (by omega) (by omega)
      have nx : ∀ v, v = (if h 245 b = i then wid D b else 0) → tX5_amountOf_5 G (d + 1) K m i (zsum (fun b => if h 245 b = i then wid D b else 0) b + v) ((b : Int) + 1) h := fun v ev => by
        subst ev
        exact ih (b + 1) (by omega)
      refine bX5_amountOf_5 ?_
      rw [hr.1.2.2.2.2]
      refine ⟨⟨by omega, by omega⟩, ⟨by omega, by omega⟩, fun z => absurd z (by omega), fun _ => ⟨by omega, ⟨by omega, by omega⟩, ⟨by omega, by omega⟩, fun z => ?_, fun z => sp_lengthOf hD hr (by omega) (nx _ (by rw [if_pos z]; rfl))⟩⟩
      have := nx 0 (by rw [if_neg z])
      rwa [Int.add_zero] at this
  exact eX5_amountOf (bX5_amountOf_0 (go (D 0 4).toNat 0 (by omega)))
def eW (D : zH) (q b e : Int) : Int := if D 1 e = q ∧ dEH D e b = true then 1 else 0
theorem sp_edgesWith {K : Int → zH → Prop} {m q b : Int} (hD : mOK D) (hr : cRep h m D) (hq : zR q) (hb : 0 ≤ b ∧ b < D 0 4) (k : K (zsum (eW D q b) (D 0 2).toNat) h) : zCi G (d + 1) mX4_edgesWith [vr 4 m, vi q, vi b] h K := by
  have hB := mO_bl hD
  have hE := mO_ed hD
  have hS := mO_st hD
  have go : ∀ (f e : Nat), (e : Int) + f = D 0 2 → tX4_edgesWith_5 G d K m q b (zsum (eW D q b) e) e h := by
    intro f
    induction f with
    | zero =>
      intro e he
      refine bX4_edgesWith_5 ?_
      rw [hr.1.2.2.1]
      rw [show (D 0 2).toNat = e by omega] at k
      exact ⟨⟨by omega, by omega⟩, ⟨by omega, by omega⟩, fun _ => k, fun z => absurd z (by omega)⟩
    | succ f ih =>
      intro e he
      have oe := mO_e hD (e := e) (by omega) (by omega)
      have nx : ∀ v, v = eW D q b e → tX4_edgesWith_5 G d K m q b (zsum (eW D q b) e + v) ((e : Int) + 1) h := fun v ev => by
        subst ev
        exact ih (e + 1) (by omega)
      refine bX4_edgesWith_5 ?_
      rw [hr.1.2.2.1, (hr.2.1 e (by omega) (by omega)).1]
      refine ⟨⟨by omega, by omega⟩, ⟨by omega, by omega⟩, fun z => absurd z (by omega), fun _ => ⟨by omega, ⟨by omega, by omega⟩, hq, fun z => ?_, fun z => sp_edgeHas hD hr (by omega) (by omega) ⟨fun y => ?_, fun y => nx 1 (by unfold eW; rw [if_pos ⟨z, y⟩])⟩⟩⟩
      · have := nx 0 (by unfold eW; rw [if_neg (fun w => z w.1)])
        rwa [Int.add_zero] at this
      · have := nx 0 (by unfold eW; rw [if_neg (fun w => absurd (y.symm.trans w.2) (by decide))])
        rwa [Int.add_zero] at this
  exact eX4_edgesWith (bX4_edgesWith_0 (go (D 0 2).toNat 0 (by omega)))
theorem sm_isLike {K : Bool → zH → Prop} {i q b c : Int} (hD : mOK D) (hi : 0 ≤ i ∧ i < 14) (hr : mRep h i D) (hq : zR q) (hb : 0 ≤ b ∧ b < D 0 4) (hc : 0 ≤ c ∧ c < D 0 4) (k : ∀ x : Bool, (x = true ↔ lk D q (D 0 2) b c) → K x h) : zCb G (d + 2) mX12_isLike [vr 12 466, vi i, vi q, vi b, vi c] h K := by
  have hB := mO_bl hD
  have hE := mO_ed hD
  have hS := mO_st hD
  have go : ∀ (f : Nat) (e : Int), 0 ≤ e → e + f = D 0 2 → lk D q e b c → tX12_isLike_3 G (d + 1) K i q b c e h := by
    intro f
    induction f with
    | zero =>
      intro e e0 ef al
      have ee : e = D 0 2 := by omega
      subst ee
      refine bX12_isLike_3 ⟨hi, ?_⟩
      rw [hr.1.2.2.1]
      exact ⟨⟨by omega, by omega⟩, ⟨by omega, by omega⟩, fun _ => k true ⟨fun _ => al, fun _ => rfl⟩, fun z => absurd (Int.le_refl _) z⟩
    | succ f ih =>
      intro e e0 ef al
      have oe := mO_e hD e0 (show e < D 0 2 by omega)
      refine bX12_isLike_3 ⟨hi, ?_⟩
      rw [hr.1.2.2.1, (hr.2.1 e e0 (by omega)).1]
      refine ⟨⟨by omega, by omega⟩, ⟨by omega, by omega⟩, fun z => absurd z (by omega), fun _ => ⟨⟨by omega, by omega⟩, ⟨by omega, by omega⟩, hq, fun z => ih (e + 1) (by omega) (by omega) ((lk_n z).mpr al), fun z => sm_edgeHas hD hi hr ⟨e0, by omega⟩ (by omega) (sm_edgeHas hD hi hr ⟨e0, by omega⟩ (by omega) ?_)⟩⟩
      rw [bi_inj]
      exact ⟨fun y => ih (e + 1) (by omega) (by omega) ((lk_s e0 z).mpr ⟨al, y⟩), fun y => k false ⟨fun w => (by cases w), fun w => absurd (w e e0 (by omega) z) y⟩⟩
  exact eX12_isLike (bX12_isLike_0 (go (D 0 2).toNat 0 (by omega) (by omega) (fun e a b => absurd b (by omega))))
theorem sm_beginsTerm {K : Bool → zH → Prop} {i q b : Int} (hD : mOK D) (hi : 0 ≤ i ∧ i < 14) (hr : mRep h i D) (hq : zR q) (hb : 0 ≤ b ∧ b < D 0 4) (k : ∀ x : Bool, (x = true ↔ ∀ c, 0 ≤ c → c < b → ¬ lk D q (D 0 2) c b) → K x h) : zCb G (d + 3) mX12_beginsTerm [vr 12 466, vi i, vi q, vi b] h K := by
  have hB := mO_bl hD
  have go : ∀ (f : Nat) (c : Int), 0 ≤ c → c + f = b → (∀ c', 0 ≤ c' → c' < c → ¬ lk D q (D 0 2) c' b) → tX12_beginsTerm_3 G (d + 2) K i q b c h := by
    intro f
    induction f with
    | zero =>
      intro c c0 cf no
      exact bX12_beginsTerm_3 ⟨⟨by omega, by omega⟩, ⟨by omega, by omega⟩, fun _ => k true ⟨fun _ c' x y => no c' x (by omega), fun _ => rfl⟩, fun z => absurd z (by omega)⟩
    | succ f ih =>
      intro c c0 cf no
      refine bX12_beginsTerm_3 ⟨⟨by omega, by omega⟩, ⟨by omega, by omega⟩, fun z => absurd z (by omega), fun _ => sm_isLike hD hi hr hq (by omega) hb (fun x hx => ⟨fun z => ih (c + 1) (by omega) (by omega) (fun c' y0 y1 => ?_), fun z => k false ⟨fun w => (by cases w), fun w => absurd (hx.mp z) (w c c0 (by omega))⟩⟩)⟩
      by_cases y : c' = c
      · rw [y]
        intro w
        have := hx.mpr w
        rw [z] at this
        cases this
      · exact no c' y0 (by omega)
  exact eX12_beginsTerm (bX12_beginsTerm_0 (go b.toNat 0 (by omega) (by omega) (fun c' x y => absurd y (by omega))))
/-- a block begins a minterm just if it is a head -/
theorem beg_iff {q C : Int} {Ki He : Int → Int} (nm : numOK (lk D q (D 0 2)) (D 0 4) C Ki He) {b : Int} (b0 : 0 ≤ b) (b1 : b < D 0 4) : (∀ c, 0 ≤ c → c < b → ¬ lk D q (D 0 2) c b) ↔ He (Ki b) = b := by
  obtain ⟨k1, k2, k3⟩ := nm.1.2.1 b b0 b1
  have hh := nm.1.2.2.1 _ k1.1 k1.2
  constructor
  · intro no
    by_cases z : He (Ki b) = b
    · exact z
    · exact absurd ((lk_eqv (n := D 0 4)).2.1 _ _ b0 b1 hh.1.1 hh.1.2 k2) (no _ hh.1.1 (by omega))
  · intro e c c0 c1 al
    have := (nm.2 c b c0 (by omega) b0 b1).mp al
    have k4 := (nm.1.2.1 c c0 (by omega)).2.2
    rw [this, e] at k4
    omega
theorem sm_terms25 {K : Int → zH → Prop} {i q C : Int} {Ki He : Int → Int} (hD : mOK D) (hi : 0 ≤ i ∧ i < 14) (hr : mRep h i D) (hq : zR q) (nm : numOK (lk D q (D 0 2)) (D 0 4) C Ki He) (k : K C (zup (zup h 466 1 0) 466 2 (-1))) : tX12_terms_25 G (d + 3) K i q 0 0 h := by
  have hB := mO_bl hD
  have C0 := nm.1.1
  have go : ∀ (f : Nat) (n b : Int), 0 ≤ b → b + f = D 0 4 → 0 ≤ n ∧ n ≤ C → (∀ c, 0 ≤ c → c < C → (He c < b ↔ c < n)) → tX12_terms_25 G (d + 3) K i q n b h := by
    intro f
    induction f with
    | zero =>
      intro n b b0 bf n0 iv
      have en : n = C := by
        by_cases z : n < C
        · have w := nm.1.2.2.1 n n0.1 z
          have := (iv n n0.1 z).mp (by omega)
          omega
        · omega
      subst en
      refine bX12_terms_25 ⟨hi, ?_⟩
      rw [hr.1.2.2.2.2]
      exact ⟨⟨by omega, by omega⟩, ⟨by omega, by omega⟩, fun _ => sm_good k, fun z => absurd z (by omega)⟩
    | succ f ih =>
      intro n b b0 bf n0 iv
      have bi2 := beg_iff nm b0 (show b < D 0 4 by omega)
      obtain ⟨k1, k2, k3⟩ := nm.1.2.1 b b0 (by omega)
      refine bX12_terms_25 ⟨hi, ?_⟩
      rw [hr.1.2.2.2.2]
      refine ⟨⟨by omega, by omega⟩, ⟨by omega, by omega⟩, fun z => absurd z (by omega), fun _ => sm_beginsTerm hD hi hr hq ⟨b0, by omega⟩ (fun x hx => ⟨fun z => ih (n + 0) (b + 1) (by omega) (by omega) (by omega) (fun c c0 c1 => ?_), fun z => ?_⟩)⟩
      · have ne : ¬ He (Ki b) = b := fun w => by
          have := hx.mpr (bi2.mpr w)
          rw [z] at this
          cases this
        have w := iv c c0 c1
        rw [Int.add_zero]
        constructor
        · intro y
          by_cases y2 : He c = b
          · have y3 := (nm.1.2.2.1 c c0 c1).2
            rw [y2] at y3
            rw [← y3] at y2
            exact absurd y2 ne
          · exact w.mp (by omega)
        · intro y
          have := w.mpr y
          omega
      · have e := bi2.mp (hx.mp z)
        have nk : n = Ki b := by
          rcases Int.lt_trichotomy n (Ki b) with y | y | y
          · have y2 := nm.1.2.2.2 n (Ki b) n0.1 y k1.2
            have := (iv n n0.1 (by omega)).mp (by omega)
            omega
          · exact y
          · have := (iv (Ki b) k1.1 k1.2).mpr y
            omega
        refine ih (n + 1) (b + 1) (by omega) (by omega) (by omega) (fun c c0 c1 => ?_)
        have w := iv c c0 c1
        constructor
        · intro y
          by_cases y2 : He c = b
          · have y3 := (nm.1.2.2.1 c c0 c1).2
            rw [y2] at y3
            omega
          · have := w.mp (by omega)
            omega
        · intro y
          by_cases y2 : c = n
          · rw [y2, nk, e]
            omega
          · have := w.mpr (by omega)
            omega
  exact go (D 0 4).toNat 0 0 (by omega) (by omega) (by omega) (fun c c0 c1 => ⟨fun z => by have := (nm.1.2.2.1 c c0 c1).1; omega, fun z => absurd z (by omega)⟩)
theorem sm_termAt {K : Int → zH → Prop} {i q j C : Int} {Ki He : Int → Int} (hD : mOK D) (hi : 0 ≤ i ∧ i < 14) (hr : mRep h i D) (hq : zR q) (hj : zR j) (nm : numOK (lk D q (D 0 2)) (D 0 4) C Ki He) (k1 : 0 ≤ j ∧ j < C → K (He j) h) (k2 : ¬ (0 ≤ j ∧ j < C) → K (-1) h) : zCi G (d + 4) mX12_termAt [vr 12 466, vi i, vi q, vi j] h K := by
  have hB := mO_bl hD
  have C0 := nm.1.1
  have go : ∀ (f : Nat) (n b : Int), 0 ≤ b → b + f = D 0 4 → 0 ≤ n ∧ n ≤ C → (j < 0 ∨ n ≤ j) → (∀ c, 0 ≤ c → c < C → (He c < b ↔ c < n)) → tX12_termAt_6 G (d + 3) K i q j n b h := by
    intro f
    induction f with
    | zero =>
      intro n b b0 bf n0 nj iv
      have en : n = C := by
        by_cases z : n < C
        · have w := nm.1.2.2.1 n n0.1 z
          have := (iv n n0.1 z).mp (by omega)
          omega
        · omega
      refine bX12_termAt_6 ⟨hi, ?_⟩
      rw [hr.1.2.2.2.2]
      exact ⟨⟨by omega, by omega⟩, ⟨by omega, by omega⟩, fun _ => k2 (by omega), fun z => absurd z (by omega)⟩
    | succ f ih =>
      intro n b b0 bf n0 nj iv
      have bi2 := beg_iff nm b0 (show b < D 0 4 by omega)
      obtain ⟨x1, x2, x3⟩ := nm.1.2.1 b b0 (by omega)
      refine bX12_termAt_6 ⟨hi, ?_⟩
      rw [hr.1.2.2.2.2]
      refine ⟨⟨by omega, by omega⟩, ⟨by omega, by omega⟩, fun z => absurd z (by omega), fun _ => sm_beginsTerm hD hi hr hq ⟨b0, by omega⟩ (fun x hx => ⟨fun z => ?_, fun z => ih n (b + 1) (by omega) (by omega) (by omega) nj (fun c c0 c1 => ?_)⟩)⟩
      · have e := bi2.mp (hx.mp z)
        have nk : n = Ki b := by
          rcases Int.lt_trichotomy n (Ki b) with y | y | y
          · have y2 := nm.1.2.2.2 n (Ki b) n0.1 y x1.2
            have := (iv n n0.1 (by omega)).mp (by omega)
            omega
          · exact y
          · have := (iv (Ki b) x1.1 x1.2).mpr y
            omega
        refine ⟨⟨by omega, by omega⟩, hj, fun y => ih (n + 1) (b + 1) (by omega) (by omega) (by omega) (by omega) (fun c c0 c1 => ?_), fun y => ?_⟩
        · have w := iv c c0 c1
          constructor
          · intro y
            by_cases y2 : He c = b
            · have y3 := (nm.1.2.2.1 c c0 c1).2
              rw [y2] at y3
              omega
            · have := w.mp (by omega)
              omega
          · intro y
            by_cases y2 : c = n
            · rw [y2, nk, e]
              omega
            · have := w.mpr (by omega)
              omega
        · have := k1 (by omega)
          rw [← y, nk, e] at this
          exact this
      · have ne : ¬ He (Ki b) = b := fun w => by
          have := hx.mpr (bi2.mpr w)
          rw [z] at this
          cases this
        have w := iv c c0 c1
        constructor
        · intro y
          by_cases y2 : He c = b
          · have y3 := (nm.1.2.2.1 c c0 c1).2
            rw [y2] at y3
            rw [← y3] at y2
            exact absurd y2 ne
          · exact w.mp (by omega)
        · intro y
          have := w.mpr y
          omega
  exact eX12_termAt (bX12_termAt_0 (go (D 0 4).toNat 0 0 (by omega) (by omega) (by omega) (by omega) (fun c c0 c1 => ⟨fun z => by have := (nm.1.2.2.1 c c0 c1).1; omega, fun z => absurd z (by omega)⟩)))
end DA
