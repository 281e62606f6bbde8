/-! ===== classes: the model's rounds and numbers ===== -/
section SW
variable {G : zG} {d : Nat} {h D : zH} {i bank n x : Int} {B T Pa Vi De : Int → Int}
theorem sm_parts {K : zH → Prop} {R : Nat} (hi : 0 ≤ i ∧ i < 14) (hbk : bank = 0 ∨ bank = 1) (hn : 1 ≤ n ∧ n ≤ 40) (hnb : 1 ≤ D 0 4 ∧ D 0 4 ≤ 128) (hR : R ≤ 40) (e96 : h 496 i = D 0 4) (e02 : h 502 i = D 0 1) (e06 : h 506 bank = n) (e05 : ∀ s, 0 ≤ s → s < n → h 505 (bank * 40 + s) = B s) (e07 : ∀ s b, 0 ≤ s → s < n → 0 ≤ b → b < D 0 4 → h 507 ((bank * 40 + s) * 128 + b) = T (s * 128 + b)) (hT : ∀ s b, 0 ≤ s → s < n → 0 ≤ b → b < D 0 4 → 0 ≤ T (s * 128 + b) ∧ T (s * 128 + b) < n) (hx : tkOK D n B x)
    (c1 : ∀ s t, 0 ≤ s → s < n → 0 ≤ t → t < n → pd T (D 0 4) (tb x) (R + 1) s t → pd T (D 0 4) (tb x) R s t) (c2 : ∀ q : Nat, q < R → ∃ s t, (0 ≤ s ∧ s < n) ∧ (0 ≤ t ∧ t < n) ∧ pd T (D 0 4) (tb x) (q + 1) s t ∧ ¬ pd T (D 0 4) (tb x) q s t)
    (k : ∀ h' : zH, (∀ a, ¬ a = 513 → ¬ a = 466 → h' a = h a) → (∀ j, ¬ j = 75 → h' 466 j = h 466 j) → h' 466 75 = R → (∀ s t, 0 ≤ s → s < n → 0 ≤ t → t < n → apE T (D 0 4) (tb x) R s t (h' 513 (s * 40 + t))) → K h') : zCv G (d + 3) mX12_parts [vr 12 466, vi i, vi bank] h K := by
  have l79 : ∀ (f : Nat) (r : Nat) (h1 : zH), r + f = R → (∀ a, ¬ a = 513 → ¬ a = 466 → h1 a = h a) → (∀ j, ¬ j = 75 → h1 466 j = h 466 j) → h1 466 75 = r → (∀ s t, 0 ≤ s → s < n → 0 ≤ t → t < n → apE T (D 0 4) (tb x) r s t (h1 513 (s * 40 + t))) → tX12_parts_79 G (d + 2) K i bank h1 := by
    intro f
    induction f with
    | zero =>
      intro r h1 rf g1 g2 g3 g4
      have er : r = R := by omega
      subst er
      refine bX12_parts_79 ?_
      rw [g3]
      refine sm_partsMore (n := n) (x := x) (T := T) (D := D) hi hbk hn hnb (by omega) (by rw [g1 496 (by decide) (by decide), e96]) (by rw [g1 506 (by decide) (by decide), e06]) (by rw [g1 507 (by decide) (by decide)]; exact e07) hT g4 (fun h2 f1 f2 f3 => ?_) (fun h2 f1 f2 f3 => ⟨fun _ => ?_, fun q => (by cases q)⟩)
      · obtain ⟨s, t, a, b, c, e⟩ := f3
        exact absurd (c1 s t a.1 a.2 b.1 b.2 c) e
      · refine k h2 (fun a q1 q2 => by rw [f1 a q1, g1 a q1 q2]) (fun j q => by rw [f1 466 (by decide), g2 j q]) (by rw [f1 466 (by decide), g3]) (fun s t a b c e => ?_)
        rcases f2 s t a b c e with ⟨w1, w2⟩ | ⟨q, w1, w2, w3, w4⟩
        · exact Or.inl ⟨w1, fun z => w2 (pd_up z)⟩
        · refine Or.inr ⟨q, ?_, w2, w3, w4⟩
          rcases Nat.lt_or_ge r q with z | z
          · have : q = r + 1 := by omega
            subst this
            exact absurd (c1 s t a b c e w3) (w4 r (by omega))
          · exact z
    | succ f ih =>
      intro r h1 rf g1 g2 g3 g4
      refine bX12_parts_79 ?_
      rw [g3]
      refine sm_partsMore (n := n) (x := x) (T := T) (D := D) hi hbk hn hnb (by omega) (by rw [g1 496 (by decide) (by decide), e96]) (by rw [g1 506 (by decide) (by decide), e06]) (by rw [g1 507 (by decide) (by decide)]; exact e07) hT g4 (fun h2 f1 f2 f3 => ⟨fun q => (by cases q), fun _ => ?_⟩) (fun h2 f1 f2 f3 => ?_)
      · refine ih (r + 1) _ (by omega) (fun a q1 q2 => by rw [zup_ne q2, f1 a q1, g1 a q1 q2]) (fun j q => by rw [zup_ns q, f1 466 (by decide), g2 j q]) ?_ (by rw [zup_ne (by decide)]; exact f2)
        rw [zup_eq, f1 466 (by decide), g3]
        omega
      · obtain ⟨s, t, a, b, c, e⟩ := c2 r (by omega)
        exact absurd (f3 s t a.1 a.2 b.1 b.2 c) e
  have l10 : ∀ (f : Nat) (s : Int) (h1 : zH), 0 ≤ s → s + f = n → (∀ a, ¬ a = 513 → h1 a = h a) → (∀ u v, 0 ≤ u → u < s → 0 ≤ v → v < n → apE T (D 0 4) (tb x) 0 u v (h1 513 (u * 40 + v))) → tX12_parts_10 G (d + 2) K i bank n s h1 := by
    intro f
    induction f with
    | zero =>
      intro s h1 s0 sf g1 g2
      refine bX12_parts_10 ⟨⟨by omega, by omega⟩, ⟨by omega, by omega⟩, fun _ => ?_, fun q => absurd q (by omega)⟩
      refine l79 R 0 _ (by omega) (fun a q1 q2 => by rw [zup_ne q2, g1 a q1]) (fun j q => by rw [zup_ns q, g1 466 (by decide)]) zup_eq (fun u v a b c e => ?_)
      rw [zup_ne (by decide)]
      exact g2 u v a (by omega) c e
    | succ f ih =>
      intro s h1 s0 sf g1 g2
      have l19 : ∀ (f : Nat) (t : Int) (h2 : zH), 0 ≤ t → t + f = n → (∀ a, ¬ a = 513 → h2 a = h a) → (∀ u v, 0 ≤ u → u < n → 0 ≤ v → v < n → u * 40 + v < s * 40 + t → apE T (D 0 4) (tb x) 0 u v (h2 513 (u * 40 + v))) → tX12_parts_19 G (d + 2) K i bank n s t h2 := by
        intro f2
        induction f2 with
        | zero =>
          intro t h2 t0 tf q1 q2
          exact bX12_parts_19 ⟨⟨by omega, by omega⟩, ⟨by omega, by omega⟩, fun _ => ih (s + 1) h2 (by omega) (by omega) q1 (fun u v a b c e => q2 u v a (by omega) c e (by omega)), fun q => absurd q (by omega)⟩
        | succ f2 ih2 =>
          intro t h2 t0 tf q1 q2
          have nxt : ∀ y, apE T (D 0 4) (tb x) 0 s t y → tX12_parts_19 G (d + 2) K i bank n s (t + 1) (zup h2 513 (s * 40 + t) y) := fun y hy => by
            refine ih2 (t + 1) _ (by omega) (by omega) (fun a q => by rw [zup_ne q, q1 a q]) (fun u v a b c e z => ?_)
            by_cases w : u * 40 + v = s * 40 + t
            · have w1 : u = s := by omega
              have w2 : v = t := by omega
              subst w1 w2
              rw [zup_eq]
              exact hy
            · rw [zup_ns w]
              exact q2 u v a b c e (by omega)
          refine bX12_parts_19 ⟨⟨by omega, by omega⟩, ⟨by omega, by omega⟩, fun q => absurd q (by omega), fun _ => sm_sheafEnds (n := n) (B := B) (x := x) (D := D) hi hbk hn.2 (by rw [q1 502 (by decide), e02]) (by rw [q1 505 (by decide), e05 s s0 (by omega)]) hx ⟨s0, by omega⟩ (sm_sheafEnds (n := n) (B := B) (x := x) (D := D) hi hbk hn.2 (by rw [q1 502 (by decide), e02]) (by rw [q1 505 (by decide), e05 t t0 (by omega)]) hx ⟨t0, by omega⟩ ?_)⟩
          have e : bi (tb x s) = bi (tb x t) ↔ tb x s = tb x t := by
            cases tb x s <;> cases tb x t <;> simp [bi]
          rw [e]
          refine ⟨fun q => ⟨⟨by omega, by omega⟩, nxt _ (Or.inl ⟨rfl, fun z => z q⟩)⟩, fun q => ⟨⟨by omega, by omega⟩, nxt _ (Or.inr ⟨0, Nat.le_refl _, rfl, q, fun q' hq => absurd hq (by omega)⟩)⟩⟩
      exact bX12_parts_10 ⟨⟨by omega, by omega⟩, ⟨by omega, by omega⟩, fun q => absurd q (by omega), fun _ => l19 n.toNat 0 h1 (by omega) (by omega) g1 (fun u v a b c e z => g2 u v a (by omega) c e)⟩
  refine eX12_parts (bX12_parts_0 ⟨by omega, ?_⟩)
  rw [e06]
  exact l10 n.toNat 0 h (by omega) (by omega) (fun _ _ => rfl) (fun u v a b => absurd b (by omega))
theorem sm_sorts {K : zH → Prop} {R : Nat} {C : Int} {Ki He Ap : Int → Int} (hD : mOK D) (hi : 0 ≤ i ∧ i < 14) (hr : mRep h i D) (hbk : bank = 0 ∨ bank = 1) (hb : bfs D n B T Pa Vi De (n * 128)) (hx : tkOK D n B x) (hc : clOK n T (D 0 4) (tb x) R C Ki He Ap) (k : ∀ h' : zH, mFs bank h h' → mGt D h' bank n B T Pa Vi → mSo h' bank n C Ki He Ap R → K h') : zCv G (d + 4) mX12_sorts [vr 12 466, vi i, vi bank] h K := by
  have hnb := mO_bl hD
  have hn := hb.1
  have hT : ∀ s b, 0 ≤ s → s < n → 0 ≤ b → b < D 0 4 → 0 ≤ T (s * 128 + b) ∧ T (s * 128 + b) < n := fun s b a1 a2 a3 a4 => (hb.2.2.2.2.1 s b a1 a2 a3 a4 (by omega)).1
  obtain ⟨c1, c2, c3, c4, c5⟩ := hc
  obtain ⟨⟨n0, n1, n2, n3⟩, n4⟩ := c3
  refine eX12_sorts (bX12_sorts_0 (sm_gathers hD hi hr hbk hb (Or.inl rfl) (fun _ h2 f1 f2 => ?_) (fun q => absurd rfl q)))
  have hr2 : mRep h2 i D := mRep_fr (fun a a0 a1 => f1.1 a (by omega)) hr
  obtain ⟨g1, g2, g3, g4, g5⟩ := f2
  refine sm_parts (n := n) (x := x) (T := T) (B := B) (D := D) hi hbk hn hnb c5 hr2.1.2.2.2.2 hr2.1.2.1 g1 g2 g3 hT hx c1 c2 (fun h4 p1 p2 p3 p4 => ?_)
  have ent : ∀ s t, 0 ≤ s → s < n → 0 ≤ t → t < n → h4 513 (s * 40 + t) = Ap (s * 40 + t) := fun s t a b c e => apE_u (p4 s t a b c e) (c4 s t a b c e)
  have l24 : ∀ (f : Nat) (s c0 : Int) (h5 : zH), 0 ≤ s → s + f = n → 0 ≤ c0 ∧ c0 ≤ C → (∀ c, 0 ≤ c → c < C → (He c < s ↔ c < c0)) → (∀ a, ¬ a = 510 → ¬ a = 511 → h5 a = h4 a) → (∀ j, j < bank * 40 ∨ bank * 40 + 40 ≤ j → h5 510 j = h4 510 j ∧ h5 511 j = h4 511 j) → (∀ t, 0 ≤ t → t < s → h5 510 (bank * 40 + t) = Ki t) → (∀ c, 0 ≤ c → c < c0 → h5 511 (bank * 40 + c) = He c) → tX12_sorts_24 G (d + 3) K bank (bank * 40) c0 s h5 := by
    intro f
    induction f with
    | zero =>
      intro s c0 h5 s0 sf cc q0 q1 q2 q3 q4
      have es : s = n := by omega
      subst es
      have ec : c0 = C := by
        rcases Int.lt_or_le c0 C with z | z
        · have := (q0 c0 cc.1 z).mp (n2 c0 cc.1 z).1.2
          omega
        · omega
      subst ec
      refine bX12_sorts_24 ⟨by omega, ?_⟩
      rw [q1 506 (by decide) (by decide), p1 506 (by decide) (by decide), g1]
      refine ⟨⟨by omega, by omega⟩, ⟨by omega, by omega⟩, fun _ => ⟨by omega, k _ ⟨fun a a1 a2 => ?_, fun j j1 => ?_, fun j j1 => ?_, fun j j1 => ?_, fun j j1 => ?_⟩ ⟨?_, ?_, ?_, ?_, ?_⟩ ⟨zup_eq, ?_, ?_, ?_, ?_⟩⟩, fun q => absurd q (by omega)⟩
      · rw [zup_ne (by omega), q1 a (by omega) (by omega), p1 a (by omega) a2, f1.1 a (by omega)]
      · rw [zup_ne (by decide), zup_ne (by decide), zup_ne (by decide), zup_ne (by decide), zup_ne (by decide), q1 505 (by decide) (by decide), q1 508 (by decide) (by decide), q1 509 (by decide) (by decide), (q2 j j1).1, (q2 j j1).2, p1 505 (by decide) (by decide), p1 508 (by decide) (by decide), p1 509 (by decide) (by decide), p1 510 (by decide) (by decide), p1 511 (by decide) (by decide), f1.1 510 (by decide), f1.1 511 (by decide)]
        have := f1.2.1 j j1
        exact ⟨this.1, this.2.1, this.2.2, rfl, rfl⟩
      · rw [zup_ne (by decide), zup_ns j1, q1 506 (by decide) (by decide), q1 512 (by decide) (by decide), p1 506 (by decide) (by decide), p1 512 (by decide) (by decide), f1.1 512 (by decide)]
        exact ⟨f1.2.2.1 j j1, rfl⟩
      · rw [zup_ne (by decide), q1 507 (by decide) (by decide), p1 507 (by decide) (by decide)]
        exact f1.2.2.2 j j1
      · rw [zup_ne (by decide), q1 466 (by decide) (by decide), p2 j j1, f1.1 466 (by decide)]
      · rw [zup_ne (by decide), q1 506 (by decide) (by decide), p1 506 (by decide) (by decide), g1]
      · rw [zup_ne (by decide), q1 505 (by decide) (by decide), p1 505 (by decide) (by decide)]
        exact g2
      · rw [zup_ne (by decide), q1 507 (by decide) (by decide), p1 507 (by decide) (by decide)]
        exact g3
      · rw [zup_ne (by decide), q1 508 (by decide) (by decide), p1 508 (by decide) (by decide)]
        exact g4
      · rw [zup_ne (by decide), q1 509 (by decide) (by decide), p1 509 (by decide) (by decide)]
        exact g5
      · rw [zup_ne (by decide)]
        exact q3
      · rw [zup_ne (by decide)]
        exact q4
      · rw [zup_ne (by decide), q1 513 (by decide) (by decide)]
        exact ent
      · rw [zup_ne (by decide), q1 466 (by decide) (by decide), p3]
    | succ f ih =>
      intro s c0 h5 s0 sf cc q0 q1 q2 q3 q4
      obtain ⟨k1, k2, k3⟩ := n1 s s0 (by omega)
      have hK : Ki s < c0 ∨ (Ki s = c0 ∧ He c0 = s) := by
        rcases Int.lt_or_le (Ki s) c0 with z | z
        · exact Or.inl z
        · refine Or.inr ?_
          have z1 : ¬ He (Ki s) < s := fun w => by
            have := (q0 _ k1.1 k1.2).mp w
            omega
          rcases Int.lt_or_le c0 (Ki s) with w | w
          · have w1 := n3 c0 (Ki s) cc.1 w k1.2
            have := (q0 c0 cc.1 (by omega)).mp (by omega)
            omega
          · have e : Ki s = c0 := by omega
            rw [e] at z1 k3
            exact ⟨e, by omega⟩
      have fin : ∀ c, c = Ki s → (0 ≤ (bank * 40 + s) ∧ (bank * 40 + s) < 80) ∧ zR c ∧ zR c0 ∧ (c0 ≤ c → (0 ≤ (bank * 40 + c0) ∧ (bank * 40 + c0) < 80) ∧ tX12_sorts_24 G (d + 3) K bank (bank * 40) (c0 + 1) (s + 1) (zup (zup h5 510 (bank * 40 + s) c) 511 (bank * 40 + c0) s)) ∧ (¬ c0 ≤ c → tX12_sorts_24 G (d + 3) K bank (bank * 40) c0 (s + 1) (zup h5 510 (bank * 40 + s) c)) := by
        intro c ec
        subst ec
        refine ⟨⟨by omega, by omega⟩, ⟨by omega, by omega⟩, ⟨by omega, by omega⟩, fun z => ⟨⟨by omega, by omega⟩, ?_⟩, fun z => ?_⟩
        · have hk : Ki s = c0 ∧ He c0 = s := by
            rcases hK with w | w
            · omega
            · exact w
          refine ih (s + 1) (c0 + 1) _ (by omega) (by omega) (by omega) (fun c a b => ?_) (fun a a1 a2 => by rw [zup_ne a2, zup_ne a1, q1 a a1 a2]) (fun j j1 => ?_) (fun t t0 t1 => ?_) (fun c a b => ?_)
          · have := q0 c a b
            constructor
            · intro w
              by_cases y : c = c0
              · omega
              · rcases Int.lt_or_le c c0 with y1 | y1
                · omega
                · have := n3 c0 c cc.1 (by omega) b
                  omega
            · intro w
              by_cases y : c = c0
              · rw [y]
                omega
              · have := this.mpr (by omega)
                omega
          · rw [zup_ne (by decide), zup_ns (by omega), zup_ns (by omega), zup_ne (by decide)]
            exact q2 j j1
          · rw [zup_ne (by decide)]
            by_cases y : t = s
            · rw [y, zup_eq]
            · rw [zup_ns (by omega)]
              exact q3 t t0 (by omega)
          · by_cases y : c = c0
            · rw [y, zup_eq, hk.2]
            · rw [zup_ns (by omega), zup_ne (by decide)]
              exact q4 c a (by omega)
        · have hk : Ki s < c0 := by omega
          refine ih (s + 1) c0 _ (by omega) (by omega) cc (fun c a b => ?_) (fun a a1 a2 => by rw [zup_ne a1, q1 a a1 a2]) (fun j j1 => ?_) (fun t t0 t1 => ?_) (fun c a b => ?_)
          · have w := q0 c a b
            constructor
            · intro w2
              rcases Int.lt_or_le (He c) s with y | y
              · exact w.mp y
              · have y2 : He c = s := by omega
                have y3 := (n2 c a b).2
                rw [y2] at y3
                omega
            · intro w2
              have := w.mpr w2
              omega
          · rw [zup_ns (by omega), zup_ne (by decide)]
            exact q2 j j1
          · by_cases y : t = s
            · rw [y, zup_eq]
            · rw [zup_ns (by omega)]
              exact q3 t t0 (by omega)
          · rw [zup_ne (by decide)]
            exact q4 c a b
      have l38 : ∀ (f : Nat) (c : Int), 0 ≤ c → c + f = c0 → c ≤ Ki s → tX12_sorts_38 G (d + 3) K bank (bank * 40) c0 s c h5 := by
        intro f2
        induction f2 with
        | zero =>
          intro c a b e
          exact bX12_sorts_38 ⟨⟨by omega, by omega⟩, ⟨by omega, by omega⟩, fun _ => fin c (by omega), fun q => absurd q (by omega)⟩
        | succ f2 ih2 =>
          intro c a b e
          obtain ⟨y1, y2⟩ := n2 c a (by omega)
          have y3 := apE_rg (c4 s (He c) s0 (by omega) y1.1 y1.2)
          refine bX12_sorts_38 ⟨⟨by omega, by omega⟩, ⟨by omega, by omega⟩, fun q => absurd q (by omega), fun _ => ⟨⟨by omega, by omega⟩, ?_⟩⟩
          rw [q4 c a (by omega), q1 513 (by decide) (by decide), ent s (He c) s0 (by omega) y1.1 y1.2]
          have key : Ap (s * 40 + He c) = -1 ↔ Ki s = c := by
            have z := n4 s (He c) s0 (by omega) y1.1 y1.2
            rw [y2] at z
            rw [← z]
            rcases c4 s (He c) s0 (by omega) y1.1 y1.2 with ⟨w1, w2⟩ | ⟨q, w1, w2, w3, w4⟩
            · exact ⟨fun _ => w2, fun _ => w1⟩
            · exact ⟨fun w => by omega, fun w => absurd (pd_mono w1 w3) w⟩
          refine ⟨⟨by omega, by omega⟩, ⟨by omega, by omega⟩, fun q => fin c (key.mp q).symm, fun q => ih2 (c + 1) (by omega) (by omega) ?_⟩
          have : ¬ Ki s = c := fun w => q (key.mpr w)
          omega
      refine bX12_sorts_24 ⟨by omega, ?_⟩
      rw [q1 506 (by decide) (by decide), p1 506 (by decide) (by decide), g1]
      exact ⟨⟨by omega, by omega⟩, ⟨by omega, by omega⟩, fun q => absurd q (by omega), fun _ => l38 c0.toNat 0 (by omega) (by omega) k1.1⟩
  exact l24 n.toNat 0 0 h4 (by omega) (by omega) (by omega) (fun c a b => ⟨fun w => by have := (n2 c a b).1; omega, fun w => absurd w (by omega)⟩) (fun _ _ _ => rfl) (fun _ _ => ⟨rfl, rfl⟩) (fun t a b => absurd b (by omega)) (fun c a b => absurd b (by omega))
end SW
