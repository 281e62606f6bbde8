/-! ===== what lines tell; the class closes a machine ===== -/
abbrev M4 : Type := Int × Int × List eT × List fT
/-- a machine that is told -/
def pOK (c : M4) : Prop := (1 ≤ c.1 ∧ c.1 ≤ 12) ∧ lOK c.1 c.2.1 c.2.2.1 c.2.2.2 ∧ (c.2.2.1.length : Int) ≤ 24 ∧ (c.2.2.2.length : Int) ≤ 8 ∧ ∀ y ∈ c.2.2.1, rcn y.2.2 24
def isM (D : zH) (c : M4) : Prop := isD D c.1 c.2.1 c.2.2.1.length (eFr c.2.2.1) (eTo c.2.2.1) (eX c.2.2.1) c.2.2.2.length (fFr c.2.2.2) (fTo c.2.2.2)
def okM (h : zH) (m : Int) (c : M4) : Prop := ∃ D : zH, isM D c ∧ mOK D ∧ cRep h m D ∧ pthOK h m D
def wdM (c : M4) : Prop := chF c.2.2.1.length (eX c.2.2.1) ∨ ∃ (D : zH) (B T Pa Vi De : Int → Int) (K0 : Int), isM D c ∧ mOK D ∧ bfs D 40 B T Pa Vi De K0 ∧ gFail D 40 B K0 ∧ ¬ K0 = 40 * 128
theorem okM_fr {h h' : zH} {m : Int} {c : M4} (f : ∀ a, m ≤ a → a ≤ m + 18 → h' a = h a) (k : okM h m c) : okM h' m c := by
  obtain ⟨D, k1, k2, k3, k4⟩ := k
  exact ⟨D, k1, k2, cRep_fr (fun a x y => f a (by omega) (by omega)) k3, pth_fr (fun a x y => f a (by omega) (by omega)) k4⟩
theorem fits_p {c : M4} (p : pOK c) : fits c.1 c.2.2.1 c.2.2.2 := ⟨by have := p.1; omega, by have := p.2.2.1; omega, by have := p.2.2.2.1; omega⟩
/-- so many different ones, or a list of fewer -/
theorem fin_or (P : Int → Prop) : ∀ n : Nat, (∃ s : Int → Int, (∀ i : Int, 0 ≤ i → i < n → P (s i)) ∧ ∀ i j : Int, 0 ≤ i → i < j → j < n → ¬ s i = s j) ∨ ∃ L : List Int, L.length < n ∧ ∀ z, P z → z ∈ L
  | 0 => Or.inl ⟨fun _ => 0, fun i a b => absurd b (by omega), fun i j a b c => absurd c (by omega)⟩
  | n + 1 => by
    rcases fin_or P n with ⟨s, s1, s2⟩ | ⟨L, l1, l2⟩
    · by_cases e : ∃ x, P x ∧ ∀ i : Int, 0 ≤ i → i < n → ¬ s i = x
      · obtain ⟨x, x1, x2⟩ := e
        refine Or.inl ⟨fup s n x, fun i a b => ?_, fun i j a b c => ?_⟩
        · by_cases w : i = n
          · rw [w, fup_eq]
            exact x1
          · rw [fup_ne w]
            exact s1 i a (by omega)
        · rw [fup_ne (show ¬ i = n by omega)]
          by_cases w : j = n
          · rw [w, fup_eq]
            exact x2 i a (by omega)
          · rw [fup_ne w]
            exact s2 i j a b (by omega)
      · refine Or.inr ⟨(List.range n).map (fun k => s (k : Nat)), by rw [List.length_map, List.length_range]; omega, fun z hz => ?_⟩
        by_cases w : ∃ i : Int, (0 ≤ i ∧ i < n) ∧ s i = z
        · obtain ⟨i, i0, i1⟩ := w
          refine List.mem_map.mpr ⟨i.toNat, List.mem_range.mpr (by omega), ?_⟩
          rw [show ((i.toNat : Nat) : Int) = i by omega]
          exact i1
        · exact absurd ⟨z, hz, fun i a b c => w ⟨i, ⟨a, b⟩, c⟩⟩ e
    · exact Or.inr ⟨L, by omega, l2⟩
/-- the class's draft while lines tell it -/
def DR (h : zH) (Dl : List Int) (c : M4) : Prop := (h 4 7 = c.1 ∧ h 4 8 = c.2.1 ∧ h 4 9 = c.2.2.1.length ∧ h 4 10 = c.2.2.2.length) ∧ ctS h 0 (fun _ => False) ∧ (∀ e : Int, 0 ≤ e → e < c.2.2.1.length → h 5 e = (gE c.2.2.1 e).1 ∧ h 6 e = (gE c.2.2.1 e).2.1 ∧ (∀ b, 0 ≤ b → b < 256 → mk h e b = false) ∧ lsP h (109 + 2 * e) (gE c.2.2.1 e).2.2 Dl ∧ h (109 + 2 * e) 1 ≤ 48) ∧ (∀ i : Int, 0 ≤ i → i < c.2.2.2.length → h 8 i = (gF c.2.2.2 i).1 ∧ h 9 i = (gF c.2.2.2 i).2) ∧ pOK c
theorem DR_fr {h h' : zH} {Dl : List Int} {c : M4} (f1 : ∀ a, 4 ≤ a → a ≤ 10 → h' a = h a) (f2 : ∀ a, 109 ≤ a → a ≤ 156 → h' a = h a) (k : DR h Dl c) : DR h' Dl c := by
  obtain ⟨k1, k2, k3, k4, k5⟩ := k
  refine ⟨by rw [f1 4 (by decide) (by decide)]; exact k1, ?_, fun e a b => ?_, fun i a b => by rw [f1 8 (by decide) (by decide), f1 9 (by decide) (by decide)]; exact k4 i a b, k5⟩
  · unfold ctS at k2 ⊢
    rw [f1 4 (by decide) (by decide), f1 10 (by decide) (by decide)]
    exact k2
  · obtain ⟨e1, e2, e3, e4, e5⟩ := k3 e a b
    have := k5.2.2.1
    rw [f1 5 (by decide) (by decide), f1 6 (by decide) (by decide), mk_e (f1 7 (by decide) (by decide)), f2 (109 + 2 * e) (by omega) (by omega)]
    exact ⟨e1, e2, e3, lsP_fr (f2 _ (by omega) (by omega)) (f2 _ (by omega) (by omega)) e4, e5⟩
section CM
variable {G : zG} {d : Nat} {h : zH} {Dl : List Int}
theorem sp_markSet {Q : zH → Prop} {e r : Int} {S : Int → Bool} (he : 0 ≤ e ∧ e < 160) (hr : ¬ r = 7 ∧ ¬ r + 1 = 7) (ds : dS (h 10) (h 4 11)) (ls : lsP h r S Dl) (k : ∀ h' : zH, (∀ a, ¬ a = 7 → h' a = h a) → (∀ e' b', 0 ≤ e' → 0 ≤ b' → b' < 256 → mk h' e' b' = (decide (e' = e ∧ b' < h 4 11 ∧ S (h 10 b') = true) || mk h e' b')) → Q h') : zCv G (d + 1) mX2_markSet [vr 2 4, vi e, vr 3 r] h Q := by
  have go : ∀ (f : Nat) (b : Int) (h1 : zH), 0 ≤ b → b + f = h 4 11 → (∀ a, ¬ a = 7 → h1 a = h a) → (∀ e' b', 0 ≤ e' → 0 ≤ b' → b' < 256 → mk h1 e' b' = (decide (e' = e ∧ b' < b ∧ S (h 10 b') = true) || mk h e' b')) → tX2_markSet_2 G d Q e r b h1 := by
    intro f
    induction f with
    | zero =>
      intro b h1 b0 bf g1 g2
      have eb : b = h 4 11 := by omega
      have := ds.1
      refine bX2_markSet_2 ?_
      rw [g1 4 (by decide)]
      rw [eb] at g2
      exact ⟨⟨by omega, by omega⟩, ⟨by omega, by omega⟩, fun _ => k h1 g1 g2, fun z => absurd (by omega) z⟩
    | succ f ih =>
      intro b h1 b0 bf g1 g2
      have d1 := ds.1
      have dz := ds.2.2.1 b b0 (by omega)
      refine bX2_markSet_2 ?_
      rw [g1 4 (by decide), g1 10 (by decide)]
      have ls1 : lsP h1 r S Dl := lsP_fr (g1 _ hr.1) (g1 _ hr.2) ls
      refine ⟨⟨by omega, by omega⟩, ⟨by omega, by omega⟩, fun z => absurd z (by omega), fun _ => ⟨by omega, sp_holds ls1.1 ⟨by omega, by omega⟩ (fun x hx => ?_)⟩⟩
      have xe : x = true ↔ S (h 10 b) = true := by
        rw [hx, ← inn_cIn ls1.1.1]
        exact ls1.2.1 _ dz.1 dz.2
      have upd : ∀ e' b' : Int, (decide (e' = e ∧ b' < b + 1 ∧ S (h 10 b') = true)) = (decide (e' = e ∧ b' = b ∧ S (h 10 b) = true) || decide (e' = e ∧ b' < b ∧ S (h 10 b') = true)) := fun e' b' => by
        rw [← Bool.decide_or]
        refine decide_eq_decide.mpr ⟨fun ⟨p1, p2, p3⟩ => ?_, fun q => ?_⟩
        · by_cases w : b' = b
          · exact Or.inl ⟨p1, w, by rw [← w]; exact p3⟩
          · exact Or.inr ⟨p1, by omega, p3⟩
        · rcases q with ⟨p1, p2, p3⟩ | ⟨p1, p2, p3⟩
          · exact ⟨p1, by omega, by rw [p2]; exact p3⟩
          · exact ⟨p1, by omega, p3⟩
      refine ⟨fun x0 => ih (b + 1) h1 (by omega) (by omega) g1 (fun e' b' p q s => ?_), fun x1 => sp_mark he (by omega) (fun h4 y1 y2 => ih (b + 1) h4 (by omega) (by omega) (fun a p => by rw [y1 a p, g1 a p]) (fun e' b' p q s => ?_))⟩
      · have : ¬ S (h 10 b) = true := fun z => by
          rw [← xe, x0] at z
          cases z
        rw [g2 e' b' p q s, upd, decide_eq_false (show ¬ (e' = e ∧ b' = b ∧ S (h 10 b) = true) from fun z => this z.2.2), Bool.false_or]
      · have t := xe.mp x1
        rw [y2 e' b' p q s, g2 e' b' p q s, upd, ← Bool.or_assoc]
        congr 2
        exact decide_eq_decide.mpr ⟨fun z => ⟨z.1, z.2, t⟩, fun z => ⟨z.1, z.2.1⟩⟩
  exact eX2_markSet (bX2_markSet_0 (go (h 4 11).toNat 0 h (by omega) (by have := ds.1; omega) (fun _ _ => rfl) (fun e' b' p q s => by rw [decide_eq_false (by omega), Bool.false_or])))
theorem sp_closeMachine {Q : zH → Prop} {c : M4} {k0 : Int} (dr : DR h Dl c) (hk : h 12 6 = k0 + 1) (k1 : 0 ≤ k0 ∧ k0 < 4) (h80 : ∀ e, 0 ≤ e → e < 24 → h 80 e = 109 + 2 * e) (mc : mcell (h 81 k0)) (k : ∀ h' : zH, (∀ a, ¬ (4 ≤ a ∧ a ≤ 10) → ¬ a = 12 → ¬ (h 81 k0 ≤ a ∧ a ≤ h 81 k0 + 18) → h' a = h a) → (∀ j, ¬ j = 7 → h' 12 j = h 12 j) → (h' 12 7 = h 12 7 ∧ okM h' (h 81 k0) c) ∨ (h' 12 7 = 1 ∧ wdM c) → Q h') : zCv G (d + 6) mX8_closeMachine [vr 8 12] h Q := by
  obtain ⟨⟨d1, d2, d3, d4⟩, ct, de, df, po⟩ := dr
  obtain ⟨p1, lo, p3, p4, p5⟩ := po
  have rg := mcell_rg mc
  unfold mrg at rg
  have ed : ∀ e : Int, 0 ≤ e → e < c.2.2.1.length → ¬ (109 + 2 * e : Int) = 4 ∧ ¬ (109 + 2 * e : Int) = 10 ∧ ¬ (109 + 2 * e + 1 : Int) = 4 ∧ ¬ (109 + 2 * e + 1 : Int) = 10 := fun e a b => by omega
  -- the end
  have settle : ∀ h1 : zH, (∀ a, ¬ (4 ≤ a ∧ a ≤ 10) → h1 a = h a) → (∀ j, ¬ j = 11 → ¬ j = 12 → h1 4 j = h 4 j) → h1 5 = h 5 → h1 6 = h 6 → h1 8 = h 8 → h1 9 = h 9 → ctS h1 0 (fun z => ∃ e : Int, (0 ≤ e ∧ e < c.2.2.1.length) ∧ ∃ i, (0 ≤ i ∧ i < h (109 + 2 * e) 1) ∧ z = h (109 + 2 * e + 1) i) → (∀ e : Int, 0 ≤ e → e < c.2.2.1.length → ∀ b, 0 ≤ b → b < h1 4 11 → mk h1 e b = (gE c.2.2.1 e).2.2 (h1 10 b)) → zCb G (d + 5) mX4_settle [vr 4 (h1 81 k0), vr 2 4] h1 (fun x2 h3 => (x2 = true → Q h3) ∧ (x2 = false → Q (zup h3 12 7 1))) := by
    intro h1 g1 g4 g5 g6 g8 g9 ct1 gm
    rw [g1 81 (by decide)]
    have wd : ∀ h3 : zH, (∀ a, ¬ (h 81 k0 ≤ a ∧ a ≤ h 81 k0 + 18) → h3 a = h1 a) → wdM c → Q (zup h3 12 7 1) := fun h3 q w => k _ (fun a x y z => by rw [zup_ne y, q a z, g1 a x]) (fun j x => by rw [zup_ns x, q 12 (by omega), g1 12 (by decide)]) (Or.inr ⟨zup_eq, w⟩)
    obtain ⟨ds, ct2⟩ := ct1
    rcases ct2 with ⟨ov, st⟩ | ⟨ov, cov⟩
    · have dC : dfC h1 c.1 c.2.1 c.2.2.1.length (eFr c.2.2.1) (eTo c.2.2.1) (eX c.2.2.1) c.2.2.2.length (fFr c.2.2.2) (fTo c.2.2.2) := by
        refine ⟨⟨by rw [g4 7 (by decide) (by decide), d1], by rw [g4 8 (by decide) (by decide), d2], by rw [g4 9 (by decide) (by decide), d3], by rw [g4 10 (by decide) (by decide), d4]⟩, ds, fun e a b => ?_, fun i a b => ?_, fun e z a b z0 z1 q => ?_⟩
        · obtain ⟨e1, e2, -⟩ := de e a b
          exact ⟨by rw [g5, e1]; rfl, by rw [g6, e2]; rfl, fun x p q => gm e a b x p q⟩
        · rw [g8, g9]
          exact df i a b
        · obtain ⟨-, -, -, e4, -⟩ := de e a b
          obtain ⟨kk, hkk, q2⟩ := rgs_ch (lsP_rgs e4) (z := z) ⟨z0, z1⟩ q
          refine (st z).mpr (Or.inr ⟨⟨e, ⟨a, b⟩, ?_⟩, by omega, z1⟩)
          rcases q2 with q2 | q2
          · exact ⟨2 * kk, by omega, q2⟩
          · refine ⟨2 * kk + 1, by omega, ?_⟩
            rw [q2]
            show h (109 + 2 * e + 1) (2 * kk + 1) - 1 + 1 = _
            omega
      refine sp_settle (d := d + 1) mc dC (lOK_d lo (fits_p ⟨p1, lo, p3, p4, p5⟩)) ov (fun h3 D q1 q2 q3 q4 q5 => ⟨fun _ => k h3 (fun a x y z => by rw [q1 a z, g1 a x]) (fun j x => by rw [q1 12 (by omega), g1 12 (by decide)]) (Or.inl ⟨by rw [q1 12 (by omega), g1 12 (by decide)], D, q2, q3, q4, q5⟩), fun z => (by cases z)⟩) (fun h3 q1 q2 => ⟨fun z => (by cases z), fun _ => wd h3 q1 (Or.inl q2)⟩) (fun h3 D B T Pa Vi De K0 q1 q2 q3 q4 q5 q6 => ⟨fun z => (by cases z), fun _ => wd h3 q1 (Or.inr ⟨D, B, T, Pa, Vi, De, K0, q2, q3, q4, q5, q6⟩)⟩)
    · refine sp_settle_over (d := d + 1) ov ⟨fun z => (by cases z), fun _ => wd h1 (fun _ _ => rfl) (Or.inl ?_)⟩
      rcases fin_or (chp c.2.2.1.length (eX c.2.2.1)) 129 with ⟨s, s1, s2⟩ | ⟨L, l1, l2⟩
      · exact ⟨s, s1, s2⟩
      · have := cov L (fun z hz => l2 z ?_)
        · omega
        · rcases hz with hz | ⟨⟨e, e0, i, i0, ez⟩, z0, z1⟩
          · exact Or.inl hz
          · by_cases zz : z = 0
            · exact Or.inl zz
            refine Or.inr ⟨⟨by omega, z1⟩, e, e0, ?_⟩
            obtain ⟨-, -, -, e4, -⟩ := de e e0.1 e0.2
            have rr := lsP_rgs e4
            have n2 := e4.1.1.2.1
            show ¬ (gE c.2.2.1 e).2.2 z = (gE c.2.2.1 e).2.2 (z - 1)
            by_cases od : i % 2 = 0
            · have el : cLo h (109 + 2 * e) (i / 2) = z := by
                show h (109 + 2 * e + 1) (2 * (i / 2)) = z
                rw [show 2 * (i / 2) = i by omega, ez]
              have := rgs_lo rr (k := i / 2) (by omega) (by omega)
              rwa [el] at this
            · have el : cHi h (109 + 2 * e) (i / 2) + 1 = z := by
                show h (109 + 2 * e + 1) (2 * (i / 2) + 1) - 1 + 1 = z
                rw [show 2 * (i / 2) + 1 = i by omega, ez]
                omega
              have := rgs_hi rr (k := i / 2) (by omega) (by omega)
              rwa [el, show cHi h (109 + 2 * e) (i / 2) = z - 1 by omega] at this
  -- marks
  have marks : ∀ (f : Nat) (q : Int) (h1 : zH), 0 ≤ q → q + f = c.2.2.1.length → (∀ a, ¬ (4 ≤ a ∧ a ≤ 10) → h1 a = h a) → (∀ j, ¬ j = 11 → ¬ j = 12 → h1 4 j = h 4 j) → h1 5 = h 5 → h1 6 = h 6 → h1 8 = h 8 → h1 9 = h 9 → ctS h1 0 (fun z => ∃ e : Int, (0 ≤ e ∧ e < c.2.2.1.length) ∧ ∃ i, (0 ≤ i ∧ i < h (109 + 2 * e) 1) ∧ z = h (109 + 2 * e + 1) i) → (∀ e : Int, 0 ≤ e → e < c.2.2.1.length → ∀ b, 0 ≤ b → b < h1 4 11 → mk h1 e b = (decide (e < q) && (gE c.2.2.1 e).2.2 (h1 10 b))) → tX8_closeMachine_57 G (d + 5) Q k0 c.2.2.1.length q h1 := by
    intro f
    induction f with
    | zero =>
      intro q h1 q0 qf g1 g4 g5 g6 g8 g9 ct1 gm
      refine bX8_closeMachine_57 ⟨⟨by omega, by omega⟩, ⟨by omega, by omega⟩, fun _ => ⟨by omega, settle h1 g1 g4 g5 g6 g8 g9 ct1 (fun e a b x p r => ?_)⟩, fun z => absurd (by omega) z⟩
      rw [gm e a b x p r, decide_eq_true (by omega), Bool.true_and]
    | succ f ih =>
      intro q h1 q0 qf g1 g4 g5 g6 g8 g9 ct1 gm
      obtain ⟨-, -, -, e4, -⟩ := de q q0 (by omega)
      have d256 := ct1.1.1
      refine bX8_closeMachine_57 ⟨⟨by omega, by omega⟩, ⟨by omega, by omega⟩, fun z => absurd z (by omega), fun _ => ⟨by omega, ?_⟩⟩
      rw [g1 80 (by decide), h80 q q0 (by omega)]
      refine sp_markSet (d := d + 4) (by omega) (by omega) ct1.1 (lsP_fr (g1 _ (by omega)) (g1 _ (by omega)) e4) (fun h6 y1 y2 => ?_)
      refine ih (q + 1) h6 (by omega) (by omega) (fun a p => by rw [y1 a (by omega), g1 a p]) (fun j p r => by rw [y1 4 (by decide), g4 j p r]) (by rw [y1 5 (by decide), g5]) (by rw [y1 6 (by decide), g6]) (by rw [y1 8 (by decide), g8]) (by rw [y1 9 (by decide), g9]) ?_ (fun e a b x p r => ?_)
      · unfold ctS at ct1 ⊢
        rw [y1 4 (by decide), y1 10 (by decide)]
        exact ct1
      · rw [y1 4 (by decide)] at r
        rw [y1 10 (by decide), y2 e x a p (by omega), gm e a b x p r]
        by_cases w : e = q
        · rw [w, decide_eq_false (show ¬ q < q by omega), decide_eq_true (show q < q + 1 by omega), Bool.false_and, Bool.or_false, Bool.true_and]
          cases hb : (gE c.2.2.1 q).2.2 (h1 10 x)
          · exact decide_eq_false (fun z => by cases z.2.2)
          · exact decide_eq_true ⟨rfl, r, rfl⟩
        · rw [decide_eq_false (show ¬ (e = q ∧ _) from fun z => w z.1), Bool.false_or]
          congr 1
          exact decide_eq_decide.mpr ⟨fun z => by omega, fun z => by omega⟩
  have cuts : ∀ (f : Nat) (q : Int) (h1 : zH), 0 ≤ q → q + f = c.2.2.1.length → (∀ a, ¬ a = 4 → ¬ a = 10 → h1 a = h a) → (∀ j, ¬ j = 11 → ¬ j = 12 → h1 4 j = h 4 j) → ctS h1 0 (fun z => ∃ e : Int, (0 ≤ e ∧ e < q) ∧ ∃ i, (0 ≤ i ∧ i < h (109 + 2 * e) 1) ∧ z = h (109 + 2 * e + 1) i) → tX8_closeMachine_31 G (d + 5) Q k0 c.2.2.1.length q h1 := by
    intro f
    induction f with
    | zero =>
      intro q h1 q0 qf g1 g4 ct1
      have eq : q = c.2.2.1.length := by omega
      rw [eq] at ct1
      have d256 := ct1.1.1
      refine bX8_closeMachine_31 ⟨⟨by omega, by omega⟩, ⟨by omega, by omega⟩, fun _ => marks c.2.2.1.length 0 h1 (by omega) (by omega) (fun a p => g1 a (by omega) (by omega)) g4 (g1 5 (by decide) (by decide)) (g1 6 (by decide) (by decide)) (g1 8 (by decide) (by decide)) (g1 9 (by decide) (by decide)) ct1 (fun e a b x p r => ?_), fun z => absurd (by omega) z⟩
      rw [mk_e (g1 7 (by decide) (by decide)), (de e a b).2.2.1 x p (by omega), decide_eq_false (by omega), Bool.false_and]
    | succ f ih =>
      intro q h1 q0 qf g1 g4 ct1
      obtain ⟨-, -, -, e4, -⟩ := de q q0 (by omega)
      refine bX8_closeMachine_31 ⟨⟨by omega, by omega⟩, ⟨by omega, by omega⟩, fun z => absurd z (by omega), fun _ => ⟨by omega, ?_⟩⟩
      rw [g1 80 (by decide) (by decide), h80 q q0 (by omega)]
      have e41 : lsP h1 (109 + 2 * q) (gE c.2.2.1 q).2.2 Dl := lsP_fr (g1 _ (by omega) (by omega)) (g1 _ (by omega) (by omega)) e4
      refine sp_cutBy (d := d + 4) (ed q q0 (by omega)) e41.1 ct1 (fun h3 y1 y2 y3 => ih (q + 1) h3 (by omega) (by omega) (fun a p r => by rw [y1 a p r, g1 a p r]) (fun j p r => by rw [y2 j p r, g4 j p r]) (ctS_iff (fun z _ _ => ?_) y3))
      rw [g1 (109 + 2 * q) (by omega) (by omega), g1 (109 + 2 * q + 1) (by omega) (by omega)]
      constructor
      · rintro (⟨e, e0, r⟩ | r)
        · exact ⟨e, by omega, r⟩
        · exact ⟨q, by omega, r⟩
      · rintro ⟨e, e0, r⟩
        by_cases w : e = q
        · rw [w] at r
          exact Or.inr r
        · exact Or.inl ⟨e, by omega, r⟩
  refine eX8_closeMachine (bX8_closeMachine_0 ?_)
  rw [hk, show k0 + 1 - 1 = k0 by omega]
  refine sp_isIn ⟨by omega, by omega⟩ ⟨by decide, by decide⟩ ?_
  rw [decide_eq_true (by omega), d3]
  refine ⟨fun _ => ⟨⟨by omega, by omega⟩, ?_⟩, fun z => (by cases z)⟩
  rw [show min (c.2.2.1.length : Int) 24 = c.2.2.1.length by omega]
  exact cuts c.2.2.1.length 0 h (by omega) (by omega) (fun _ _ _ => rfl) (fun _ _ _ => rfl) (ctS_iff (fun z _ _ => ⟨fun q => absurd q id, fun ⟨e, e0, _⟩ => absurd e0 (by omega)⟩) ct)
end CM
