/-! ===== longest ===== -/
theorem tS_land {x y q : Int} : tS (zland x y) q ↔ tS x q ∧ tS y q := by
  unfold tS
  rw [tb_land, Bool.and_eq_true]
  constructor
  · rintro ⟨a, b, c, e⟩
    exact ⟨⟨a, b, c⟩, a, b, e⟩
  · rintro ⟨⟨a, b, c⟩, -, -, e⟩
    exact ⟨a, b, c, e⟩
theorem zero_iff {x : Int} (hx : zRL x) : x = 0 ↔ ∀ q, ¬ tS x q := by
  constructor
  · intro e q
    rw [e]
    exact tS_0
  · intro no
    exact lp_eq (lp_self hx) ⟨zRL_0, fun q => ⟨fun z => absurd z tS_0, fun z => absurd z (no q)⟩⟩
section CS1
variable {G : zG} {d : Nat} {h D : zH}
theorem sp_longestTaken {K : Int → zH → Prop} {p : Int} (hp : pthP h p D) (hD : mOK D) (k1 : (∃ c, Rl (CS h p) (D 0 4) (h p 10).toNat 0 c ∧ ¬ isDd h p D c) → K (-3) h) (k2 : (¬ ∃ c, Rl (CS h p) (D 0 4) (h p 10).toNat 0 c ∧ ¬ isDd h p D c) → ∀ v, mxL (tkA h p D) (h p 10).toNat v → K v h) : zCi G (d + 4) mX7_longestTaken [vr 7 p] h K := by
  have nn := pP_n hp
  have hB := mO_bl hD
  have p10 : 0 ≤ (0 : Int) ∧ (0 : Int) < h p 10 := by omega
  have l33 : ∀ (f : Nat) (n : Nat) (best now live : Int), (n : Int) + f = h p 10 → lp now (fun c => Rl (CS h p) (D 0 4) n 0 c) → zRL live → (∀ c, 0 ≤ c → c < h p 10 → (tS live c ↔ ¬ isDd h p D c)) → mxL (tkA h p D) n best → tX7_longestTaken_33 G (d + 3) K p live best now n h := by
    intro f
    induction f with
    | zero =>
      intro n best now live hn ln rl ll mb
      have en : (h p 10).toNat = n := by omega
      refine bX7_longestTaken_33 ⟨⟨by omega, by omega⟩, ⟨by omega, by omega⟩, fun _ => ?_, fun z => absurd z (by omega)⟩
      rw [(zcmp_lt (zland_R _ _) zRL_0).2.1, zero_iff (zland_R _ _)]
      have iff : (∃ q, tS (zland now live) q) ↔ ∃ c, Rl (CS h p) (D 0 4) (h p 10).toNat 0 c ∧ ¬ isDd h p D c := by
        rw [en]
        constructor
        · rintro ⟨q, z⟩
          obtain ⟨a, b⟩ := tS_land.mp z
          have r := (ln.2 q).mp a
          have rg := Rl_rg (hS_c hp hD) p10 r
          exact ⟨q, r, (ll q rg.1 rg.2).mp b⟩
        · rintro ⟨q, r, nd⟩
          have rg := Rl_rg (hS_c hp hD) p10 r
          exact ⟨q, tS_land.mpr ⟨(ln.2 q).mpr r, (ll q rg.1 rg.2).mpr nd⟩⟩
      refine ⟨fun z => k2 (fun w => ?_) best (by rw [en]; exact mb), fun z => k1 (iff.mp (Classical.byContradiction (fun w => z (fun q y => w ⟨q, y⟩))))⟩
      obtain ⟨q, y⟩ := iff.mpr w
      exact z q y
    | succ f ih =>
      intro n best now live hn ln rl ll mb
      have br := mxL_rg mb
      have l45 : ∀ (f2 : Nat) (c b2 : Int), 0 ≤ c → c + f2 = h p 10 → ((∃ c', 0 ≤ c' ∧ c' < c ∧ tS now c' ∧ tb (h p 6) (h (p + 9) c') = true) → b2 = n) → ((¬ ∃ c', 0 ≤ c' ∧ c' < c ∧ tS now c' ∧ tb (h p 6) (h (p + 9) c') = true) → b2 = best) → tX7_longestTaken_45 G (d + 3) K p live b2 now n c h := by
        intro f2
        induction f2 with
        | zero =>
          intro c b2 c0 cf e1 e2
          have ec : c = h p 10 := by omega
          subst ec
          refine bX7_longestTaken_45 ⟨⟨by omega, by omega⟩, ⟨by omega, by omega⟩, fun _ => sp_classesAfter hp hD (fun y hy => ?_), fun z => absurd (Int.le_refl _) z⟩
          have At : tkA h p D n ↔ ∃ c', 0 ≤ c' ∧ c' < h p 10 ∧ tS now c' ∧ tb (h p 6) (h (p + 9) c') = true := by
            rw [tkA_c hp hD]
            constructor
            · rintro ⟨c, r, t⟩
              have rg := Rl_rg (hS_c hp hD) p10 r
              exact ⟨c, rg.1, rg.2, (ln.2 c).mpr r, t⟩
            · rintro ⟨c, a1, a2, a3, a4⟩
              exact ⟨c, (ln.2 c).mp a3, a4⟩
          have := ih (n + 1) b2 y live (by omega) (lp_iff hy (fun q => ⟨fun ⟨c, b, x1, x2, x3, x4⟩ => ⟨c, b, (ln.2 c).mp x2, x3, x4⟩, fun ⟨c, b, x2, x3, x4⟩ => ?_⟩)) rl ll (mxL_s mb (fun z => e1 (At.mp z)) (fun z => e2 (fun w => z (At.mpr w))))
          · rw [show ((n + 1 : Nat) : Int) = (n : Int) + 1 by omega] at this
            exact this
          · have rg := Rl_rg (hS_c hp hD) p10 x2
            exact ⟨c, b, rg, (ln.2 c).mpr x2, x3, x4⟩
        | succ f2 ih2 =>
          intro c b2 c0 cf e1 e2
          obtain ⟨s1, -, -⟩ := pP_step hp hD c0 (show c < h p 10 by omega) (Int.le_refl 0) (show 0 < D 0 4 by omega)
          have skip : (¬ (tS now c ∧ tb (h p 6) (h (p + 9) c) = true)) → tX7_longestTaken_45 G (d + 3) K p live b2 now n (c + 1) h := fun w => by
            have iff : (∃ c', 0 ≤ c' ∧ c' < c + 1 ∧ tS now c' ∧ tb (h p 6) (h (p + 9) c') = true) ↔ ∃ c', 0 ≤ c' ∧ c' < c ∧ tS now c' ∧ tb (h p 6) (h (p + 9) c') = true := by
              constructor
              · rintro ⟨c', a1, a2, a3, a4⟩
                by_cases y : c' = c
                · rw [y] at a3 a4
                  exact absurd ⟨a3, a4⟩ w
                · exact ⟨c', a1, by omega, a3, a4⟩
              · rintro ⟨c', a1, a2, a3, a4⟩
                exact ⟨c', a1, by omega, a3, a4⟩
            exact ih2 (c + 1) b2 (by omega) (by omega) (fun y => e1 (iff.mp y)) (fun y => e2 (fun y2 => y (iff.mpr y2)))
          refine bX7_longestTaken_45 ⟨⟨by omega, by omega⟩, ⟨by omega, by omega⟩, fun z => absurd z (by omega), fun _ => ?_⟩
          rw [zbit_u (by omega) (by omega)]
          refine ⟨fun z => skip (fun w => z w.1.2.2), fun z => sp_classTakes (by omega) (by omega) ⟨fun w => skip (fun y => absurd (w.symm.trans y.2) (by decide)), fun w => ih2 (c + 1) n (by omega) (by omega) (fun _ => rfl) (fun y => absurd ⟨c, c0, by omega, ⟨by omega, by omega, z⟩, w⟩ y)⟩⟩
      refine bX7_longestTaken_33 ⟨⟨by omega, by omega⟩, ⟨by omega, by omega⟩, fun z => absurd z (by omega), fun _ => l45 (h p 10).toNat 0 best (by omega) (by omega) (fun ⟨c', a, b, _⟩ => absurd b (by omega)) (fun _ => rfl)⟩
  have st : lp 1 (fun c => Rl (CS h p) (D 0 4) 0 0 c) := ⟨zRL_1, fun q => by
    rw [tS_1]
    exact ⟨fun e => e.symm, fun e => e.symm⟩⟩
  have mx0 : mxL (tkA h p D) 0 (-2) := Or.inl ⟨rfl, fun k hk => absurd hk (by omega)⟩
  refine eX7_longestTaken (bX7_longestTaken_0 (sp_deadClass hp hD (fun c c0 c1 hd mn => ⟨⟨by omega, by omega⟩, fun _ => l33 (h p 10).toNat 0 (-2) 1 _ (by omega) st (zlxor_R _ _) (fun e e0 e1 => ?_) mx0, fun z => absurd c0 z⟩) (fun no => ⟨⟨by decide, by decide⟩, fun z => absurd z (by decide), fun _ => l33 (h p 10).toNat 0 (-2) 1 _ (by omega) st ⟨by decide, by decide⟩ (fun e e0 e1 => ⟨fun _ => no e e0 e1, fun _ => ⟨by omega, by omega, tb_m1 e0 (by omega)⟩⟩) mx0⟩)))
  have eq : tS (zlxor (zlshl 1 c) (-1)) e ↔ ¬ e = c := by
    unfold tS
    rw [tb_lxor, tb_m1 e0 (by omega), Bool.xor_true]
    have w := tS_shl (k := c) (q := e) (by omega) (by omega)
    unfold tS at w
    constructor
    · rintro ⟨-, -, z⟩ y
      have := (w.mpr y).2.2
      rw [this] at z
      cases z
    · intro y
      refine ⟨e0, by omega, ?_⟩
      cases z : tb (zlshl 1 c) e
      · rfl
      · exact absurd (w.mp ⟨e0, by omega, z⟩) y
  rw [eq]
  exact ⟨fun y hd2 => y (dead_u hp hD e0 e1 c0 c1 hd2 hd), fun y e2 => y (by rw [e2]; exact hd)⟩
/-- the model's lengths -/
theorem sm_longest42 {K : Int → zH → Prop} {p m : Int} (hp : pthP h p D) (hD : mOK D) {H : zH} (hm : 0 ≤ m ∧ m < 14) (hr : mRep H m D) (g : mGt D H 0 (h p 0) (h (p + 1)) (h (p + 2)) (h (p + 3)) (h (p + 4))) (k1 : (∃ L : Nat, (h p 0).toNat ≤ L ∧ L < 2 * (h p 0).toNat ∧ tkA h p D L) → K (-3) (zup (zup H 466 1 0) 466 2 (-1))) (k2 : (¬ ∃ L : Nat, (h p 0).toNat ≤ L ∧ L < 2 * (h p 0).toNat ∧ tkA h p D L) → ∀ v, mxL (tkA h p D) (h p 0).toNat v → K v (zup (zup H 466 1 0) 466 2 (-1))) : tX12_longest_42 G (d + 1) K m (h p 0) 1 (-2) 0 H := by
  have nn := pP_n hp
  have hB := mO_bl hD
  have pt := hp.2.2.1
  have p10 : 0 ≤ (0 : Int) ∧ (0 : Int) < h p 0 := by omega
  have l42 : ∀ (f : Nat) (k : Nat) (now most : Int), (k : Int) + f = 2 * h p 0 → lp now (fun s => Rl (sS h p) (D 0 4) k 0 s) → (∃ M : Nat, (k ≤ (h p 0).toNat → M = k) ∧ ((h p 0).toNat ≤ k → M = (h p 0).toNat) ∧ mxL (tkA h p D) M most) → (∀ L : Nat, (h p 0).toNat ≤ L → L < k → ¬ tkA h p D L) → tX12_longest_42 G (d + 1) K m (h p 0) now most k H := by
    intro f
    induction f with
    | zero =>
      intro k now most hk ln mm no
      obtain ⟨M, m1, m2, m3⟩ := mm
      refine bX12_longest_42 ⟨⟨by omega, by omega⟩, ⟨by omega, by omega⟩, fun _ => sm_good (k2 (fun ⟨L, a, b, c⟩ => no L a (by omega) c) most ?_), fun z => absurd z (by omega)⟩
      have := m2 (by omega)
      rw [← this]
      exact m3
    | succ f ih =>
      intro k now most hk ln mm no
      obtain ⟨M, m1, m2, m3⟩ := mm
      have mr := mxL_rg m3
      have Mk : (M : Int) ≤ h p 0 ∧ (M : Int) ≤ k := by
        by_cases z : k ≤ (h p 0).toNat
        · have := m1 z
          omega
        · have := m2 (by omega)
          omega
      have At : tkA h p D k ↔ ∃ s, 0 ≤ s ∧ s < h p 0 ∧ tS now s ∧ tb (h p 6) s = true := by
        constructor
        · rintro ⟨t, r, e⟩
          have rg := Rl_rg (hS_s hp hD) p10 r
          exact ⟨t, rg.1, rg.2, (ln.2 t).mpr r, e⟩
        · rintro ⟨t, a1, a2, a3, a4⟩
          exact ⟨t, (ln.2 t).mp a3, a4⟩
      have mostR : zR most := ⟨by omega, by omega⟩
      have mostN : ¬ most = -3 := by omega
      -- what is most, once some sheaves are gone through
      have l56 : ∀ (f2 : Nat) (s l5 th : Int), 0 ≤ s → s + f2 = h p 0 → lp th (fun q => ∃ s' b, (0 ≤ s' ∧ s' < s) ∧ tS now s' ∧ (0 ≤ b ∧ b < D 0 4) ∧ q = sS h p s' b) → ((∃ s', 0 ≤ s' ∧ s' < s ∧ tS now s' ∧ tb (h p 6) s' = true) → l5 = if (k : Int) < h p 0 then (k : Int) else -3) → ((¬ ∃ s', 0 ≤ s' ∧ s' < s ∧ tS now s' ∧ tb (h p 6) s' = true) → l5 = most) → tX12_longest_56 G (d + 1) K m (h p 0) now l5 k th s H := by
        intro f2
        induction f2 with
        | zero =>
          intro s l5 th s0 sf lt e1 e2
          have es : s = h p 0 := by omega
          subst es
          have r5 : zR l5 := by
            by_cases z : ∃ s', 0 ≤ s' ∧ s' < h p 0 ∧ tS now s' ∧ tb (h p 6) s' = true
            · rw [e1 z]
              by_cases y : (k : Int) < h p 0
              · rw [if_pos y]
                exact ⟨by omega, by omega⟩
              · rw [if_neg y]
                exact ⟨by decide, by decide⟩
            · rw [e2 z]
              exact mostR
          refine bX12_longest_56 ⟨⟨by omega, by omega⟩, ⟨by omega, by omega⟩, fun _ => ⟨r5, fun y => ?_, fun y => sm_good (k1 ?_)⟩, fun z => absurd (Int.le_refl _) z⟩
          · have kA : (h p 0).toNat ≤ k → ¬ tkA h p D k := fun z a => y (by rw [e1 (At.mp a), if_neg (by omega)])
            have := ih (k + 1) th l5 (by omega) (lp_iff lt (fun q => ⟨fun ⟨s', b, x1, x2, x3, x4⟩ => ⟨s', b, (ln.2 s').mp x2, x3, x4⟩, fun ⟨s', b, x2, x3, x4⟩ => ⟨s', b, Rl_rg (hS_s hp hD) p10 x2, (ln.2 s').mpr x2, x3, x4⟩⟩)) ?_ (fun L a b c => ?_)
            · rw [show ((k + 1 : Nat) : Int) = (k : Int) + 1 by omega] at this
              exact this
            · by_cases z : k < (h p 0).toNat
              · have eM := m1 (by omega)
                subst eM
                exact ⟨M + 1, fun _ => rfl, fun z2 => by omega, mxL_s m3 (fun a => by rw [e1 (At.mp a), if_pos (by omega)]) (fun a => e2 (fun w => a (At.mpr w)))⟩
              · have eM := m2 (by omega)
                refine ⟨M, fun z2 => by omega, fun _ => eM, ?_⟩
                rw [e2 (fun w => kA (by omega) (At.mpr w))]
                exact m3
            · by_cases z : L = k
              · rw [z] at c a
                exact kA a c
              · exact no L a (by omega) c
          · have ex : ∃ s', 0 ≤ s' ∧ s' < h p 0 ∧ tS now s' ∧ tb (h p 6) s' = true := Classical.byContradiction (fun z => mostN ((e2 z).symm.trans y))
            have e3 := e1 ex
            by_cases z : (k : Int) < h p 0
            · rw [if_pos z] at e3
              omega
            · exact ⟨k, by omega, by omega, At.mpr ex⟩
        | succ f2 ih2 =>
          intro s l5 th s0 sf lt e1 e2
          -- its steps
          have l103 : ∀ (f3 : Nat) (b l5' th' : Int), tS now s → 0 ≤ b → b + f3 = D 0 4 → lp th' (fun q => ∃ s' b', (0 ≤ s' ∧ s' ≤ s) ∧ tS now s' ∧ (0 ≤ b' ∧ b' < D 0 4) ∧ (s' = s → b' < b) ∧ q = sS h p s' b') → ((∃ s', 0 ≤ s' ∧ s' < s + 1 ∧ tS now s' ∧ tb (h p 6) s' = true) → l5' = if (k : Int) < h p 0 then (k : Int) else -3) → ((¬ ∃ s', 0 ≤ s' ∧ s' < s + 1 ∧ tS now s' ∧ tb (h p 6) s' = true) → l5' = most) → tX12_longest_103 G (d + 1) K m (h p 0) now l5' k th' s b H := by
            intro f3
            induction f3 with
            | zero =>
              intro b l5' th' hs b0 bf lt' e1' e2'
              refine bX12_longest_103 ⟨hm, ?_⟩
              rw [hr.1.2.2.2.2]
              exact ⟨⟨by omega, by omega⟩, ⟨by omega, by omega⟩, fun _ => ih2 (s + 1) l5' th' (by omega) (by omega) (lp_iff lt' (fun q => ⟨fun ⟨s', b', x1, x2, x3, x4, x5⟩ => ⟨s', b', by omega, x2, x3, x5⟩, fun ⟨s', b', x1, x2, x3, x5⟩ => ⟨s', b', by omega, x2, x3, fun _ => by omega, x5⟩⟩)) e1' e2', fun z => absurd z (by omega)⟩
            | succ f3 ih3 =>
              intro b l5' th' hs b0 bf lt' e1' e2'
              have st := hS_s hp hD s b s0 (by omega) b0 (by omega)
              refine bX12_longest_103 ⟨hm, ?_⟩
              rw [hr.1.2.2.2.2]
              refine ⟨⟨by omega, by omega⟩, ⟨by omega, by omega⟩, fun z => absurd z (by omega), fun _ => sm_goesTo (Or.inl rfl) (by omega) (by omega) ?_⟩
              rw [g.2.2.1 s b s0 (by omega) b0 (by omega)]
              refine ih3 (b + 1) l5' _ hs (by omega) (by omega) (lp_iff (lp_lor lt' (lp_shl (k := sS h p s b) (by omega) (by omega))) (fun q => ⟨fun z => ?_, fun ⟨s', b', x1, x2, x3, x4, x5⟩ => ?_⟩)) e1' e2'
              · rcases z with ⟨s', b', x1, x2, x3, x4, x5⟩ | z
                · exact ⟨s', b', x1, x2, x3, fun w => by have := x4 w; omega, x5⟩
                · exact ⟨s, b, by omega, hs, by omega, fun _ => by omega, z⟩
              · by_cases w : s' = s ∧ b' = b
                · obtain ⟨w1, w2⟩ := w
                  subst w1 w2
                  exact Or.inr x5
                · exact Or.inl ⟨s', b', x1, x2, x3, fun w2 => by have := x4 w2; omega, x5⟩
          have iff0 : (¬ (tS now s ∧ tb (h p 6) s = true)) → ((∃ s', 0 ≤ s' ∧ s' < s + 1 ∧ tS now s' ∧ tb (h p 6) s' = true) ↔ ∃ s', 0 ≤ s' ∧ s' < s ∧ tS now s' ∧ tb (h p 6) s' = true) := fun w => by
            constructor
            · rintro ⟨c', a1, a2, a3, a4⟩
              by_cases y : c' = s
              · rw [y] at a3 a4
                exact absurd ⟨a3, a4⟩ w
              · exact ⟨c', a1, by omega, a3, a4⟩
            · rintro ⟨c', a1, a2, a3, a4⟩
              exact ⟨c', a1, by omega, a3, a4⟩
          have first : tS now s → lp th (fun q => ∃ s' b', (0 ≤ s' ∧ s' ≤ s) ∧ tS now s' ∧ (0 ≤ b' ∧ b' < D 0 4) ∧ (s' = s → b' < 0) ∧ q = sS h p s' b') := fun _ => lp_iff lt (fun q => ⟨fun ⟨s', b', x1, x2, x3, x5⟩ => ⟨s', b', by omega, x2, x3, fun w => by omega, x5⟩, fun ⟨s', b', x1, x2, x3, x4, x5⟩ => ⟨s', b', by
            by_cases w : s' = s
            · have := x4 w
              omega
            · omega, x2, x3, x5⟩⟩)
          refine bX12_longest_56 ⟨⟨by omega, by omega⟩, ⟨by omega, by omega⟩, fun z => absurd z (by omega), fun _ => sm_bit (by omega) ⟨fun z => ?_, fun z => ?_⟩⟩
          · have hs : tS now s := ⟨s0, by omega, z⟩
            refine sm_sheafEnds (n := h p 0) (B := h (p + 1)) (x := h p 6) (D := D) hm (Or.inl rfl) nn.1.2 hr.1.2.1 (g.2.1 s s0 (by omega)) pt ⟨s0, by omega⟩ ⟨fun w => l103 (D 0 4).toNat 0 l5 th hs (by omega) (by omega) (first hs) (fun y => e1 ((iff0 (fun y2 => absurd (w.symm.trans y2.2) (by decide))).mp y)) (fun y => e2 (fun y2 => y ((iff0 (fun y3 => absurd (w.symm.trans y3.2) (by decide))).mpr y2))), fun w => ⟨⟨by omega, by omega⟩, ⟨by omega, by omega⟩, fun y => ?_, fun y => ?_⟩⟩
            · exact l103 (D 0 4).toNat 0 (-3) th hs (by omega) (by omega) (first hs) (fun _ => by rw [if_neg (by omega)]) (fun y2 => absurd ⟨s, s0, by omega, hs, w⟩ y2)
            · exact l103 (D 0 4).toNat 0 k th hs (by omega) (by omega) (first hs) (fun _ => by rw [if_pos (by omega)]) (fun y2 => absurd ⟨s, s0, by omega, hs, w⟩ y2)
          · have hs : ¬ tS now s := fun w => by
              have := w.2.2
              rw [z] at this
              cases this
            refine ih2 (s + 1) l5 th (by omega) (by omega) (lp_iff lt (fun q => ⟨fun ⟨s', b', x1, x2, x3, x5⟩ => ⟨s', b', by omega, x2, x3, x5⟩, fun ⟨s', b', x1, x2, x3, x5⟩ => ⟨s', b', ?_, x2, x3, x5⟩⟩)) (fun y => e1 ((iff0 (fun y2 => hs y2.1)).mp y)) (fun y => e2 (fun y2 => y ((iff0 (fun y3 => hs y3.1)).mpr y2)))
            by_cases w : s' = s
            · rw [w] at x2
              exact absurd x2 hs
            · omega
      refine bX12_longest_42 ⟨⟨by omega, by omega⟩, ⟨by omega, by omega⟩, fun z => absurd z (by omega), fun _ => l56 (h p 0).toNat 0 most 0 (by omega) (by omega) ⟨zRL_0, fun q => ⟨fun z => absurd z tS_0, fun ⟨s', b, x1, _⟩ => absurd x1 (by omega)⟩⟩ (fun ⟨s', a, b, _⟩ => absurd b (by omega)) (fun _ => rfl)⟩
  refine l42 (2 * h p 0).toNat 0 1 (-2) (by omega) ⟨zRL_1, fun q => by
    rw [tS_1]
    exact ⟨fun e => e.symm, fun e => e.symm⟩⟩ ⟨0, fun _ => rfl, fun z => absurd z (by omega), Or.inl ⟨rfl, fun k hk => absurd hk (by omega)⟩⟩ (fun L a b => absurd b (by omega))
end CS1
section CT
variable {G : zG} {d : Nat} {h : zH}
theorem c_longest {m : Int} (hI : Inv h) (hm : zR m) : twI G (d + 7) mX11_longest mX12_longest [vi m] h := by
  have b0 : ∀ w, bK h (zup (zup h 0 14 w) 466 0 0) := fun w => bK_w (fun _ _ => rfl) rfl
  refine eX11_longest (bX11_longest_0 (q_mach hI hm (fun q => ⟨fun _ => ?_, fun z => (by cases z)⟩) (fun q => ⟨fun z => (by cases z), fun _ => sp_refused (eX12_longest (bX12_longest_0 (q_machM hI rfl hm (fun z => absurd z q) (fun _ => ⟨fun z => (by cases z), fun _ => sm_refused ⟨zR_m1, rfl, Inv_w hI (by omega)⟩⟩))))⟩)))
  obtain ⟨m10, mc, o1, o2, o3, o4⟩ := iM_d hI q.1 q.2
  have pp := pth_p o4
  have nn := pP_n pp
  obtain ⟨en1, en2⟩ := endless pp o1
  have two : ∀ x, zR x → ((∃ L : Nat, (h (h 3 m + 7) 0).toNat ≤ L ∧ L < 2 * (h (h 3 m + 7) 0).toNat ∧ tkA h (h 3 m + 7) (dOf h m) L) → x = -3) → ((¬ ∃ L : Nat, (h (h 3 m + 7) 0).toNat ≤ L ∧ L < 2 * (h (h 3 m + 7) 0).toNat ∧ tkA h (h 3 m + 7) (dOf h m) L) → ∀ v, mxL (tkA h (h 3 m + 7) (dOf h m)) (h (h 3 m + 7) 0).toNat v → x = v) → zCi G (d + 7) mX12_longest [vr 12 466, vi m] (zup h 0 14 0) (fun y h4 => zR x ∧ x = y ∧ Inv h4) := fun x hx x1 x2 => by
    refine eX12_longest (bX12_longest_0 (q_machM hI rfl hm (fun _ => ⟨fun _ => ?_, fun z => (by cases z)⟩) (fun z => absurd q z)))
    refine sm_gathers o1 (by omega) (mRep_b (b0 0) o3) (Or.inl rfl) pp.2.1 (Or.inl rfl) (fun _ h3 f g => ?_) (fun z => absurd rfl z)
    have Ik := Inv_k hI (w := 0) (by omega) (fun _ _ => rfl) rfl rfl (mK_r f)
    rw [g.1]
    exact sm_longest42 pp o1 (by omega) (mRep_b (bK_m (b0 0) (mK_r f)) o3) g (fun z => ⟨hx, x1 z, Ik⟩) (fun z v hv => ⟨hx, x2 z v hv, Ik⟩)
  refine ⟨m10, sp_longestTaken pp o1 (fun z => sp_granted (two (-3) ⟨by decide, by decide⟩ (fun _ => rfl) (fun y => absurd (en1 z) y))) (fun z v hv => sp_granted (two v ?_ (fun y => ?_) (fun y v' hv' => ?_)))⟩
  · have := mxL_rg hv
    exact ⟨by omega, by omega⟩
  · obtain ⟨L, a, b, c⟩ := y
    exact absurd (en2 ⟨L, by omega, c⟩) z
  · exact mxL_u (by omega) (fun k hk a => z (en2 ⟨k, hk, a⟩)) hv hv'
end CT
