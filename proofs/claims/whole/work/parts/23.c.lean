/-! ===== classes: the model's table ===== -/
/-- the model's classes of a bank -/
def mSo (h : zH) (bank n C : Int) (Ki He Ap : Int → Int) (R : Nat) : Prop := h 512 bank = C ∧ (∀ s, 0 ≤ s → s < n → h 510 (bank * 40 + s) = Ki s) ∧ (∀ c, 0 ≤ c → c < C → h 511 (bank * 40 + c) = He c) ∧ (∀ s t, 0 ≤ s → s < n → 0 ≤ t → t < n → h 513 (s * 40 + t) = Ap (s * 40 + t)) ∧ h 466 75 = R
def mFs (bank : Int) (h h' : zH) : Prop := (∀ a, ¬ (505 ≤ a ∧ a ≤ 513) → ¬ a = 466 → h' a = h a) ∧ (∀ j, j < bank * 40 ∨ bank * 40 + 40 ≤ j → h' 505 j = h 505 j ∧ h' 508 j = h 508 j ∧ h' 509 j = h 509 j ∧ h' 510 j = h 510 j ∧ h' 511 j = h 511 j) ∧ (∀ j, ¬ j = bank → h' 506 j = h 506 j ∧ h' 512 j = h 512 j) ∧ (∀ j, j < bank * 5120 ∨ bank * 5120 + 5120 ≤ j → h' 507 j = h 507 j) ∧ (∀ j, ¬ j = 75 → h' 466 j = h 466 j)
section SV
variable {G : zG} {d : Nat} {h D : zH} {i bank n x : Int} {B T Pa Vi : Int → Int}
theorem sm_goesTo {K : Int → zH → Prop} {s b : Int} (hbk : bank = 0 ∨ bank = 1) (hs : 0 ≤ s ∧ s < 40) (hb : 0 ≤ b ∧ b < 128) (k : K (h 507 ((bank * 40 + s) * 128 + b)) h) : zCi G d mX12_goesTo [vr 12 466, vi bank, vi s, vi b] h K := eX12_goesTo (bX12_goesTo_0 ⟨⟨by omega, by omega⟩, k⟩)
theorem tk_b {s : Int} (hx : tkOK D n B x) (hn : n ≤ 40) (hs : 0 ≤ s ∧ s < n) : ¬ zland (B s) (D 0 1) = 0 ↔ tb x s = true := by
  have := hx.2 s
  unfold tS at this
  constructor
  · intro q
    exact (this.mpr ⟨hs.1, hs.2, q⟩).2.2
  · intro q
    exact (this.mp ⟨hs.1, by omega, q⟩).2.2
theorem sm_sheafEnds {K : Bool → zH → Prop} {s : Int} (hi : 0 ≤ i ∧ i < 14) (hbk : bank = 0 ∨ bank = 1) (hn : n ≤ 40) (he : h 502 i = D 0 1) (hB : h 505 (bank * 40 + s) = B s) (hx : tkOK D n B x) (hs : 0 ≤ s ∧ s < n) (k : K (tb x s) h) : zCb G d mX12_sheafEnds [vr 12 466, vi i, vi bank, vi s] h K := by
  refine eX12_sheafEnds (bX12_sheafEnds_0 ⟨⟨by omega, by omega⟩, hi, ?_⟩)
  rw [hB, he, (zcmp_lt (zland_R _ _) zRL_0).2.1]
  refine kbn ?_ k
  have := tk_b hx hn hs
  constructor
  · intro q
    cases hz : tb x s
    · rfl
    · exact absurd q (this.mpr hz)
  · intro q
    refine Classical.byContradiction (fun z => ?_)
    have := this.mp z
    rw [q] at this
    cases this
theorem sm_partingBlock {K : Int → zH → Prop} {s t rd : Int} (hi : 0 ≤ i ∧ i < 14) (hbk : bank = 0 ∨ bank = 1) (hn : n ≤ 40) (hnb : 1 ≤ D 0 4 ∧ D 0 4 ≤ 128) (hrd : 0 ≤ rd ∧ rd ≤ 100) (e96 : h 496 i = D 0 4) (e07 : ∀ s b, 0 ≤ s → s < n → 0 ≤ b → b < D 0 4 → h 507 ((bank * 40 + s) * 128 + b) = T (s * 128 + b)) (hT : ∀ s b, 0 ≤ s → s < n → 0 ≤ b → b < D 0 4 → 0 ≤ T (s * 128 + b) ∧ T (s * 128 + b) < n) (hP : ∀ s t, 0 ≤ s → s < n → 0 ≤ t → t < n → zR (h 513 (s * 40 + t))) (hs : 0 ≤ s ∧ s < n) (ht : 0 ≤ t ∧ t < n)
    (k1 : ∀ b, 0 ≤ b → b < D 0 4 → h 513 (T (s * 128 + b) * 40 + T (t * 128 + b)) = rd - 1 → (∀ b', 0 ≤ b' → b' < b → ¬ h 513 (T (s * 128 + b') * 40 + T (t * 128 + b')) = rd - 1) → K b h) (k2 : (∀ b', 0 ≤ b' → b' < D 0 4 → ¬ h 513 (T (s * 128 + b') * 40 + T (t * 128 + b')) = rd - 1) → K (-1) h) : zCi G (d + 1) mX12_partingBlock [vr 12 466, vi i, vi bank, vi s, vi t, vi rd] h K := by
  have go : ∀ (f : Nat) (b : Int), 0 ≤ b → b + f = D 0 4 → (∀ b', 0 ≤ b' → b' < b → ¬ h 513 (T (s * 128 + b') * 40 + T (t * 128 + b')) = rd - 1) → tX12_partingBlock_3 G d K i bank s t rd b h := by
    intro f
    induction f with
    | zero =>
      intro b b0 bf q
      refine bX12_partingBlock_3 ⟨hi, ?_⟩
      rw [e96]
      exact ⟨⟨by omega, by omega⟩, ⟨by omega, by omega⟩, fun _ => k2 (fun b' a c => q b' a (by omega)), fun z => absurd z (by omega)⟩
    | succ f ih =>
      intro b b0 bf q
      have a := hT s b hs.1 hs.2 b0 (by omega)
      have c := hT t b ht.1 ht.2 b0 (by omega)
      refine bX12_partingBlock_3 ⟨hi, ?_⟩
      rw [e96]
      refine ⟨⟨by omega, by omega⟩, ⟨by omega, by omega⟩, fun z => absurd z (by omega), fun _ => sm_goesTo hbk (by omega) (by omega) (sm_goesTo hbk (by omega) (by omega) ?_)⟩
      rw [e07 s b hs.1 hs.2 b0 (by omega), e07 t b ht.1 ht.2 b0 (by omega)]
      refine ⟨⟨by omega, by omega⟩, hP _ _ a.1 a.2 c.1 c.2, ⟨by omega, by omega⟩, fun z => ih (b + 1) (by omega) (by omega) (fun b' b0' b1' => ?_), fun z => k1 b b0 (by omega) z q⟩
      by_cases w : b' = b
      · rw [w]
        exact z
      · exact q b' b0' (by omega)
  exact eX12_partingBlock (bX12_partingBlock_0 (go (D 0 4).toNat 0 (by omega) (by omega) (fun b' a b => absurd b (by omega))))
theorem sm_partsMore {K : Bool → zH → Prop} {r : Nat} (hi : 0 ≤ i ∧ i < 14) (hbk : bank = 0 ∨ bank = 1) (hn : 1 ≤ n ∧ n ≤ 40) (hnb : 1 ≤ D 0 4 ∧ D 0 4 ≤ 128) (hr : r ≤ 41) (e96 : h 496 i = D 0 4) (e06 : h 506 bank = n) (e07 : ∀ s b, 0 ≤ s → s < n → 0 ≤ b → b < D 0 4 → h 507 ((bank * 40 + s) * 128 + b) = T (s * 128 + b)) (hT : ∀ s b, 0 ≤ s → s < n → 0 ≤ b → b < D 0 4 → 0 ≤ T (s * 128 + b) ∧ T (s * 128 + b) < n) (hA : ∀ s t, 0 ≤ s → s < n → 0 ≤ t → t < n → apE T (D 0 4) (tb x) r s t (h 513 (s * 40 + t)))
    (k1 : ∀ h' : zH, (∀ a, ¬ a = 513 → h' a = h a) → (∀ s t, 0 ≤ s → s < n → 0 ≤ t → t < n → apE T (D 0 4) (tb x) (r + 1) s t (h' 513 (s * 40 + t))) → (∃ s t, (0 ≤ s ∧ s < n) ∧ (0 ≤ t ∧ t < n) ∧ pd T (D 0 4) (tb x) (r + 1) s t ∧ ¬ pd T (D 0 4) (tb x) r s t) → K true h')
    (k2 : ∀ h' : zH, (∀ a, ¬ a = 513 → h' a = h a) → (∀ s t, 0 ≤ s → s < n → 0 ≤ t → t < n → apE T (D 0 4) (tb x) (r + 1) s t (h' 513 (s * 40 + t))) → (∀ s t, 0 ≤ s → s < n → 0 ≤ t → t < n → pd T (D 0 4) (tb x) (r + 1) s t → pd T (D 0 4) (tb x) r s t) → K false h') : zCb G (d + 2) mX12_partsMore [vr 12 466, vi i, vi bank, vi ((r : Int) + 1)] h K := by
  have hb2 : 0 ≤ bank ∧ bank < 2 := by omega
  have l6 : ∀ (f : Nat) (s fl : Int) (h1 : zH), 0 ≤ s → s + f = n → (∀ a, ¬ a = 513 → h1 a = h a) → (∀ u v, 0 ≤ u → u < n → 0 ≤ v → v < n → (u < s ∧ v < s → apE T (D 0 4) (tb x) (r + 1) u v (h1 513 (u * 40 + v))) ∧ (¬ (u < s ∧ v < s) → apE T (D 0 4) (tb x) r u v (h1 513 (u * 40 + v)))) → ((fl = 1 ∧ ∃ s t, (0 ≤ s ∧ s < n) ∧ (0 ≤ t ∧ t < n) ∧ pd T (D 0 4) (tb x) (r + 1) s t ∧ ¬ pd T (D 0 4) (tb x) r s t) ∨ (fl = 0 ∧ ∀ u v, 0 ≤ u → u < s → 0 ≤ v → v < s → pd T (D 0 4) (tb x) (r + 1) u v → pd T (D 0 4) (tb x) r u v)) → tX12_partsMore_6 G (d + 1) K i bank ((r : Int) + 1) fl s h1 := by
    intro f
    induction f with
    | zero =>
      intro s fl h1 s0 sf g1 g2 g3
      refine bX12_partsMore_6 ⟨hb2, ?_⟩
      rw [g1 506 (by decide), e06]
      refine ⟨⟨by omega, by omega⟩, ⟨by omega, by omega⟩, fun _ => ?_, fun q => absurd q (by omega)⟩
      have g4 : ∀ s t, 0 ≤ s → s < n → 0 ≤ t → t < n → apE T (D 0 4) (tb x) (r + 1) s t (h1 513 (s * 40 + t)) := fun u v a b c e => (g2 u v a b c e).1 (by omega)
      rcases g3 with ⟨z, ex⟩ | ⟨z, al⟩
      · exact ⟨true, z, k1 h1 g1 g4 ex⟩
      · exact ⟨false, z, k2 h1 g1 g4 (fun u v a b c e => al u v a (by omega) c (by omega))⟩
    | succ f ih =>
      intro s fl h1 s0 sf g1 g2 g3
      have l20 : ∀ (f : Nat) (t fl : Int) (h2 : zH), 0 ≤ t → t + f = s → (∀ a, ¬ a = 513 → h2 a = h a) → (∀ u v, 0 ≤ u → u < n → 0 ≤ v → v < n → ((u < s ∧ v < s ∨ u = s ∧ v < t ∨ v = s ∧ u < t) → apE T (D 0 4) (tb x) (r + 1) u v (h2 513 (u * 40 + v))) ∧ (¬ (u < s ∧ v < s ∨ u = s ∧ v < t ∨ v = s ∧ u < t) → apE T (D 0 4) (tb x) r u v (h2 513 (u * 40 + v)))) → ((fl = 1 ∧ ∃ s t, (0 ≤ s ∧ s < n) ∧ (0 ≤ t ∧ t < n) ∧ pd T (D 0 4) (tb x) (r + 1) s t ∧ ¬ pd T (D 0 4) (tb x) r s t) ∨ (fl = 0 ∧ ∀ u v, 0 ≤ u → u < n → 0 ≤ v → v < n → (u < s ∧ v < s ∨ u = s ∧ v < t ∨ v = s ∧ u < t) → pd T (D 0 4) (tb x) (r + 1) u v → pd T (D 0 4) (tb x) r u v)) → tX12_partsMore_20 G (d + 1) K i bank ((r : Int) + 1) fl s t h2 := by
        intro f2
        induction f2 with
        | zero =>
          intro t fl h2 t0 tf q1 q2 q3
          have et : t = s := by omega
          subst et
          refine bX12_partsMore_20 ⟨⟨by omega, by omega⟩, ⟨by omega, by omega⟩, fun _ => ih (t + 1) fl h2 (by omega) (by omega) q1 (fun u v a b c e => ⟨fun w => ?_, fun w => (q2 u v a b c e).2 (by omega)⟩) ?_, fun q => absurd q (by omega)⟩
          · by_cases z : u = t ∧ v = t
            · obtain ⟨z1, z2⟩ := z
              subst z1 z2
              have old := (q2 v v a b c e).2 (by omega)
              rcases old with ⟨w1, -⟩ | ⟨q, -, -, w1, -⟩
              · exact Or.inl ⟨w1, pd_irr⟩
              · exact absurd w1 pd_irr
            · exact (q2 u v a b c e).1 (by omega)
          · rcases q3 with z | ⟨z, al⟩
            · exact Or.inl z
            · refine Or.inr ⟨z, fun u v a b c e w => ?_⟩
              by_cases z : u = t ∧ v = t
              · obtain ⟨z1, z2⟩ := z
                subst z1 z2
                exact absurd w pd_irr
              · exact al u v a (by omega) c (by omega) (by omega) w
        | succ f2 ih2 =>
          intro t fl h2 t0 tf q1 q2 q3
          have old := (q2 s t s0 (by omega) t0 (by omega)).2 (by omega)
          have old2 := (q2 t s t0 (by omega) s0 (by omega)).2 (by omega)
          have rg := apE_rg old
          have step : pd T (D 0 4) (tb x) (r + 1) s t → ¬ h2 513 (s * 40 + t) = -1 → pd T (D 0 4) (tb x) r s t := fun _ nx => by
            rcases old with ⟨w, -⟩ | ⟨q, a, b, c, -⟩
            · exact absurd w nx
            · exact pd_mono a c
          refine bX12_partsMore_20 ⟨⟨by omega, by omega⟩, ⟨by omega, by omega⟩, fun q => absurd q (by omega), fun _ => ⟨⟨by omega, by omega⟩, ⟨by omega, by omega⟩, fun q => ?_, fun q => ?_⟩⟩
          · refine ih2 (t + 1) fl h2 (by omega) (by omega) q1 (fun u v a b c e => ⟨fun w => ?_, fun w => (q2 u v a b c e).2 (by omega)⟩) ?_
            · by_cases z : u = s ∧ v = t
              · obtain ⟨z1, z2⟩ := z
                subst z1 z2
                exact apE_old old q
              · by_cases z2 : u = t ∧ v = s
                · obtain ⟨z1, z2⟩ := z2
                  subst z1 z2
                  refine apE_old old2 (fun w => q ?_)
                  rw [← w]
                  exact apE_u old (apE_sym old2)
                · exact (q2 u v a b c e).1 (by omega)
            · rcases q3 with z | ⟨z, al⟩
              · exact Or.inl z
              · refine Or.inr ⟨z, fun u v a b c e w1 w => ?_⟩
                by_cases z : u = s ∧ v = t
                · obtain ⟨z1, z2⟩ := z
                  subst z1 z2
                  exact step w q
                · by_cases z2 : u = t ∧ v = s
                  · obtain ⟨z1, z2⟩ := z2
                    subst z1 z2
                    exact pd_sym (step (pd_sym w) q)
                  · exact al u v a b c e (by omega) w
          · have npd : ¬ pd T (D 0 4) (tb x) r s t := by
              rcases old with ⟨-, w⟩ | ⟨q', -, w, -⟩
              · exact w
              · omega
            have qt : h2 513 (t * 40 + s) = -1 := by
              rw [← q]
              exact apE_u (apE_sym old2) old
            have ent : ∀ u v, 0 ≤ u → u < n → 0 ≤ v → v < n → (h2 513 (u * 40 + v) = (r : Int) + 1 - 1 ↔ pd T (D 0 4) (tb x) r u v ∧ ∀ q' : Nat, q' < r → ¬ pd T (D 0 4) (tb x) q' u v) := fun u v a b c e => by
              rw [show (r : Int) + 1 - 1 = r by omega]
              by_cases w : u < s ∧ v < s ∨ u = s ∧ v < t ∨ v = s ∧ u < t
              · exact apE_is (Nat.le_succ r) ((q2 u v a b c e).1 w)
              · exact apE_is (Nat.le_refl r) ((q2 u v a b c e).2 w)
            have entR : ∀ u v, 0 ≤ u → u < n → 0 ≤ v → v < n → zR (h2 513 (u * 40 + v)) := fun u v a b c e => by
              by_cases w : u < s ∧ v < s ∨ u = s ∧ v < t ∨ v = s ∧ u < t
              · have := apE_rg ((q2 u v a b c e).1 w)
                exact ⟨by omega, by omega⟩
              · have := apE_rg ((q2 u v a b c e).2 w)
                exact ⟨by omega, by omega⟩
            refine sm_partingBlock (n := n) (T := T) (D := D) hi hbk hn.2 hnb (by omega) (by rw [q1 496 (by decide), e96]) (by rw [q1 507 (by decide)]; exact e07) hT entR ⟨s0, by omega⟩ ⟨t0, by omega⟩ (fun b b0 b1 eb _ => ⟨⟨by omega, by omega⟩, fun _ => ⟨⟨by omega, by omega⟩, ⟨by omega, by omega⟩, ?_⟩, fun z => absurd z (by omega)⟩) (fun no => ⟨⟨by omega, by omega⟩, fun z => absurd rfl z, fun _ => ?_⟩)
            · have a1 := hT s b s0 (by omega) b0 b1
              have a2 := hT t b t0 (by omega) b0 b1
              have yes : pd T (D 0 4) (tb x) (r + 1) s t := Or.inr ⟨b, b0, b1, ((ent _ _ a1.1 a1.2 a2.1 a2.2).mp eb).1⟩
              have en := apE_new old q yes
              have en2 := apE_new old2 qt (pd_sym yes)
              rw [show ((r + 1 : Nat) : Int) = (r : Int) + 1 by omega] at en en2
              refine ih2 (t + 1) 1 _ (by omega) (by omega) (fun a w => by rw [zup_ne w, zup_ne w, q1 a w]) (fun u v a b c e => ?_) (Or.inl ⟨rfl, s, t, ⟨s0, by omega⟩, ⟨t0, by omega⟩, yes, npd⟩)
              by_cases z : u = s ∧ v = t
              · obtain ⟨z1, z2⟩ := z
                subst z1 z2
                rw [zup_ns (by omega), zup_eq]
                exact ⟨fun _ => en, fun w => absurd (by omega) w⟩
              · by_cases z2 : u = t ∧ v = s
                · obtain ⟨z1, z2⟩ := z2
                  subst z1 z2
                  rw [zup_eq]
                  exact ⟨fun _ => en2, fun w => absurd (by omega) w⟩
                · rw [zup_ns (by omega), zup_ns (by omega)]
                  exact ⟨fun w => (q2 u v a b c e).1 (by omega), fun w => (q2 u v a b c e).2 (by omega)⟩
            · have nyes : ¬ pd T (D 0 4) (tb x) (r + 1) s t := by
                rintro (w | ⟨b, b0, b1, w⟩)
                · exact npd w
                · have a1 := hT s b s0 (by omega) b0 b1
                  have a2 := hT t b t0 (by omega) b0 b1
                  refine no b b0 b1 ((ent _ _ a1.1 a1.2 a2.1 a2.2).mpr ⟨w, fun q' hq z => npd ?_⟩)
                  exact pd_mono (show q' + 1 ≤ r by omega) (Or.inr ⟨b, b0, b1, z⟩)
              refine ih2 (t + 1) fl h2 (by omega) (by omega) q1 (fun u v a b c e => ⟨fun w => ?_, fun w => (q2 u v a b c e).2 (by omega)⟩) ?_
              · by_cases z : u = s ∧ v = t
                · obtain ⟨z1, z2⟩ := z
                  subst z1 z2
                  exact apE_no old q nyes
                · by_cases z2 : u = t ∧ v = s
                  · obtain ⟨z1, z2⟩ := z2
                    subst z1 z2
                    exact apE_no old2 qt (fun w => nyes (pd_sym w))
                  · exact (q2 u v a b c e).1 (by omega)
              · rcases q3 with z | ⟨z, al⟩
                · exact Or.inl z
                · refine Or.inr ⟨z, fun u v a b c e w1 w => ?_⟩
                  by_cases z : u = s ∧ v = t
                  · obtain ⟨z1, z2⟩ := z
                    subst z1 z2
                    exact absurd w nyes
                  · by_cases z2 : u = t ∧ v = s
                    · obtain ⟨z1, z2⟩ := z2
                      subst z1 z2
                      exact absurd (pd_sym w) nyes
                    · exact al u v a b c e (by omega) w
      refine bX12_partsMore_6 ⟨hb2, ?_⟩
      rw [g1 506 (by decide), e06]
      refine ⟨⟨by omega, by omega⟩, ⟨by omega, by omega⟩, fun q => absurd q (by omega), fun _ => l20 s.toNat 0 fl h1 (by omega) (by omega) g1 (fun u v a b c e => ⟨fun w => (g2 u v a b c e).1 (by omega), fun w => (g2 u v a b c e).2 (by omega)⟩) ?_⟩
      rcases g3 with z | ⟨z, al⟩
      · exact Or.inl z
      · exact Or.inr ⟨z, fun u v a b c e w1 w => al u v a (by omega) c (by omega) w⟩
  exact eX12_partsMore (bX12_partsMore_0 (l6 n.toNat 0 0 h (by omega) (by omega) (fun _ _ => rfl) (fun u v a b c e => ⟨fun w => absurd w.1 (by omega), fun _ => hA u v a b c e⟩) (Or.inr ⟨rfl, fun u v a b => absurd b (by omega)⟩)))
end SV
