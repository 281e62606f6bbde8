/-! ===== classes: the class's rounds ===== -/
/-- an entry ahead of round r -/
def apL (T : Int → Int) (nb : Int) (E : Int → Bool) (r : Nat) (s t x : Int) : Prop := (x = -1 ∧ ∀ q : Nat, q < r → ¬ pd T nb E q s t) ∨ ∃ q : Nat, q < r ∧ x = q ∧ pd T nb E q s t ∧ ∀ q' : Nat, q' < q → ¬ pd T nb E q' s t
section AQ
variable {T : Int → Int} {nb n : Int} {E : Int → Bool} {r : Nat} {s t x y : Int}
theorem apL_of (h : apE T nb E r s t x) : apL T nb E (r + 1) s t x := by
  rcases h with ⟨h, a⟩ | ⟨q, a, b, c⟩
  · exact Or.inl ⟨h, fun q hq z => a (pd_mono (by omega) z)⟩
  · exact Or.inr ⟨q, by omega, b, c⟩
theorem apL_to (h : apL T nb E (r + 1) s t x) : apE T nb E r s t x := by
  rcases h with ⟨h, a⟩ | ⟨q, a, b, c⟩
  · exact Or.inl ⟨h, a r (by omega)⟩
  · exact Or.inr ⟨q, by omega, b, c⟩
theorem apL_no (h : apL T nb E r s t x) (hn : ¬ pd T nb E r s t) : apE T nb E r s t x := by
  rcases h with ⟨h, a⟩ | ⟨q, a, b, c, e⟩
  · exact Or.inl ⟨h, hn⟩
  · exact absurd (pd_mono (by omega) c) hn
theorem apL_old (h : apL T nb E r s t x) (hx : ¬ x = -1) : apE T nb E r s t x := by
  rcases h with ⟨h, a⟩ | ⟨q, a, b, c⟩
  · exact absurd h hx
  · exact Or.inr ⟨q, by omega, b, c⟩
theorem apL_new (h : apL T nb E r s t x) (hx : x = -1) (hn : pd T nb E r s t) : apE T nb E r s t (r : Int) := by
  rcases h with ⟨h, a⟩ | ⟨q, a, b, c⟩
  · exact Or.inr ⟨r, Nat.le_refl _, rfl, hn, a⟩
  · omega
theorem apL_rg (h : apL T nb E r s t x) : -1 ≤ x ∧ x < r ∨ x = -1 := by
  rcases h with ⟨h, -⟩ | ⟨q, a, b, -⟩
  · exact Or.inr h
  · exact Or.inl (by omega)
end AQ
theorem numOK_iff {e e' : Int → Int → Prop} {n C : Int} {Ki He : Int → Int} (hi : ∀ s t, 0 ≤ s → s < n → 0 ≤ t → t < n → (e s t ↔ e' s t)) (h : numOK e n C Ki He) : numOK e' n C Ki He := by
  obtain ⟨⟨p0, p1, p2, p3⟩, p4⟩ := h
  refine ⟨⟨p0, fun t t0 t1 => ?_, p2, p3⟩, fun s t s0 s1 t0 t1 => (hi s t s0 s1 t0 t1).symm.trans (p4 s t s0 s1 t0 t1)⟩
  obtain ⟨a, b, c⟩ := p1 t t0 t1
  have q := (p2 _ a.1 a.2).1
  exact ⟨a, (hi _ _ t0 t1 q.1 q.2).mp b, c⟩
theorem zcp_ne {h : zH} {a b n r : Int} (e : ¬ r = b) : zcp h a b n r = h r := by
  funext y
  unfold zcp
  rw [if_neg (fun q => e q.1)]
theorem zcp_eq {h : zH} {a b n y : Int} (h0 : 0 ≤ y) (h1 : y < n) : zcp h a b n b y = h a y := by
  unfold zcp
  rw [if_pos ⟨rfl, h0, h1⟩]
section SU
variable {G : zG} {d : Nat} {h : zH} {p n nb x : Int} {T : Int → Int}
theorem sp_sheafTakes {K : Bool → zH → Prop} {s : Int} (hs : 0 ≤ s ∧ s < 64) (k : K (tb (h p 6) s) h) : zCb G d mX7_sheafTakes [vr 7 p, vi s] h K := eX7_sheafTakes (bX7_sheafTakes_0 (kb (zbit_u hs.1 hs.2) k))
theorem sp_sheafStep {K : Int → zH → Prop} {s b : Int} (hs : 0 ≤ s ∧ s < 40) (hb : 0 ≤ b ∧ b < 128) (k : K (h (p + 2) (s * 128 + b)) h) : zCi G d mX7_sheafStep [vr 7 p, vi s, vi b] h K := eX7_sheafStep (bX7_sheafStep_0 ⟨⟨by omega, by omega⟩, k⟩)
theorem sp_areAlike {K : Bool → zH → Prop} {s t : Int} {r : Nat} {Ko : Int → Int} (hn : n ≤ 40) (hnb : 0 ≤ nb ∧ nb ≤ 128) (hr : r ≤ 41) (e7 : h p 7 = nb) (e6 : h p 6 = x) (e2 : h (p + 2) = T) (eK : h (p + 11) = Ko) (hT : ∀ s b, 0 ≤ s → s < n → 0 ≤ b → b < nb → 0 ≤ T (s * 128 + b) ∧ T (s * 128 + b) < n) (hs : 0 ≤ s ∧ s < n) (ht : 0 ≤ t ∧ t < n)
    (hK : ∀ r' : Nat, r = r' + 1 → (∀ s, 0 ≤ s → s < n → 0 ≤ Ko s ∧ Ko s < 40) ∧ ∀ s t, 0 ≤ s → s < n → 0 ≤ t → t < n → (¬ pd T nb (tb x) r' s t ↔ Ko s = Ko t)) (k : ∀ b : Bool, (b = true ↔ ¬ pd T nb (tb x) r s t) → K b h) : zCb G (d + 1) mX7_areAlike [vr 7 p, vi s, vi t, vi r] h K := by
  refine eX7_areAlike (bX7_areAlike_0 ⟨⟨by omega, by omega⟩, fun q => ?_, fun q => ?_⟩)
  · obtain ⟨r', er⟩ : ∃ r' : Nat, r = r' + 1 := ⟨r - 1, by omega⟩
    obtain ⟨hR, hE⟩ := hK r' er
    have fin0 : ∀ b, pd T nb (tb x) r s t → tX7_areAlike_48 G d K p s t 0 b h := fun b q => bX7_areAlike_48 ⟨⟨by decide, by decide⟩, fun _ => ⟨false, rfl, k false ⟨fun z => (by cases z), fun z => absurd q z⟩⟩, fun z => absurd rfl z⟩
    have go : ∀ (f : Nat) (b : Int), 0 ≤ b → b + f = nb → Ko s = Ko t → (∀ b', 0 ≤ b' → b' < b → Ko (T (s * 128 + b')) = Ko (T (t * 128 + b'))) → tX7_areAlike_48 G d K p s t 1 b h := by
      intro f
      induction f with
      | zero =>
        intro b b0 bf e1 e3
        refine bX7_areAlike_48 ?_
        rw [e7]
        refine ⟨⟨by decide, by decide⟩, fun q => absurd q (by decide), fun _ => ⟨⟨by omega, by omega⟩, ⟨by omega, by omega⟩, fun _ => ⟨true, rfl, k true ⟨fun _ => ?_, fun _ => rfl⟩⟩, fun q => absurd q (by omega)⟩⟩
        rw [er]
        rintro (z | ⟨b', z0, z1, z⟩)
        · exact (hE s t hs.1 hs.2 ht.1 ht.2).mpr e1 z
        · have a := hT s b' hs.1 hs.2 z0 z1
          have c := hT t b' ht.1 ht.2 z0 z1
          exact (hE _ _ a.1 a.2 c.1 c.2).mpr (e3 b' z0 (by omega)) z
      | succ f ih =>
        intro b b0 bf e1 e3
        have a := hT s b hs.1 hs.2 b0 (by omega)
        have c := hT t b ht.1 ht.2 b0 (by omega)
        have ka := hR _ a.1 a.2
        have kc := hR _ c.1 c.2
        refine bX7_areAlike_48 ?_
        rw [e7]
        refine ⟨⟨by decide, by decide⟩, fun q => absurd q (by decide), fun _ => ⟨⟨by omega, by omega⟩, ⟨by omega, by omega⟩, fun q => absurd q (by omega), fun _ => sp_sheafStep ⟨hs.1, by omega⟩ ⟨b0, by omega⟩ ⟨?_, sp_sheafStep ⟨ht.1, by omega⟩ ⟨b0, by omega⟩ ?_⟩⟩⟩
        · rw [e2]
          omega
        · rw [e2, eK]
          refine ⟨by omega, ⟨by omega, by omega⟩, ⟨by omega, by omega⟩, fun q => fin0 _ ?_, fun q => ih (b + 1) (by omega) (by omega) e1 (fun b' z0 z1 => ?_)⟩
          · rw [er]
            refine Or.inr ⟨b, b0, by omega, Classical.byContradiction (fun z => q ((hE _ _ a.1 a.2 c.1 c.2).mp z))⟩
          · by_cases w : b' = b
            · rw [w]
              exact q
            · exact e3 b' z0 (by omega)
    have ks := hR s hs.1 hs.2
    have kt := hR t ht.1 ht.2
    rw [eK]
    refine ⟨by omega, by omega, ⟨by omega, by omega⟩, ⟨by omega, by omega⟩, fun q => fin0 _ ?_, fun q => go nb.toNat 0 (by omega) (by omega) q (fun b' z0 z1 => absurd z1 (by omega))⟩
    rw [er]
    exact Or.inl (Classical.byContradiction (fun z => q ((hE _ _ hs.1 hs.2 ht.1 ht.2).mp z)))
  · have er : r = 0 := by omega
    subst er
    refine sp_sheafTakes (by omega) (sp_sheafTakes (by omega) ?_)
    rw [e6]
    have e : bi (tb x s) = bi (tb x t) ↔ tb x s = tb x t := by
      cases tb x s <;> cases tb x t <;> simp [bi]
    rw [e]
    refine ⟨fun q => k false ⟨fun z => (by cases z), fun z => absurd (Classical.byContradiction (fun w => z w)) q⟩, fun q => k true ⟨fun _ z => z q, fun _ => rfl⟩⟩
/-- a round of the class -/
theorem sp_partSheaves {K : zH → Prop} {r : Nat} {Ko : Int → Int} (hn : 0 ≤ n ∧ n ≤ 40) (hnb : 0 ≤ nb ∧ nb ≤ 128) (hr : r ≤ 41) (e0 : h p 0 = n) (e7 : h p 7 = nb) (e6 : h p 6 = x) (e2 : h (p + 2) = T) (eK : h (p + 11) = Ko) (hT : ∀ s b, 0 ≤ s → s < n → 0 ≤ b → b < nb → 0 ≤ T (s * 128 + b) ∧ T (s * 128 + b) < n)
    (hK : ∀ r' : Nat, r = r' + 1 → (∀ s, 0 ≤ s → s < n → 0 ≤ Ko s ∧ Ko s < 40) ∧ ∀ s t, 0 ≤ s → s < n → 0 ≤ t → t < n → (¬ pd T nb (tb x) r' s t ↔ Ko s = Ko t)) (k : ∀ h' : zH, (∀ a, ¬ a = p → ¬ a = p + 8 → ¬ a = p + 9 → h' a = h a) → (∀ j, ¬ j = 10 → h' p j = h p j) → numOK (fun s t => ¬ pd T nb (tb x) r s t) n (h' p 10) (h' (p + 8)) (h' (p + 9)) → K h') : zCv G (d + 2) mX7_partSheaves [vr 7 p, vi r] h K := by
  have hv : eqv n (fun s t => ¬ pd T nb (tb x) r s t) := eqv_pd
  have l7 : ∀ (f : Nat) (s : Int) (h1 : zH), 0 ≤ s → s + f = n → (∀ a, ¬ a = p → ¬ a = p + 8 → ¬ a = p + 9 → h1 a = h a) → (∀ j, ¬ j = 10 → h1 p j = h p j) → numI (fun s t => ¬ pd T nb (tb x) r s t) s (h1 p 10) (h1 (p + 8)) (h1 (p + 9)) → (∀ c c', 0 ≤ c → c < c' → c' < h1 p 10 → ¬ ¬ pd T nb (tb x) r (h1 (p + 9) c') (h1 (p + 9) c)) → tX7_partSheaves_7 G (d + 1) K p r s h1 := by
    intro f
    induction f with
    | zero =>
      intro s h1 s0 sf g1 g2 g3 g4
      refine bX7_partSheaves_7 ?_
      rw [g2 0 (by decide), e0]
      have : s = n := by omega
      subst this
      exact ⟨⟨by omega, by omega⟩, ⟨by omega, by omega⟩, fun _ => k h1 g1 g2 ⟨g3, fun s t a b c e => numI_eq hv g3 g4 a b c e⟩, fun q => absurd q (by omega)⟩
    | succ f ih =>
      intro s h1 s0 sf g1 g2 g3 g4
      have gg := g3
      obtain ⟨m0, m1, m2, m3⟩ := gg
      have l17 : ∀ (f : Nat) (c : Int), 0 ≤ c → c + f = h1 p 10 → (∀ c', 0 ≤ c' → c' < c → pd T nb (tb x) r s (h1 (p + 9) c')) → tX7_partSheaves_17 G (d + 1) K p r s c h1 := by
        intro f2
        induction f2 with
        | zero =>
          intro c c0 cf q1
          have ec : c = h1 p 10 := by omega
          subst ec
          refine bX7_partSheaves_17 ⟨⟨by omega, by omega⟩, ⟨by omega, by omega⟩, fun _ => ⟨⟨by omega, by omega⟩, ⟨by omega, by omega⟩, fun q => absurd rfl q, fun _ => ⟨by omega, by omega, ?_⟩⟩, fun q => absurd (Int.le_refl _) q⟩
          rw [zup_ne (show ¬ p = p + 9 by omega)]
          have w10 : (zup (zup (zup h1 (p + 9) (h1 p 10) s) p 10 (h1 p 10 + 1)) (p + 8) s (h1 p 10)) p 10 = h1 p 10 + 1 := by rw [zup_ne (by omega), zup_eq]
          have w8 : (zup (zup (zup h1 (p + 9) (h1 p 10) s) p 10 (h1 p 10 + 1)) (p + 8) s (h1 p 10)) (p + 8) = fup (h1 (p + 8)) s (h1 p 10) := by rw [zup_r, zup_ne (by omega), zup_ne (by omega)]
          have w9 : (zup (zup (zup h1 (p + 9) (h1 p 10) s) p 10 (h1 p 10 + 1)) (p + 8) s (h1 p 10)) (p + 9) = fup (h1 (p + 9)) (h1 p 10) s := by rw [zup_ne (by omega), zup_ne (by omega), zup_r]
          refine ih (s + 1) _ (by omega) (by omega) (fun a a0 a8 a9 => by rw [zup_ne a8, zup_ne a0, zup_ne a9, g1 a a0 a8 a9]) (fun j j10 => by rw [zup_ne (by omega), zup_ns j10, zup_ne (by omega), g2 j j10]) ?_ ?_
          · rw [w10, w8, w9]
            refine ⟨by omega, fun t t0 t1 => ?_, fun c c0 c1 => ?_, fun c c' c0 c1 c2 => ?_⟩
            · by_cases z : t = s
              · rw [z, fup_eq, fup_eq]
                exact ⟨by omega, pd_irr, Int.le_refl _⟩
              · obtain ⟨a1, a2, a3⟩ := m1 t t0 (by omega)
                rw [fup_ne z, fup_ne (by omega)]
                exact ⟨by omega, a2, a3⟩
            · by_cases z : c = h1 p 10
              · rw [z, fup_eq, fup_eq]
                exact ⟨by omega, rfl⟩
              · obtain ⟨a1, a2⟩ := m2 c c0 (by omega)
                rw [fup_ne z, fup_ne (by omega)]
                exact ⟨by omega, a2⟩
            · rw [fup_ne (show ¬ c = h1 p 10 by omega)]
              by_cases z : c' = h1 p 10
              · rw [z, fup_eq]
                exact (m2 c c0 (by omega)).1.2
              · rw [fup_ne z]
                exact m3 c c' c0 c1 (by omega)
          · rw [w10, w9]
            intro c c' c0 c1 c2
            rw [fup_ne (show ¬ c = h1 p 10 by omega)]
            by_cases z : c' = h1 p 10
            · rw [z, fup_eq]
              exact fun w => w (q1 c c0 (by omega))
            · rw [fup_ne z]
              exact g4 c c' c0 c1 (by omega)
        | succ f2 ih2 =>
          intro c c0 cf q1
          have hc := (m2 c c0 (by omega)).1
          refine bX7_partSheaves_17 ⟨⟨by omega, by omega⟩, ⟨by omega, by omega⟩, fun q => absurd q (by omega), fun _ => ⟨by omega, sp_areAlike (n := n) hn.2 hnb hr (by rw [g2 7 (by decide), e7]) (by rw [g2 6 (by decide), e6]) (by rw [g1 (p + 2) (by omega) (by omega) (by omega), e2]) (by rw [g1 (p + 11) (by omega) (by omega) (by omega), eK]) hT ⟨s0, by omega⟩ ⟨hc.1, by omega⟩ hK (fun b hb => ⟨fun q => ?_, fun q => ?_⟩)⟩⟩
          · refine ⟨⟨by omega, by omega⟩, ⟨by omega, by omega⟩, fun _ => ⟨by omega, ?_⟩, fun z => absurd z (by omega)⟩
            have al := hb.mp q
            have w10 : (zup h1 (p + 8) s c) p = h1 p := zup_ne (by omega)
            have w8 : (zup h1 (p + 8) s c) (p + 8) = fup (h1 (p + 8)) s c := zup_r
            have w9 : (zup h1 (p + 8) s c) (p + 9) = h1 (p + 9) := zup_ne (by omega)
            refine ih (s + 1) _ (by omega) (by omega) (fun a a0 a8 a9 => by rw [zup_ne a8, g1 a a0 a8 a9]) (fun j j10 => by rw [w10, g2 j j10]) ?_ (by rw [w10, w9]; exact g4)
            rw [w10, w8, w9]
            refine ⟨by omega, fun t t0 t1 => ?_, fun c' c0' c1' => ?_, m3⟩
            · by_cases z : t = s
              · rw [z, fup_eq]
                exact ⟨by omega, al, by omega⟩
              · obtain ⟨a1, a2, a3⟩ := m1 t t0 (by omega)
                rw [fup_ne z]
                exact ⟨by omega, a2, a3⟩
            · obtain ⟨a1, a2⟩ := m2 c' c0' c1'
              rw [fup_ne (by omega)]
              exact ⟨by omega, a2⟩
          · refine ih2 (c + 1) (by omega) (by omega) (fun c' c0' c1' => ?_)
            by_cases z : c' = c
            · rw [z]
              refine Classical.byContradiction (fun w => ?_)
              have := hb.mpr w
              rw [q] at this
              cases this
            · exact q1 c' c0' (by omega)
      refine bX7_partSheaves_7 ?_
      rw [g2 0 (by decide), e0]
      exact ⟨⟨by omega, by omega⟩, ⟨by omega, by omega⟩, fun q => absurd q (by omega), fun _ => l17 (h1 p 10).toNat 0 (by omega) (by omega) (fun c' a b => absurd b (by omega))⟩
  refine eX7_partSheaves (bX7_partSheaves_0 (l7 n.toNat 0 _ (by omega) (by omega) (fun a a0 a8 a9 => zup_ne a0) (fun j j10 => zup_ns j10) ?_ ?_))
  · rw [zup_eq]
    exact ⟨by omega, fun t a b => absurd b (by omega), fun c a b => absurd b (by omega), fun c c' a b e => absurd e (by omega)⟩
  · rw [zup_eq]
    exact fun c c' a b e => absurd e (by omega)
theorem sp_noteApart {K : zH → Prop} {r : Nat} (hn : 0 ≤ n ∧ n ≤ 40) (hr : r ≤ 41) (e0 : h p 0 = n) (hk : ∀ s, 0 ≤ s → s < n → 0 ≤ h (p + 8) s ∧ h (p + 8) s < 40) (hE : ∀ s t, 0 ≤ s → s < n → 0 ≤ t → t < n → (¬ pd T nb (tb x) r s t ↔ h (p + 8) s = h (p + 8) t)) (hA : ∀ s t, 0 ≤ s → s < n → 0 ≤ t → t < n → apL T nb (tb x) r s t (h (p + 10) (s * 40 + t))) (k : ∀ h' : zH, (∀ a, ¬ a = p + 10 → h' a = h a) → (∀ s t, 0 ≤ s → s < n → 0 ≤ t → t < n → apE T nb (tb x) r s t (h' (p + 10) (s * 40 + t))) → K h') : zCv G d mX7_noteApart [vr 7 p, vi r] h K := by
  have l2 : ∀ (f : Nat) (s : Int) (h1 : zH), 0 ≤ s → s + f = n → (∀ a, ¬ a = p + 10 → h1 a = h a) → (∀ s' t, 0 ≤ s' → s' < s → 0 ≤ t → t < n → apE T nb (tb x) r s' t (h1 (p + 10) (s' * 40 + t))) → (∀ s' t, s ≤ s' → s' < n → 0 ≤ t → t < n → apL T nb (tb x) r s' t (h1 (p + 10) (s' * 40 + t))) → tX7_noteApart_2 G d K p r s h1 := by
    intro f
    induction f with
    | zero =>
      intro s h1 s0 sf g1 g2 g3
      refine bX7_noteApart_2 ?_
      rw [g1 p (by omega), e0]
      exact ⟨⟨by omega, by omega⟩, ⟨by omega, by omega⟩, fun _ => k h1 g1 (fun s' t a b c e => g2 s' t a (by omega) c e), fun q => absurd q (by omega)⟩
    | succ f ih =>
      intro s h1 s0 sf g1 g2 g3
      have l12 : ∀ (f : Nat) (t : Int) (h2 : zH), 0 ≤ t → t + f = n → (∀ a, ¬ a = p + 10 → h2 a = h a) → (∀ s' t', 0 ≤ s' → s' < n → 0 ≤ t' → t' < n → s' * 40 + t' < s * 40 + t → apE T nb (tb x) r s' t' (h2 (p + 10) (s' * 40 + t'))) → (∀ s' t', 0 ≤ s' → s' < n → 0 ≤ t' → t' < n → s * 40 + t ≤ s' * 40 + t' → apL T nb (tb x) r s' t' (h2 (p + 10) (s' * 40 + t'))) → tX7_noteApart_12 G d K p r s t h2 := by
        intro f2
        induction f2 with
        | zero =>
          intro t h2 t0 tf q1 q2 q3
          refine bX7_noteApart_12 ?_
          rw [q1 p (by omega), e0]
          exact ⟨⟨by omega, by omega⟩, ⟨by omega, by omega⟩, fun _ => ih (s + 1) h2 (by omega) (by omega) q1 (fun s' t' a b c e => q2 s' t' a (by omega) c e (by omega)) (fun s' t' a b c e => q3 s' t' (by omega) b c e (by omega)), fun q => absurd q (by omega)⟩
        | succ f2 ih2 =>
          intro t h2 t0 tf q1 q2 q3
          have old := q3 s t s0 (by omega) t0 (by omega) (Int.le_refl _)
          have rg := apL_rg old
          have ks := hk s s0 (by omega)
          have kt := hk t t0 (by omega)
          have keep : apE T nb (tb x) r s t (h2 (p + 10) (s * 40 + t)) → tX7_noteApart_12 G d K p r s (t + 1) h2 := fun w => by
            refine ih2 (t + 1) h2 (by omega) (by omega) q1 (fun s' t' a b c e z => ?_) (fun s' t' a b c e z => q3 s' t' a b c e (by omega))
            by_cases y : s' * 40 + t' = s * 40 + t
            · have y1 : s' = s := by omega
              have y2 : t' = t := by omega
              subst y1 y2
              exact w
            · exact q2 s' t' a b c e (by omega)
          refine bX7_noteApart_12 ?_
          rw [q1 p (by omega), q1 (p + 8) (by omega), e0]
          refine ⟨⟨by omega, by omega⟩, ⟨by omega, by omega⟩, fun q => absurd q (by omega), fun _ => ⟨by omega, by omega, ⟨by omega, by omega⟩, ⟨by omega, by omega⟩, fun q => keep (apL_no old ((hE s t s0 (by omega) t0 (by omega)).mpr q)), fun q => ⟨⟨by omega, by omega⟩, ⟨by omega, by omega⟩, fun z => keep (apL_old old z), fun zz => ⟨⟨by omega, by omega⟩, ?_⟩⟩⟩⟩
          refine ih2 (t + 1) _ (by omega) (by omega) (fun a w => by rw [zup_ne w, q1 a w]) (fun s' t' a b c e z => ?_) (fun s' t' a b c e z => by rw [zup_ns (by omega)]; exact q3 s' t' a b c e (by omega))
          by_cases y : s' * 40 + t' = s * 40 + t
          · have y1 : s' = s := by omega
            have y2 : t' = t := by omega
            subst y1 y2
            rw [zup_eq]
            exact apL_new old zz (Classical.byContradiction (fun w => q ((hE s' t' s0 (by omega) t0 (by omega)).mp w)))
          · rw [zup_ns y]
            exact q2 s' t' a b c e (by omega)
      refine bX7_noteApart_2 ?_
      rw [g1 p (by omega), e0]
      exact ⟨⟨by omega, by omega⟩, ⟨by omega, by omega⟩, fun q => absurd q (by omega), fun _ => l12 n.toNat 0 h1 (by omega) (by omega) g1 (fun s' t' a b c e z => g2 s' t' a (by omega) c e) (fun s' t' a b c e z => g3 s' t' (by omega) b c e)⟩
  exact eX7_noteApart (bX7_noteApart_0 (l2 n.toNat 0 h (by omega) (by omega) (fun _ _ => rfl) (fun s' t a b c e => absurd b (by omega)) (fun s' t a b c e => hA s' t a b c e)))
theorem sp_findClasses {K : zH → Prop} (hn : 1 ≤ n ∧ n ≤ 40) (hnb : 0 ≤ nb ∧ nb ≤ 128) (hl : zln (p + 10) = 1600) (e0 : h p 0 = n) (e7 : h p 7 = nb) (e6 : h p 6 = x) (e2 : h (p + 2) = T) (hT : ∀ s b, 0 ≤ s → s < n → 0 ≤ b → b < nb → 0 ≤ T (s * 128 + b) ∧ T (s * 128 + b) < n) (k : ∀ (h' : zH) (R : Nat), (∀ a, ¬ a = p → ¬ (p + 8 ≤ a ∧ a ≤ p + 11) → h' a = h a) → (∀ j, ¬ j = 10 → ¬ j = 15 → h' p j = h p j) → h' p 15 = R → clOK n T nb (tb x) R (h' p 10) (h' (p + 8)) (h' (p + 9)) (h' (p + 10)) → K h') : zCv G (d + 3) mX7_findClasses [vr 7 p] h K := by
  have l22 : ∀ (f : Nat) (r : Nat) (h1 : zH), r + f = 41 → (∀ a, ¬ a = p → ¬ (p + 8 ≤ a ∧ a ≤ p + 11) → h1 a = h a) → (∀ j, ¬ j = 10 → ¬ j = 15 → h1 p j = h p j) → (∀ s t, 0 ≤ s → s < n → 0 ≤ t → t < n → apL T nb (tb x) r s t (h1 (p + 10) (s * 40 + t))) → (r : Int) + 1 ≤ h1 p 10 ∧ h1 p 10 ≤ 40 → ((r = 0 ∧ h1 p 10 = 1 ∧ h1 p 15 = 0) ∨ ∃ r' : Nat, r = r' + 1 ∧ h1 p 15 = r' ∧ numOK (fun s t => ¬ pd T nb (tb x) r' s t) n (h1 p 10) (h1 (p + 8)) (h1 (p + 9)) ∧ ∀ q : Nat, q < r' → ∃ s t, (0 ≤ s ∧ s < n) ∧ (0 ≤ t ∧ t < n) ∧ pd T nb (tb x) (q + 1) s t ∧ ¬ pd T nb (tb x) q s t) → tX7_findClasses_22 G (d + 2) K p 1 r h1 := by
    intro f
    induction f with
    | zero => exact fun r h1 rf g1 g2 g3 g4 g5 => absurd g4 (by omega)
    | succ f ih =>
      intro r h1 rf g1 g2 g3 g4 g5
      refine bX7_findClasses_22 ⟨⟨by decide, by decide⟩, fun q => absurd q (by decide), fun _ => ⟨⟨by omega, by omega⟩, fun q => absurd q (by omega), fun _ => ?_⟩⟩
      have cne : ∀ a, ¬ a = p + 11 → zcp h1 (p + 8) (p + 11) 40 a = h1 a := fun a q => zcp_ne q
      have c11 : ∀ s, 0 ≤ s → s < n → zcp h1 (p + 8) (p + 11) 40 (p + 11) s = h1 (p + 8) s := fun s a b => zcp_eq a (by omega)
      generalize zcp h1 (p + 8) (p + 11) 40 = hc at cne c11 ⊢
      refine sp_partSheaves (n := n) (nb := nb) (x := x) (T := T) (Ko := hc (p + 11)) (by omega) hnb (by omega) (by rw [cne p (by omega), g2 0 (by decide) (by decide), e0]) (by rw [cne p (by omega), g2 7 (by decide) (by decide), e7]) (by rw [cne p (by omega), g2 6 (by decide) (by decide), e6]) (by rw [cne (p + 2) (by omega), g1 (p + 2) (by omega) (by omega), e2]) rfl hT (fun r' er => ?_) (fun h2 f1 f2 f3 => ?_)
      · rcases g5 with ⟨z, -⟩ | ⟨r2, er2, -, nm, -⟩
        · omega
        · have : r2 = r' := by omega
          subst this
          refine ⟨fun s a b => ?_, fun s t a b c e => ?_⟩
          · rw [c11 s a b]
            have := (nm.1.2.1 s a b).1
            omega
          · rw [c11 s a b, c11 t c e]
            exact nm.2 s t a b c e
      · have hC2 := f3.1.1
        have fr2 : ∀ a, ¬ a = p → ¬ (p + 8 ≤ a ∧ a ≤ p + 11) → h2 a = h a := fun a q1 q2 => by rw [f1 a q1 (by omega) (by omega), cne a (by omega), g1 a q1 q2]
        have fp2 : ∀ j, ¬ j = 10 → ¬ j = 15 → h2 p j = h p j := fun j q1 q2 => by rw [f2 j q1, cne p (by omega), g2 j q1 q2]
        have f15 : h2 p 15 = h1 p 15 := by rw [f2 15 (by decide), cne p (by omega)]
        have f10 : h2 (p + 10) = h1 (p + 10) := by rw [f1 (p + 10) (by omega) (by omega) (by omega), cne (p + 10) (by omega)]
        refine ⟨⟨by omega, by omega⟩, ⟨by omega, by omega⟩, fun le => ?_, fun gt => ?_⟩
        · refine bX7_findClasses_22 ⟨⟨by decide, by decide⟩, fun _ => ?_, fun q => absurd rfl q⟩
          rcases g5 with ⟨z, c1, l0⟩ | ⟨r', er, l15, nm, st⟩
          · subst z
            have all : ∀ s t, 0 ≤ s → s < n → 0 ≤ t → t < n → ¬ pd T nb (tb x) 0 s t := fun s t a b c e => by
              refine (f3.2 s t a b c e).mpr ?_
              have := (f3.1.2.1 s a b).1
              have := (f3.1.2.1 t c e).1
              omega
            refine k h2 0 fr2 fp2 (by rw [f15, l0]; rfl) ⟨fun s t a b c e q => ?_, fun q hq => absurd hq (by omega), f3, fun s t a b c e => ?_, by omega⟩
            · rcases q with q | ⟨b', z0, z1, q⟩
              · exact q
              · have w1 := hT s b' a b z0 z1
                have w2 := hT t b' c e z0 z1
                exact absurd q (all _ _ w1.1 w1.2 w2.1 w2.2)
            · rw [f10]
              exact apL_no (g3 s t a b c e) (all s t a b c e)
          · subst er
            have sm := (num_le nm f3 (fun s t a b c e q z => q (pd_up z))).2 le
            refine k h2 r' fr2 fp2 (by rw [f15, l15]) ⟨fun s t a b c e q => ?_, st, numOK_iff (fun s t a b c e => ⟨fun q z => q (pd_up z), fun q => sm s t a b c e q⟩) f3, fun s t a b c e => ?_, by omega⟩
            · exact Classical.byContradiction (fun z => sm s t a b c e z q)
            · rw [f10]
              exact apL_to (g3 s t a b c e)
        · have z15 : ∀ a, ¬ a = p → (zup h2 p 15 r) a = h2 a := fun a q => zup_ne q
          have z15p : ∀ j, ¬ j = 15 → (zup h2 p 15 r) p j = h2 p j := fun j q => zup_ns q
          have z15e : (zup h2 p 15 r) p 15 = r := zup_eq
          generalize zup h2 p 15 r = h3 at z15 z15p z15e ⊢
          refine sp_noteApart (n := n) (nb := nb) (x := x) (T := T) (by omega) (by omega) (by rw [z15p 0 (by decide), fp2 0 (by decide) (by decide), e0]) (fun s a b => ?_) (fun s t a b c e => ?_) (fun s t a b c e => ?_) (fun h4 v1 v2 => ?_)
          · rw [z15 (p + 8) (by omega)]
            have := (f3.1.2.1 s a b).1
            omega
          · rw [z15 (p + 8) (by omega)]
            exact f3.2 s t a b c e
          · rw [z15 (p + 10) (by omega), f10]
            exact g3 s t a b c e
          · have v10 : h4 p 10 = h2 p 10 := by rw [v1 p (by omega), z15p 10 (by decide)]
            have vp : ∀ j, h4 p j = h3 p j := fun j => by rw [v1 p (by omega)]
            have := ih (r + 1) h4 (by omega) (fun a q1 q2 => by rw [v1 a (by omega), z15 a q1, fr2 a q1 q2]) (fun j q1 q2 => by rw [vp, z15p j q2, fp2 j q1 q2]) (fun s t a b c e => apL_of (v2 s t a b c e)) (by rw [v10]; omega) (Or.inr ⟨r, rfl, by rw [vp, z15e], ?_, fun q hq => ?_⟩)
            · rw [show ((r + 1 : Nat) : Int) = (r : Int) + 1 by omega] at this
              exact this
            · rw [v10, v1 (p + 8) (by omega), v1 (p + 9) (by omega), z15 (p + 8) (by omega), z15 (p + 9) (by omega)]
              exact f3
            · rcases g5 with ⟨z, -⟩ | ⟨r', er, l15, nm, st⟩
              · omega
              · by_cases w : q < r'
                · exact st q w
                · have eq : q = r' := by omega
                  subst eq
                  refine Classical.byContradiction (fun no => gt ?_)
                  have same : ∀ s t, 0 ≤ s → s < n → 0 ≤ t → t < n → ¬ pd T nb (tb x) q s t → ¬ pd T nb (tb x) r s t := fun s t a b c e h1 h2 => by
                    rw [er] at h2
                    exact no ⟨s, t, ⟨a, b⟩, ⟨c, e⟩, h2, h1⟩
                  exact (num_le f3 nm (fun s t a b c e => same s t a b c e)).1
  refine eX7_findClasses (bX7_findClasses_0 (sp_fillI (fun h2 f1 f2 => ?_)))
  have z0 : ∀ a, ¬ a = p → (zup (zup h2 p 10 1) p 15 0) a = h2 a := fun a q => by rw [zup_ne q, zup_ne q]
  have zp : ∀ j, ¬ j = 10 → ¬ j = 15 → (zup (zup h2 p 10 1) p 15 0) p j = h2 p j := fun j q1 q2 => by rw [zup_ns q2, zup_ns q1]
  have z10 : (zup (zup h2 p 10 1) p 15 0) p 10 = 1 := by rw [zup_ns (by decide), zup_eq]
  have z15 : (zup (zup h2 p 10 1) p 15 0) p 15 = 0 := zup_eq
  generalize zup (zup h2 p 10 1) p 15 0 = h3 at z0 zp z10 z15 ⊢
  refine l22 41 0 h3 (by omega) (fun a q1 q2 => by rw [z0 a q1, f1 a (by omega)]) (fun j q1 q2 => by rw [zp j q1 q2, f1 p (by omega)]) (fun s t a b c e => Or.inl ⟨?_, fun q hq => absurd hq (by omega)⟩) (by omega) (Or.inl ⟨rfl, z10, z15⟩)
  rw [z0 (p + 10) (by omega)]
  exact f2 _ (by omega) (by omega)
end SU
