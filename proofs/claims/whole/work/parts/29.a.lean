/-! ===== minterms: the class's groups ===== -/
/-- two blocks are in just the same of the first edges from a state -/
def lk (D : zH) (q : Int) (e0 b c : Int) : Prop := ∀ e, 0 ≤ e → e < e0 → D 1 e = q → dEH D e b = dEH D e c
theorem lk_eqv {D : zH} {q e0 n : Int} : eqv n (lk D q e0) := ⟨fun _ _ _ _ _ _ _ => rfl, fun _ _ _ _ _ _ h e a b c => (h e a b c).symm, fun _ _ _ _ _ _ _ _ _ h1 h2 e a b c => (h1 e a b c).trans (h2 e a b c)⟩
theorem lk_s {D : zH} {q e0 b c : Int} (h0 : 0 ≤ e0) (hq : D 1 e0 = q) : lk D q (e0 + 1) b c ↔ lk D q e0 b c ∧ dEH D e0 b = dEH D e0 c := by
  constructor
  · intro h
    exact ⟨fun e a x y => h e a (by omega) y, h e0 h0 (by omega) hq⟩
  · rintro ⟨h, h2⟩ e a x y
    by_cases z : e = e0
    · rw [z]
      exact h2
    · exact h e a (by omega) y
theorem lk_n {D : zH} {q e0 b c : Int} (hq : ¬ D 1 e0 = q) : lk D q (e0 + 1) b c ↔ lk D q e0 b c := by
  constructor
  · intro h e a x y
    exact h e a (by omega) y
  · intro h e a x y
    by_cases z : e = e0
    · rw [z] at y
      exact absurd y hq
    · exact h e a (by omega) y
theorem bi_rg (b : Bool) : 0 ≤ bi b ∧ bi b ≤ 1 := by cases b <;> decide
theorem bi_inj {a b : Bool} : bi a = bi b ↔ a = b := by cases a <;> cases b <;> simp [bi]
section CZ
variable {G : zG} {d : Nat} {h D : zH}
theorem sp_partBy {K : zH → Prop} {m e q : Int} {Ki He : Int → Int} (mc : mcell m) (hD : mOK D) (hr : cRep h m D) (he : 0 ≤ e ∧ e < D 0 2) (hq : D 1 e = q) (nm : numOK (lk D q e) (D 0 4) (h 244 2) Ki He) (hk : ∀ b, 0 ≤ b → b < D 0 4 → h 245 b = Ki b) (k : ∀ (h' : zH) (He' : Int → Int), (∀ a, ¬ (244 ≤ a ∧ a ≤ 246) → h' a = h a) → numOK (lk D q (e + 1)) (D 0 4) (h' 244 2) (h' 245) He' → K h') : zCv G (d + 1) mX5_partBy [vr 5 244, vr 4 m, vi e] h K := by
  have hB := mO_bl hD
  have C0 := nm.1.1
  unfold mcell at mc
  have ks : ∀ b, 0 ≤ b → b < D 0 4 → 0 ≤ Ki b ∧ Ki b < D 0 4 := fun b x y => by
    have := (nm.1.2.1 b x y).1
    omega
  have ek : ∀ b c, 0 ≤ b → b < D 0 4 → 0 ≤ c → c < D 0 4 → (lk D q (e + 1) b c ↔ 2 * Ki b + bi (dEH D e b) = 2 * Ki c + bi (dEH D e c)) := fun b c b0 b1 c0 c1 => by
    rw [lk_s he.1 hq, nm.2 b c b0 b1 c0 c1, ← bi_inj]
    have r1 := bi_rg (dEH D e b)
    have r2 := bi_rg (dEH D e c)
    omega
  have go : ∀ (f b : Nat) (h1 : zH) (He' : Int → Int), (b : Int) + f = D 0 4 → (∀ a, ¬ (244 ≤ a ∧ a ≤ 246) → h1 a = h a) → numI (lk D q (e + 1)) b (h1 244 2) (h1 245) He' → (∀ c c', 0 ≤ c → c < c' → c' < h1 244 2 → ¬ lk D q (e + 1) (He' c') (He' c)) → (∀ t, (b : Int) ≤ t → t < D 0 4 → h1 245 t = Ki t) → (∀ y, 0 ≤ y → y < 256 → (h1 246 y = -1 ∧ ∀ t, 0 ≤ t → t < (b : Int) → ¬ 2 * Ki t + bi (dEH D e t) = y) ∨ ∃ t, 0 ≤ t ∧ t < (b : Int) ∧ 2 * Ki t + bi (dEH D e t) = y ∧ h1 246 y = h1 245 t) → tX5_partBy_15 G d K m e b h1 := by
    intro f
    induction f with
    | zero =>
      intro b h1 He' hb g1 g2 g3 g4 g5
      have eb : (b : Int) = D 0 4 := by omega
      refine bX5_partBy_15 ?_
      rw [g1 m (by omega), hr.1.2.2.2.2]
      rw [eb] at g2
      exact ⟨⟨by omega, by omega⟩, ⟨by omega, by omega⟩, fun _ => k h1 He' g1 ⟨g2, fun s t a b c e => numI_eq lk_eqv g2 g3 a b c e⟩, fun z => absurd z (by omega)⟩
    | succ f ih =>
      intro b h1 He' hb g1 g2 g3 g4 g5
      have cr : cRep h1 m D := cRep_fr (fun a x y => g1 a (by omega)) hr
      obtain ⟨n0, n1, n2, n3⟩ := g2
      have kb2 := ks b (by omega) (by omega)
      have r1 := bi_rg (dEH D e b)
      have gb := g4 b (Int.le_refl _) (by omega)
      -- what follows, by the key of b
      have step : ∀ y, y = 2 * Ki b + bi (dEH D e b) → (0 ≤ y ∧ y < 256) ∧ zR (h1 246 y) ∧ (¬ h1 246 y = -1 → (0 ≤ y ∧ y < 256) ∧ (0 ≤ (b : Int) ∧ (b : Int) < 128) ∧ tX5_partBy_15 G d K m e ((b : Int) + 1) (zup h1 245 b (h1 246 y))) ∧ (h1 246 y = -1 → (0 ≤ y ∧ y < 256) ∧ (0 ≤ y ∧ y < 256) ∧ (0 ≤ (b : Int) ∧ (b : Int) < 128) ∧ tX5_partBy_15 G d K m e ((b : Int) + 1) (zup (zup (zup h1 246 y (h1 244 2)) 244 2 (h1 244 2 + 1)) 245 b (h1 244 2))) := by
        intro y ey
        have yr : 0 ≤ y ∧ y < 256 := by omega
        have g5y := g5 y yr.1 yr.2
        have zr : zR (h1 246 y) := by
          rcases g5y with ⟨z, -⟩ | ⟨t, t0, t1, t2, t3⟩
          · rw [z]
            exact ⟨by decide, by decide⟩
          · have := (n1 t t0 t1).1
            rw [t3]
            exact ⟨by omega, by omega⟩
        refine ⟨yr, zr, fun z => ⟨yr, by omega, ?_⟩, fun z => ⟨yr, yr, by omega, ?_⟩⟩
        · rcases g5y with ⟨w, -⟩ | ⟨t, t0, t1, t2, t3⟩
          · exact absurd w z
          · have al : lk D q (e + 1) b t := (ek b t (by omega) (by omega) t0 (by omega)).mpr (by omega)
            obtain ⟨k1, k2, k3⟩ := n1 t t0 t1
            have hh := (n2 _ k1.1 k1.2).1
            have w44 : (zup h1 245 b (h1 246 y)) 244 = h1 244 := zup_ne (by decide)
            have w45 : (zup h1 245 b (h1 246 y)) 245 = fup (h1 245) b (h1 246 y) := zup_r
            have w46 : (zup h1 245 b (h1 246 y)) 246 = h1 246 := zup_ne (by decide)
            have := ih (b + 1) (zup h1 245 b (h1 246 y)) He' (by omega) (fun a z => by rw [zup_ne (by omega), g1 a z]) ?_ ?_ (fun u u0 u1 => ?_) (fun v v0 v1 => ?_)
            · rw [show ((b + 1 : Nat) : Int) = (b : Int) + 1 by omega] at this
              exact this
            · rw [w44, w45]
              refine ⟨by omega, fun u u0 u1 => ?_, fun c c0 c1 => ?_, n3⟩
              · by_cases x : u = b
                · rw [x, fup_eq, t3]
                  refine ⟨k1, ?_, by omega⟩
                  exact (lk_eqv (n := D 0 4)).2.2 b t _ (by omega) (by omega) t0 (by omega) hh.1 (by omega) al k2
                · rw [fup_ne x]
                  exact n1 u u0 (by omega)
              · obtain ⟨x1, x2⟩ := n2 c c0 c1
                rw [fup_ne (by omega)]
                exact ⟨by omega, x2⟩
            · rw [w44]
              exact g3
            · rw [w45, fup_ne (by omega)]
              exact g4 u (by omega) u1
            · rw [w45, w46]
              rcases g5 v v0 v1 with ⟨x1, x2⟩ | ⟨u, u0, u1, u2, u3⟩
              · by_cases x : v = y
                · rw [x] at x1
                  exact absurd x1 z
                · refine Or.inl ⟨x1, fun u u0 u1 => ?_⟩
                  by_cases x3 : u = b
                  · rw [x3, ← ey]
                    omega
                  · exact x2 u u0 (by omega)
              · exact Or.inr ⟨u, u0, by omega, u2, by rw [fup_ne (by omega)]; exact u3⟩
        · have none : ∀ t, 0 ≤ t → t < (b : Int) → ¬ lk D q (e + 1) b t := fun t t0 t1 al => by
            have kk := (ek b t (by omega) (by omega) t0 (by omega)).mp al
            rcases g5y with ⟨-, w⟩ | ⟨u, u0, u1, u2, u3⟩
            · exact w t t0 t1 (by omega)
            · have := (n1 u u0 u1).1
              rw [z] at u3
              omega
          have w44 : (zup (zup (zup h1 246 y (h1 244 2)) 244 2 (h1 244 2 + 1)) 245 b (h1 244 2)) 244 2 = h1 244 2 + 1 := by rw [zup_ne (by decide), zup_eq]
          have w45 : (zup (zup (zup h1 246 y (h1 244 2)) 244 2 (h1 244 2 + 1)) 245 b (h1 244 2)) 245 = fup (h1 245) b (h1 244 2) := by rw [zup_r, zup_ne (by decide), zup_ne (by decide)]
          have w46 : (zup (zup (zup h1 246 y (h1 244 2)) 244 2 (h1 244 2 + 1)) 245 b (h1 244 2)) 246 = fup (h1 246) y (h1 244 2) := by rw [zup_ne (by decide), zup_ne (by decide), zup_r]
          have := ih (b + 1) (zup (zup (zup h1 246 y (h1 244 2)) 244 2 (h1 244 2 + 1)) 245 b (h1 244 2)) (fup He' (h1 244 2) b) (by omega) (fun a z => by rw [zup_ne (by omega), zup_ne (by omega), zup_ne (by omega), g1 a z]) ?_ ?_ (fun u u0 u1 => ?_) (fun v v0 v1 => ?_)
          · rw [show ((b + 1 : Nat) : Int) = (b : Int) + 1 by omega] at this
            exact this
          · rw [w44, w45]
            refine ⟨by omega, fun u u0 u1 => ?_, fun c c0 c1 => ?_, fun c c' c0 c1 c2 => ?_⟩
            · by_cases x : u = b
              · rw [x, fup_eq, fup_eq]
                exact ⟨by omega, fun _ _ _ _ => rfl, Int.le_refl _⟩
              · obtain ⟨x1, x2, x3⟩ := n1 u u0 (by omega)
                rw [fup_ne x, fup_ne (by omega)]
                exact ⟨by omega, x2, x3⟩
            · by_cases x : c = h1 244 2
              · rw [x, fup_eq, fup_eq]
                exact ⟨by omega, rfl⟩
              · obtain ⟨x1, x2⟩ := n2 c c0 (by omega)
                rw [fup_ne x, fup_ne (by omega)]
                exact ⟨by omega, x2⟩
            · rw [fup_ne (show ¬ c = h1 244 2 by omega)]
              by_cases x : c' = h1 244 2
              · rw [x, fup_eq]
                exact (n2 c c0 (by omega)).1.2
              · rw [fup_ne x]
                exact n3 c c' c0 c1 (by omega)
          · rw [w44]
            intro c c' c0 c1 c2
            rw [fup_ne (show ¬ c = h1 244 2 by omega)]
            by_cases x : c' = h1 244 2
            · rw [x, fup_eq]
              have := (n2 c c0 (by omega)).1
              exact none _ this.1 this.2
            · rw [fup_ne x]
              exact g3 c c' c0 c1 (by omega)
          · rw [w45, fup_ne (by omega)]
            exact g4 u (by omega) u1
          · rw [w45, w46]
            by_cases x : v = y
            · rw [x, fup_eq]
              exact Or.inr ⟨b, by omega, by omega, ey.symm, fup_eq.symm⟩
            · rw [fup_ne x]
              rcases g5 v v0 v1 with ⟨x1, x2⟩ | ⟨u, u0, u1, u2, u3⟩
              · refine Or.inl ⟨x1, fun u u0 u1 => ?_⟩
                by_cases x3 : u = b
                · rw [x3, ← ey]
                  omega
                · exact x2 u u0 (by omega)
              · exact Or.inr ⟨u, u0, by omega, u2, by rw [fup_ne (by omega)]; exact u3⟩
      refine bX5_partBy_15 ?_
      rw [cr.1.2.2.2.2, gb]
      refine ⟨⟨by omega, by omega⟩, ⟨by omega, by omega⟩, fun z => absurd z (by omega), fun _ => ⟨by omega, sp_edgeHas hD cr he (by omega) ⟨fun z => step _ ?_, fun z => step _ ?_⟩⟩⟩
      · rw [z]
        rfl
      · rw [z]
        rfl
  refine eX5_partBy (bX5_partBy_0 (sp_fillI (fun h2 f1 f2 => ?_)))
  have w44 : (zup h2 244 2 0) 244 2 = 0 := zup_eq
  refine go (D 0 4).toNat 0 _ He (by omega) (fun a z => by rw [zup_ne (by omega), f1 a (by omega)]) ?_ ?_ (fun t t0 t1 => ?_) (fun y y0 y1 => Or.inl ⟨?_, fun t a b => absurd b (by omega)⟩)
  · rw [w44]
    exact ⟨by omega, fun t a b => absurd b (by omega), fun c a b => absurd b (by omega), fun c c' a b e => absurd e (by omega)⟩
  · rw [w44]
    exact fun c c' a b e => absurd e (by omega)
  · rw [zup_ne (by decide), f1 245 (by decide)]
    exact hk t (by omega) t1
  · rw [zup_ne (by decide)]
    exact f2 y y0 (by rw [zl_246]; exact y1)
theorem sp_group {K : zH → Prop} {m q : Int} (mc : mcell m) (hD : mOK D) (hr : cRep h m D) (hq : 0 ≤ q ∧ q < D 0 0) (k : ∀ (h' : zH) (He : Int → Int), (∀ a, ¬ (244 ≤ a ∧ a ≤ 246) → h' a = h a) → numOK (lk D q (D 0 2)) (D 0 4) (h' 244 2) (h' 245) He → K h') : zCv G (d + 2) mX5_group [vr 5 244, vr 4 m, vi q] h K := by
  have hB := mO_bl hD
  have hE := mO_ed hD
  have hS := mO_st hD
  have mc2 := mc
  unfold mcell at mc2
  have go : ∀ (f : Nat) (e : Int) (h1 : zH) (He : Int → Int), 0 ≤ e → e + f = D 0 2 → (∀ a, ¬ (244 ≤ a ∧ a ≤ 246) → h1 a = h a) → numOK (lk D q e) (D 0 4) (h1 244 2) (h1 245) He → tX5_group_15 G (d + 1) K m q e h1 := by
    intro f
    induction f with
    | zero =>
      intro e h1 He e0 ef g1 g2
      have cr : cRep h1 m D := cRep_fr (fun a x y => g1 a (by omega)) hr
      refine bX5_group_15 ?_
      rw [cr.1.2.2.1]
      have ee : e = D 0 2 := by omega
      subst ee
      exact ⟨⟨by omega, by omega⟩, ⟨by omega, by omega⟩, fun _ => k h1 He g1 g2, fun z => absurd (Int.le_refl _) z⟩
    | succ f ih =>
      intro e h1 He e0 ef g1 g2
      have cr : cRep h1 m D := cRep_fr (fun a x y => g1 a (by omega)) hr
      have oe := mO_e hD e0 (show e < D 0 2 by omega)
      refine bX5_group_15 ?_
      rw [cr.1.2.2.1, (cr.2.1 e e0 (by omega)).1]
      refine ⟨⟨by omega, by omega⟩, ⟨by omega, by omega⟩, fun z => absurd z (by omega), fun _ => ⟨by omega, ⟨by omega, by omega⟩, ⟨by omega, by omega⟩, fun z => ih (e + 1) h1 He (by omega) (by omega) g1 (numOK_iff (fun s t a b c x => (lk_n z).symm) g2), fun z => sp_partBy mc hD cr ⟨e0, by omega⟩ z g2 (fun _ _ _ => rfl) (fun h2 He' f1 f2 => ih (e + 1) h2 He' (by omega) (by omega) (fun a y => by rw [f1 a y, g1 a y]) f2)⟩⟩
  refine eX5_group (bX5_group_0 (sp_fillI (fun h2 f1 f2 => ?_)))
  have z0 : ∀ b, 0 ≤ b → b < D 0 4 → (zup h2 244 2 1) 245 b = 0 := fun b x y => by
    rw [zup_ne (by decide)]
    exact f2 b x (by rw [zl_245]; omega)
  refine go (D 0 2).toNat 0 _ (fun _ => 0) (by omega) (by omega) (fun a z => by rw [zup_ne (by omega), f1 a (by omega)]) ?_
  rw [zup_eq]
  refine ⟨⟨by omega, fun t t0 t1 => ?_, fun c c0 c1 => ?_, fun c c' a b e => absurd e (by omega)⟩, fun s t a b c e => ?_⟩
  · rw [z0 t t0 t1]
    exact ⟨by omega, fun e a b => absurd b (by omega), t0⟩
  · refine ⟨⟨Int.le_refl _, by show (0 : Int) < _; omega⟩, ?_⟩
    show (zup h2 244 2 1) 245 0 = c
    rw [z0 0 (by omega) (by omega)]
    omega
  · rw [z0 s a b, z0 t c e]
    exact ⟨fun _ => rfl, fun _ e a b => absurd b (by omega)⟩
end CZ
