/-! ===== closures and targets of the class, steps of the model ===== -/
def dSt (D : zH) (S : Int → Prop) (b p : Int) : Prop := ∃ e, 0 ≤ e ∧ e < D 0 2 ∧ S (D 1 e) ∧ dEH D e b = true ∧ dCl D (fun q => q = D 2 e) p
theorem dSt_iff {D : zH} {S : Int → Prop} {b p : Int} {P : Int → Prop} (hP : ∀ q, P q ↔ ∃ e, 0 ≤ e ∧ e < D 0 2 ∧ S (D 1 e) ∧ dEH D e b = true ∧ q = D 2 e) : dCl D P p ↔ dSt D S b p := by
  constructor
  · intro c
    obtain ⟨q, a, b⟩ := dClk_un.mp c
    obtain ⟨e, e0, e1, e2, e3, e4⟩ := (hP q).mp a
    exact ⟨e, e0, e1, e2, e3, by rw [← e4]; exact b⟩
  · rintro ⟨e, e0, e1, e2, e3, e4⟩
    exact dClk_un.mpr ⟨D 2 e, (hP _).mpr ⟨e, e0, e1, e2, e3, rfl⟩, e4⟩
theorem dSt_rg {D : zH} (hD : mOK D) {S : Int → Prop} {b p : Int} (h : dSt D S b p) : 0 ≤ p ∧ p < 64 := by
  obtain ⟨e, e0, e1, e2, e3, e4⟩ := h
  refine dClk_rg hD (Int.le_refl _) (fun q c => ?_) e4
  have := (mO_e hD e0 e1).2.1
  have := mO_st hD
  omega
theorem zbit_u0 {x k : Int} (h0 : 0 ≤ k) (h1 : k < 64) : zcmp (zland (zlushr x k) 1) 0 = 0 ↔ tb x k = false := by
  rw [(zcmp_lt (zland_R _ _) zRL_0).2.1]
  have e : ∀ j, 0 ≤ j → j < 64 → tb (zland (zlushr x k) 1) j = (tb x (k + j) && decide (j = 0)) := fun j a b => by rw [tb_land, tb_lushr h0 h1 a, tb_1 a]
  constructor
  · intro q
    have := e 0 (by omega) (by omega)
    rw [q, tb_0, Int.add_zero, decide_eq_true rfl, Bool.and_true] at this
    exact this.symm
  · intro q
    refine tb_ext (zland_R _ _) zRL_0 (fun j a b => ?_)
    rw [e j a b, tb_0]
    by_cases c : j = 0
    · subst c
      rw [Int.add_zero, q]
      rfl
    · rw [decide_eq_false c, Bool.and_false]
theorem zln_nn (r : Int) : 0 ≤ zln r := Int.natCast_nonneg _
section SQ
variable {G : zG} {d : Nat} {h D : zH}
theorem sp_fillL {K : zH → Prop} {r v : Int} (k : ∀ h' : zH, (∀ a, ¬ a = r → h' a = h a) → (∀ j, 0 ≤ j → j < zln r → h' r j = v) → K h') : zCv G d mJ7_fill_d0a16 [vr 14 r, vl v] h K := by
  have hz := zR_zln r
  have hz2 := zln_nn r
  have go : ∀ (f : Nat) (j : Int) (h1 : zH), 0 ≤ j → j + f = zln r → (∀ a, ¬ a = r → h1 a = h a) → (∀ i, 0 ≤ i → i < j → h1 r i = v) → tJ7_fill_d0a16_6 G d K r v j (zln r) h1 := by
    intro f
    induction f with
    | zero => exact fun j h1 j0 jf e1 e2 => bJ7_fill_d0a16_6 ⟨⟨by omega, by omega⟩, hz, fun _ => k h1 e1 (fun i a b => e2 i a (by omega)), fun q => absurd q (by omega)⟩
    | succ f ih =>
      intro j h1 j0 jf e1 e2
      refine bJ7_fill_d0a16_6 ⟨⟨by have := hz.2; omega, by have := hz.2; omega⟩, hz, fun q => absurd q (by omega), fun _ => ⟨⟨j0, by omega⟩, ih (j + 1) _ (by omega) (by omega) (fun a q => by rw [zup_ne q, e1 a q]) (fun i a b => ?_)⟩⟩
      by_cases c : i = j
      · subst c
        exact zup_eq
      · rw [zup_ns c, e2 i a (by omega)]
  exact eJ7_fill_d0a16 (bJ7_fill_d0a16_0 (go (zln r).toNat 0 h (by omega) (by omega) (fun _ _ => rfl) (fun i a b => absurd b (by omega))))
theorem sp_fillI {K : zH → Prop} {r v : Int} (k : ∀ h' : zH, (∀ a, ¬ a = r → h' a = h a) → (∀ j, 0 ≤ j → j < zln r → h' r j = v) → K h') : zCv G d mJ7_fill_53178 [vr 13 r, vi v] h K := by
  have hz := zR_zln r
  have hz2 := zln_nn r
  have go : ∀ (f : Nat) (j : Int) (h1 : zH), 0 ≤ j → j + f = zln r → (∀ a, ¬ a = r → h1 a = h a) → (∀ i, 0 ≤ i → i < j → h1 r i = v) → tJ7_fill_53178_5 G d K r v j (zln r) h1 := by
    intro f
    induction f with
    | zero => exact fun j h1 j0 jf e1 e2 => bJ7_fill_53178_5 ⟨⟨by omega, by omega⟩, hz, fun _ => k h1 e1 (fun i a b => e2 i a (by omega)), fun q => absurd q (by omega)⟩
    | succ f ih =>
      intro j h1 j0 jf e1 e2
      refine bJ7_fill_53178_5 ⟨⟨by have := hz.2; omega, by have := hz.2; omega⟩, hz, fun q => absurd q (by omega), fun _ => ⟨⟨j0, by omega⟩, ih (j + 1) _ (by omega) (by omega) (fun a q => by rw [zup_ne q, e1 a q]) (fun i a b => ?_)⟩⟩
      by_cases c : i = j
      · subst c
        exact zup_eq
      · rw [zup_ns c, e2 i a (by omega)]
  exact eJ7_fill_53178 (bJ7_fill_53178_0 (go (zln r).toNat 0 h (by omega) (by omega) (fun _ _ => rfl) (fun i a b => absurd b (by omega))))
/-- the class closes one free step after the other -/
theorem sp_closeFrees {K : zH → Prop} {p m : Int} (hp : p = m + 7) (hD : mOK D) (hr : cRep h m D) (k : ∀ h' : zH, (∀ a, ¬ a = p + 6 → h' a = h a) → (∀ q, 0 ≤ q → q < D 0 0 → lp (h' (p + 6) q) (dCl D (fun z => z = q))) → K h') : zCv G d mX7_closeFrees [vr 7 p, vr 4 m] h K := by
  have hS := mO_st hD
  have hF := mO_fr hD
  have cr : ∀ h1 : zH, (∀ a, ¬ a = p + 6 → h1 a = h a) → cRep h1 m D := fun h1 e => cRep_fr (fun a a0 a1 => e a (by omega)) hr
  have l27 : ∀ (f : Nat) (i : Int) (h1 : zH), 0 ≤ i → i + f = D 0 3 → (∀ a, ¬ a = p + 6 → h1 a = h a) → (∀ q, 0 ≤ q → q < D 0 0 → lp (h1 (p + 6) q) (dClk D i (fun z => z = q))) → tX7_closeFrees_27 G d K p m i h1 := by
    intro f
    induction f with
    | zero =>
      intro i h1 i0 jf e1 e2
      refine bX7_closeFrees_27 ?_
      rw [(cr h1 e1).1.2.2.2.1]
      have : i = D 0 3 := by omega
      subst this
      exact ⟨⟨by omega, by omega⟩, ⟨by omega, by omega⟩, fun _ => k h1 e1 e2, fun q => absurd q (by omega)⟩
    | succ f ih =>
      intro i h1 i0 jf e1 e2
      have f56 := mO_f hD i0 (show i < D 0 3 by omega)
      have r56 := (cr h1 e1).2.2.1 i i0 (by omega)
      have hmore := e2 (D 6 i) f56.2.1 f56.2.2
      have l50 : ∀ (f : Nat) (q : Int) (h2 : zH), 0 ≤ q → q + f = D 0 0 → (∀ a, ¬ a = p + 6 → h2 a = h a) → (∀ z, 0 ≤ z → z < q → lp (h2 (p + 6) z) (dClk D (i + 1) (fun y => y = z))) → (∀ z, q ≤ z → z < D 0 0 → lp (h2 (p + 6) z) (dClk D i (fun y => y = z))) → tX7_closeFrees_50 G d K p m i (h1 (p + 6) (D 6 i)) q h2 := by
        intro f2
        induction f2 with
        | zero =>
          intro q h2 q0 qf g1 g2 g3
          refine bX7_closeFrees_50 ?_
          rw [(cr h2 g1).1.1]
          exact ⟨⟨by omega, by omega⟩, ⟨by omega, by omega⟩, fun _ => ih (i + 1) h2 (by omega) (by omega) g1 (fun z a b => g2 z a (by omega)), fun q => absurd q (by omega)⟩
        | succ f2 ih2 =>
          intro q h2 q0 qf g1 g2 g3
          refine bX7_closeFrees_50 ?_
          rw [(cr h2 g1).1.1, ((cr h2 g1).2.2.1 i i0 (by omega)).1, zbit_u (by omega) (by omega)]
          have hq := g3 q (Int.le_refl _) (by omega)
          refine ⟨⟨by omega, by omega⟩, ⟨by omega, by omega⟩, fun z => absurd z (by omega), fun _ => ⟨⟨by omega, by omega⟩, ⟨by omega, by omega⟩, fun nb => ?_, fun yb => ⟨⟨by omega, by omega⟩, ⟨by omega, by omega⟩, ?_⟩⟩⟩
          · refine ih2 (q + 1) h2 (by omega) (by omega) g1 (fun z a b => ?_) (fun z a b => g3 z (by omega) b)
            by_cases c : z = q
            · subst c
              refine lp_iff hq (fun y => ?_)
              rw [dClk_s i0]
              refine ⟨Or.inl, fun c => c.elim id (fun c => absurd ((hq.2 _).mpr c.1).2.2 nb)⟩
            · exact g2 z a (by omega)
          · refine ih2 (q + 1) _ (by omega) (by omega) (fun a c => by rw [zup_ne c, g1 a c]) (fun z a b => ?_) (fun z a b => ?_)
            · by_cases c : z = q
              · subst c
                rw [zup_eq]
                refine lp_iff (lp_lor hq hmore) (fun y => ?_)
                rw [dClk_s i0]
                have a5 : dClk D i (fun y => y = z) (D 5 i) := (hq.2 _).mp ⟨by omega, by omega, yb⟩
                exact ⟨fun c => c.elim Or.inl (fun c => Or.inr ⟨a5, c⟩), fun c => c.elim Or.inl (fun c => Or.inr c.2)⟩
              · rw [zup_ns c]
                exact g2 z a (by omega)
            · rw [zup_ns (by omega)]
              exact g3 z (by omega) b
      refine bX7_closeFrees_27 ?_
      rw [(cr h1 e1).1.2.2.2.1, r56.2]
      exact ⟨⟨by omega, by omega⟩, ⟨by omega, by omega⟩, fun q => absurd q (by omega), fun _ => ⟨⟨by omega, by omega⟩, ⟨by omega, by omega⟩, l50 (D 0 0).toNat 0 h1 (by omega) (by omega) e1 (fun z a b => absurd b (by omega)) (fun z a b => e2 z a b)⟩⟩
  have l2 : ∀ (f : Nat) (q : Int) (h1 : zH), 0 ≤ q → q + f = D 0 0 → (∀ a, ¬ a = p + 6 → h1 a = h a) → (∀ z, 0 ≤ z → z < q → lp (h1 (p + 6) z) (fun y => y = z)) → tX7_closeFrees_2 G d K p m q h1 := by
    intro f
    induction f with
    | zero =>
      intro q h1 q0 qf e1 e2
      refine bX7_closeFrees_2 ?_
      rw [(cr h1 e1).1.1]
      refine ⟨⟨by omega, by omega⟩, ⟨by omega, by omega⟩, fun _ => l27 (D 0 3).toNat 0 h1 (by omega) (by omega) e1 (fun z a b => lp_iff (e2 z a (by omega)) (fun y => (dClk_0 (D := D) (P := fun w => w = z) (q := y)).symm)), fun q => absurd q (by omega)⟩
    | succ f ih =>
      intro q h1 q0 qf e1 e2
      refine bX7_closeFrees_2 ?_
      rw [(cr h1 e1).1.1]
      refine ⟨⟨by omega, by omega⟩, ⟨by omega, by omega⟩, fun q => absurd q (by omega), fun _ => ⟨⟨by omega, by omega⟩, ih (q + 1) _ (by omega) (by omega) (fun a c => by rw [zup_ne c, e1 a c]) (fun z a b => ?_)⟩⟩
      by_cases c : z = q
      · subst c
        rw [zup_eq]
        exact lp_shl (by omega) (by omega)
      · rw [zup_ns c]
        exact e2 z a (by omega)
  exact eX7_closeFrees (bX7_closeFrees_0 (l2 (D 0 0).toNat 0 h (by omega) (by omega) (fun _ _ => rfl) (fun z a b => absurd b (by omega))))
theorem sp_findTargets {K : zH → Prop} {p m s : Int} (hp : p = m + 7) (hD : mOK D) (hr : cRep h m D) (hl : zln (p + 7) = 128) (hb : h p 7 = D 0 4) (hs : 0 ≤ s ∧ s < 40) (hc : ∀ q, 0 ≤ q → q < D 0 0 → lp (h (p + 6) q) (dCl D (fun z => z = q))) (k : ∀ h' : zH, (∀ a, ¬ a = p + 7 → h' a = h a) → (∀ b, 0 ≤ b → b < D 0 4 → lp (h' (p + 7) b) (dSt D (tS (h (p + 1) s)) b)) → K h') : zCv G (d + 1) mX7_findTargets [vr 7 p, vr 4 m, vi s] h K := by
  have hB := mO_bl hD
  have hE := mO_ed hD
  have hS := mO_st hD
  have cr : ∀ h1 : zH, (∀ a, ¬ a = p + 7 → h1 a = h a) → cRep h1 m D := fun h1 e => cRep_fr (fun a a0 a1 => e a (by omega)) hr
  have l10 : ∀ (f : Nat) (e : Int) (h1 : zH), 0 ≤ e → e + f = D 0 2 → (∀ a, ¬ a = p + 7 → h1 a = h a) → (∀ b, 0 ≤ b → b < D 0 4 → lp (h1 (p + 7) b) (fun q => ∃ e', 0 ≤ e' ∧ e' < e ∧ tS (h (p + 1) s) (D 1 e') ∧ dEH D e' b = true ∧ dCl D (fun z => z = D 2 e') q)) → tX7_findTargets_10 G d K p m s e h1 := by
    intro f
    induction f with
    | zero =>
      intro e h1 e0 ef g1 g2
      refine bX7_findTargets_10 ?_
      rw [(cr h1 g1).1.2.2.1]
      have : e = D 0 2 := by omega
      subst this
      exact ⟨⟨by omega, by omega⟩, ⟨by omega, by omega⟩, fun _ => k h1 g1 g2, fun q => absurd q (by omega)⟩
    | succ f ih =>
      intro e h1 e0 ef g1 g2
      obtain ⟨o1, o2, o3, o4⟩ := mO_e hD e0 (show e < D 0 2 by omega)
      obtain ⟨r1, r2, -, -⟩ := (cr h1 g1).2.1 e e0 (by omega)
      have l57 : ∀ (f : Nat) (b : Int) (h2 : zH), tS (h (p + 1) s) (D 1 e) → 0 ≤ b → b + f = D 0 4 → (∀ a, ¬ a = p + 7 → h2 a = h a) → (∀ b', 0 ≤ b' → b' < b → lp (h2 (p + 7) b') (fun q => ∃ e', 0 ≤ e' ∧ e' < e + 1 ∧ tS (h (p + 1) s) (D 1 e') ∧ dEH D e' b' = true ∧ dCl D (fun z => z = D 2 e') q)) → (∀ b', b ≤ b' → b' < D 0 4 → lp (h2 (p + 7) b') (fun q => ∃ e', 0 ≤ e' ∧ e' < e ∧ tS (h (p + 1) s) (D 1 e') ∧ dEH D e' b' = true ∧ dCl D (fun z => z = D 2 e') q)) → tX7_findTargets_57 G d K p m s e (h (p + 6) (D 2 e)) b h2 := by
        intro f2
        induction f2 with
        | zero =>
          intro b h2 hin b0 bf g3 g4 g5
          refine bX7_findTargets_57 ?_
          rw [show h2 p = h p from g3 p (by omega), hb]
          exact ⟨⟨by omega, by omega⟩, ⟨by omega, by omega⟩, fun _ => ih (e + 1) h2 (by omega) (by omega) g3 (fun b' a c => g4 b' a (by omega)), fun q => absurd q (by omega)⟩
        | succ f2 ih2 =>
          intro b h2 hin b0 bf g3 g4 g5
          refine bX7_findTargets_57 ?_
          rw [show h2 p = h p from g3 p (by omega), hb]
          have old := g5 b (Int.le_refl _) (by omega)
          refine ⟨⟨by omega, by omega⟩, ⟨by omega, by omega⟩, fun q => absurd q (by omega), fun _ => sp_edgeHas hD (cr h2 g3) ⟨e0, by omega⟩ ⟨b0, by omega⟩ ⟨fun nb => ?_, fun yb => ⟨⟨by omega, by omega⟩, ⟨by omega, by omega⟩, ?_⟩⟩⟩
          · refine ih2 (b + 1) h2 hin (by omega) (by omega) g3 (fun b' a c => ?_) (fun b' a c => g5 b' (by omega) c)
            by_cases eb : b' = b
            · subst eb
              refine lp_iff old (fun q => ⟨fun ⟨e', x1, x2, x3⟩ => ⟨e', x1, by omega, x3⟩, fun ⟨e', x1, x2, x3, x4, x5⟩ => ⟨e', x1, ?_, x3, x4, x5⟩⟩)
              rcases Int.lt_or_le e' e with c | c
              · exact c
              · have : e' = e := by omega
                subst this
                rw [nb] at x4
                cases x4
            · exact g4 b' a (by omega)
          · refine ih2 (b + 1) _ hin (by omega) (by omega) (fun a c => by rw [zup_ne c, g3 a c]) (fun b' a c => ?_) (fun b' a c => by rw [zup_ns (by omega)]; exact g5 b' (by omega) c)
            by_cases eb : b' = b
            · subst eb
              rw [zup_eq]
              refine lp_iff (lp_lor old (hc (D 2 e) o2.1 o2.2)) (fun q => ⟨fun c => ?_, fun ⟨e', x1, x2, x3, x4, x5⟩ => ?_⟩)
              · rcases c with ⟨e', x1, x2, x3⟩ | c
                · exact ⟨e', x1, by omega, x3⟩
                · exact ⟨e, e0, by omega, hin, yb, c⟩
              · by_cases ee : e' = e
                · subst ee
                  exact Or.inr x5
                · exact Or.inl ⟨e', x1, by omega, x3, x4, x5⟩
            · rw [zup_ns eb]
              exact g4 b' a (by omega)
      refine bX7_findTargets_10 ?_
      rw [(cr h1 g1).1.2.2.1, r1, r2, show h1 (p + 1) = h (p + 1) from g1 _ (by omega), show h1 (p + 6) = h (p + 6) from g1 _ (by omega), zbit_u0 (by omega) (by omega)]
      refine ⟨⟨by omega, by omega⟩, ⟨by omega, by omega⟩, fun q => absurd q (by omega), fun _ => ⟨hs, ⟨by omega, by omega⟩, fun nb => ⟨⟨by omega, by omega⟩, ⟨by omega, by omega⟩, ?_⟩, fun yb => ?_⟩⟩
      · exact l57 (D 0 4).toNat 0 h1 ⟨by omega, by omega, by cases hz : tb (h (p + 1) s) (D 1 e); exact absurd hz nb; rfl⟩ (by omega) (by omega) g1 (fun b' a c => absurd c (by omega)) (fun b' a c => g2 b' a c)
      · refine ih (e + 1) h1 (by omega) (by omega) g1 (fun b a c => lp_iff (g2 b a c) (fun q => ⟨fun ⟨e', x1, x2, x3⟩ => ⟨e', x1, by omega, x3⟩, fun ⟨e', x1, x2, x3, x4, x5⟩ => ⟨e', x1, ?_, x3, x4, x5⟩⟩))
        rcases Int.lt_or_le e' e with c | c
        · exact c
        · have : e' = e := by omega
          subst this
          have := x3.2.2
          rw [yb] at this
          cases this
  refine eX7_findTargets (bX7_findTargets_0 (sp_fillL (fun h' g1 g2 => l10 (D 0 2).toNat 0 h' (by omega) (by omega) g1 (fun b a c => ?_))))
  rw [g2 b a (by omega)]
  exact ⟨zRL_0, fun q => ⟨fun c => absurd c tS_0, fun ⟨e', x1, x2, _⟩ => absurd x2 (by omega)⟩⟩
theorem sm_stepped {K : Int → zH → Prop} {i x b : Int} (hD : mOK D) (hi : 0 ≤ i ∧ i < 14) (hr : mRep h i D) (hx : zRL x) (hb : 0 ≤ b ∧ b < D 0 4) (k : ∀ y, lp y (dSt D (tS x) b) → K y h) : zCl G (d + 2) mX12_stepped [vr 12 466, vi i, vl x, vi b] h K := by
  have hB := mO_bl hD
  have hE := mO_ed hD
  have hS := mO_st hD
  have go : ∀ (f : Nat) (e y : Int), 0 ≤ e → e + f = D 0 2 → lp y (fun q => ∃ e', 0 ≤ e' ∧ e' < e ∧ tS x (D 1 e') ∧ dEH D e' b = true ∧ q = D 2 e') → tX12_stepped_6 G (d + 1) K i x b y e h := by
    intro f
    induction f with
    | zero =>
      intro e y e0 ef g
      refine bX12_stepped_6 ⟨hi, ?_⟩
      rw [hr.1.2.2.1]
      have : e = D 0 2 := by omega
      subst this
      exact ⟨⟨by omega, by omega⟩, ⟨by omega, by omega⟩, fun _ => sm_freed hD hi hr g.1 (fun y hy => k y (lp_iff hy (fun q => dSt_iff g.2))), fun q => absurd q (by omega)⟩
    | succ f ih =>
      intro e y e0 ef g
      obtain ⟨o1, o2, o3, o4⟩ := mO_e hD e0 (show e < D 0 2 by omega)
      obtain ⟨r1, r2, -, -⟩ := hr.2.1 e e0 (by omega)
      refine bX12_stepped_6 ⟨hi, ?_⟩
      rw [hr.1.2.2.1, r1]
      have skip : (¬ (tS x (D 1 e) ∧ dEH D e b = true)) → tX12_stepped_6 G (d + 1) K i x b y (e + 1) h := fun no => by
        refine ih (e + 1) y (by omega) (by omega) (lp_iff g (fun q => ⟨fun ⟨e', x1, x2, x3⟩ => ⟨e', x1, by omega, x3⟩, fun ⟨e', x1, x2, x3, x4, x5⟩ => ⟨e', x1, ?_, x3, x4, x5⟩⟩))
        rcases Int.lt_or_le e' e with c | c
        · exact c
        · have : e' = e := by omega
          subst this
          exact absurd ⟨x3, x4⟩ no
      refine ⟨⟨by omega, by omega⟩, ⟨by omega, by omega⟩, fun q => absurd q (by omega), fun _ => ⟨⟨by omega, by omega⟩, sm_bit (by omega) ⟨fun q => skip (fun c => ?_), fun q => sm_edgeHas hD hi hr ⟨e0, by omega⟩ ⟨hb.1, by omega⟩ ⟨fun q2 => skip (fun c => ?_), fun q2 => ⟨⟨by omega, by omega⟩, ?_⟩⟩⟩⟩⟩
      · have := c.1.2.2
        rw [q] at this
        cases this
      · have := c.2
        rw [q2] at this
        cases this
      · rw [r2]
        refine ih (e + 1) _ (by omega) (by omega) (lp_iff (lp_lor g (lp_shl (k := D 2 e) (by omega) (by omega))) (fun z => ⟨fun c => ?_, fun ⟨e', x1, x2, x3, x4, x5⟩ => ?_⟩))
        · rcases c with ⟨e', x1, x2, x3⟩ | c
          · exact ⟨e', x1, by omega, x3⟩
          · exact ⟨e, e0, by omega, ⟨by omega, by omega, q⟩, q2, c⟩
        · by_cases ee : e' = e
          · subst ee
            exact Or.inr x5
          · exact Or.inl ⟨e', x1, by omega, x3, x4, x5⟩
  exact eX12_stepped (bX12_stepped_0 (go (D 0 2).toNat 0 0 (by omega) (by omega) ⟨zRL_0, fun q => ⟨fun c => absurd c tS_0, fun ⟨e', x1, x2, _⟩ => absurd x2 (by omega)⟩⟩))
end SQ
