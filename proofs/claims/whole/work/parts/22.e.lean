/-! ===== all sheaves: the class's loop, the model behind it ===== -/
/-- which sheaves take -/
def tkOK (D : zH) (n : Int) (B : Int → Int) (x : Int) : Prop := zRL x ∧ ∀ q, tS x q ↔ 0 ≤ q ∧ q < n ∧ ¬ zland (B q) (D 0 1) = 0
/-- the model's bank holds these sheaves -/
def mGt (D h : zH) (bank n : Int) (B T Pa Vi : Int → Int) : Prop := h 506 bank = n ∧ (∀ s, 0 ≤ s → s < n → h 505 (bank * 40 + s) = B s) ∧ (∀ s b, 0 ≤ s → s < n → 0 ≤ b → b < D 0 4 → h 507 ((bank * 40 + s) * 128 + b) = T (s * 128 + b)) ∧ (∀ t, 0 ≤ t → t < n → h 508 (bank * 40 + t) = Pa t) ∧ (∀ t, 0 < t → t < n → h 509 (bank * 40 + t) = D 7 (Vi t))
/-- nothing but a bank changes -/
def mFr (bank : Int) (h h' : zH) : Prop := (∀ a, ¬ (505 ≤ a ∧ a ≤ 509) → h' a = h a) ∧ (∀ j, j < bank * 40 ∨ bank * 40 + 40 ≤ j → h' 505 j = h 505 j ∧ h' 508 j = h 508 j ∧ h' 509 j = h 509 j) ∧ (∀ j, ¬ j = bank → h' 506 j = h 506 j) ∧ (∀ j, j < bank * 5120 ∨ bank * 5120 + 5120 ≤ j → h' 507 j = h 507 j)
section SS
variable {G : zG} {d : Nat} {h D : zH}
theorem sp_addSheaf_full {K : Int → zH → Prop} {p m x par via : Int} (hn : h p 0 = 40) (k : K (-1) h) : zCi G d mX7_addSheaf [vr 7 p, vr 4 m, vl x, vi par, vi via] h K := eX7_addSheaf (bX7_addSheaf_0 ⟨by rw [hn]; exact ⟨by omega, by omega⟩, fun q => absurd q (by rw [hn]; omega), fun _ => k⟩)
theorem sp_findSheaves {K : Bool → zH → Prop} {p m : Int} (hp : p = m + 7) (hD : mOK D) (hr : cRep h m D) (hl : zln (p + 7) = 128)
    (k1 : ∀ h' : zH, (∀ a, ¬ (p ≤ a ∧ a ≤ p + 7) → h' a = h a) → (∀ j, ¬ j = 0 → ¬ j = 6 → ¬ j = 7 → h' p j = h p j) → h' p 7 = D 0 4 → bfs D (h' p 0) (h' (p + 1)) (h' (p + 2)) (h' (p + 3)) (h' (p + 4)) (h' (p + 5)) (h' p 0 * 128) → tkOK D (h' p 0) (h' (p + 1)) (h' p 6) → K true h')
    (k2 : ∀ (h' : zH) (s b : Int), (∀ a, ¬ (p ≤ a ∧ a ≤ p + 7) → h' a = h a) → bfs D 40 (h' (p + 1)) (h' (p + 2)) (h' (p + 3)) (h' (p + 4)) (h' (p + 5)) (s * 128 + b) → (0 ≤ s ∧ s < 40) → (0 ≤ b ∧ b < D 0 4) → (∀ t, 0 ≤ t → t < 40 → ¬ lp (h' (p + 1) t) (dSt D (tS (h' (p + 1) s)) b)) → K false h') : zCb G (d + 2) mX7_findSheaves [vr 7 p, vr 4 m] h K := by
  have hB := mO_bl hD
  have hS := mO_st hD
  have cr : ∀ h1 : zH, (∀ a, ¬ (p ≤ a ∧ a ≤ p + 7) → h1 a = h a) → cRep h1 m D := fun h1 e => cRep_fr (fun a a0 a1 => e a (by omega)) hr
  have l39 : ∀ (f : Nat) (s : Int) (h1 : zH), 0 ≤ s → s + f = 40 → s ≤ h1 p 0 → (∀ a, ¬ (p ≤ a ∧ a ≤ p + 7) → h1 a = h a) → (∀ j, ¬ j = 0 → ¬ j = 6 → ¬ j = 7 → h1 p j = h p j) → h1 p 7 = D 0 4 → (∀ q, 0 ≤ q → q < D 0 0 → lp (h1 (p + 6) q) (dCl D (fun z => z = q))) → bfs D (h1 p 0) (h1 (p + 1)) (h1 (p + 2)) (h1 (p + 3)) (h1 (p + 4)) (h1 (p + 5)) (s * 128) → tkOK D (h1 p 0) (h1 (p + 1)) (h1 p 6) → tX7_findSheaves_39 G (d + 1) K p m s h1 := by
    intro f
    induction f with
    | zero =>
      intro s h1 s0 sf sn g1 g2 g3 g4 g5 g6
      have := g5.1
      refine bX7_findSheaves_39 ⟨⟨by omega, by omega⟩, fun _ => k1 h1 g1 g2 g3 (by rw [show h1 p 0 * 128 = s * 128 by omega]; exact g5) g6, fun q => absurd q (by omega)⟩
    | succ f ih =>
      intro s h1 s0 sf sn g1 g2 g3 g4 g5 g6
      have hn := g5.1
      have l61 : ∀ (f : Nat) (b : Int) (h2 : zH), 0 ≤ b → b + f = D 0 4 → s < h2 p 0 → (∀ a, ¬ (p ≤ a ∧ a ≤ p + 7) → h2 a = h a) → (∀ j, ¬ j = 0 → ¬ j = 6 → ¬ j = 7 → h2 p j = h p j) → h2 p 7 = D 0 4 → (∀ q, 0 ≤ q → q < D 0 0 → lp (h2 (p + 6) q) (dCl D (fun z => z = q))) → bfs D (h2 p 0) (h2 (p + 1)) (h2 (p + 2)) (h2 (p + 3)) (h2 (p + 4)) (h2 (p + 5)) (s * 128 + b) → tkOK D (h2 p 0) (h2 (p + 1)) (h2 p 6) → (∀ b', 0 ≤ b' → b' < D 0 4 → lp (h2 (p + 7) b') (dSt D (tS (h2 (p + 1) s)) b')) → tX7_findSheaves_61 G (d + 1) K p m s b h2 := by
        intro f2
        induction f2 with
        | zero =>
          intro b h2 b0 bf sn2 e1 e2 e3 e4 e5 e6 e7
          refine bX7_findSheaves_61 ?_
          rw [e3]
          refine ⟨⟨by omega, by omega⟩, ⟨by omega, by omega⟩, fun _ => ih (s + 1) h2 (by omega) (by omega) (by omega) e1 e2 e3 e4 (bfs_skip hD (by rw [show D 0 4 = b by omega]; exact e5)) e6, fun q => absurd q (by omega)⟩
        | succ f2 ih2 =>
          intro b h2 b0 bf sn2 e1 e2 e3 e4 e5 e6 e7
          have hn2 := e5.1
          have hb7 := e7 b b0 (by omega)
          refine bX7_findSheaves_61 ?_
          rw [e3]
          refine ⟨⟨by omega, by omega⟩, ⟨by omega, by omega⟩, fun q => absurd q (by omega), fun _ => ⟨⟨by omega, by omega⟩, sp_sheafWith (n := h2 p 0) rfl (by omega) hb7.1 e5.2.2.1 (fun t t0 t1 et => ⟨⟨by omega, by omega⟩, fun _ => ⟨⟨by omega, by omega⟩, fun _ => ⟨⟨by omega, by omega⟩, ?_⟩, fun q => absurd q (by omega)⟩, fun q => absurd q (by omega)⟩) (fun no => ⟨⟨by omega, by omega⟩, fun q => absurd rfl q, fun _ => ⟨⟨by omega, by omega⟩, ?_⟩⟩)⟩⟩
          · refine ih2 (b + 1) _ (by omega) (by omega) (by rw [zup_ne (by omega)]; exact sn2) (fun a q => by rw [zup_ne (by omega), e1 a q]) (fun j q0 q6 q7 => by rw [zup_ne (by omega), e2 j q0 q6 q7]) (by rw [zup_ne (by omega), e3]) (fun q a c => by rw [zup_ne (by omega)]; exact e4 q a c) ?_ ?_ (fun b' a c => ?_)
            · rw [zup_r, zup_ne (by omega), zup_ne (by omega), zup_ne (by omega), zup_ne (by omega), zup_ne (by omega)]
              refine bfs_old hD ⟨s0, sn2⟩ ⟨b0, by omega⟩ ⟨t0, t1⟩ ?_ e5
              rw [et]
              exact hb7
            · rw [zup_ne (by omega), zup_ne (by omega)]
              exact e6
            · rw [zup_ne (by omega), zup_ne (by omega)]
              exact e7 b' a c
          · by_cases full : h2 p 0 = 40
            · refine sp_addSheaf_full full ⟨⟨by omega, by omega⟩, fun q => absurd rfl q, fun _ => ?_⟩
              rw [full] at e5
              refine k2 h2 s b e1 e5 (by omega) ⟨b0, by omega⟩ (fun t t0 t1 c => ?_)
              exact no t t0 (by omega) (lp_eq c hb7)
            · have hm8 : h2 m 8 = D 0 1 := (cr h2 e1).1.2.1
              refine sp_addSheaf (n := h2 p 0) hp rfl (by omega) (Or.inr ⟨s0, sn2⟩) (by rw [hm8]; exact (mO_en hD).1) (fun h4 f1 f2 f3 f4 f5 f6 f7 f8 f9 => ⟨⟨by omega, by omega⟩, fun _ => ⟨⟨by omega, by omega⟩, ?_⟩, fun q => absurd q (by omega)⟩)
              have hB4 : h4 (p + 1) s = h2 (p + 1) s := by rw [f6, fup_ne (by omega)]
              rw [hm8] at f5
              refine ih2 (b + 1) _ (by omega) (by omega) (by rw [zup_ne (by omega), f2]; omega) (fun a q => by rw [zup_ne (by omega), f1 a (by omega) (by omega) (by omega) (by omega) (by omega), e1 a q]) (fun j q0 q6 q7 => by rw [zup_ne (by omega), f3 j q0 q6, e2 j q0 q6 q7]) (by rw [zup_ne (by omega), f3 7 (by omega) (by omega), e3]) (fun q a c => by rw [zup_ne (by omega), f1 (p + 6) (by omega) (by omega) (by omega) (by omega) (by omega)]; exact e4 q a c) ?_ ?_ (fun b' a c => ?_)
              · rw [zup_r, zup_ne (by omega), zup_ne (by omega), zup_ne (by omega), zup_ne (by omega), zup_ne (by omega), f2, f6, f7, f8, f9, f1 (p + 2) (by omega) (by omega) (by omega) (by omega) (by omega), if_neg (by omega)]
                exact bfs_new hD (by omega) ⟨s0, sn2⟩ ⟨b0, by omega⟩ hb7 no e5
              · rw [zup_ne (by omega), zup_ne (by omega), f2, f6]
                refine ⟨f4 e6.1, fun q => ?_⟩
                rw [f5 q, e6.2 q]
                constructor
                · rintro (⟨a, c, e⟩ | ⟨a, c⟩)
                  · refine ⟨a, by omega, ?_⟩
                    rw [fup_ne (by omega)]
                    exact e
                  · refine ⟨by omega, by omega, ?_⟩
                    rw [a, fup_eq]
                    exact c
                · rintro ⟨a, c, e⟩
                  by_cases z : q = h2 p 0
                  · rw [z, fup_eq] at e
                    exact Or.inr ⟨z, e⟩
                  · rw [fup_ne z] at e
                    exact Or.inl ⟨a, by omega, e⟩
              · rw [zup_ne (by omega), zup_ne (by omega), hB4, f1 (p + 7) (by omega) (by omega) (by omega) (by omega) (by omega)]
                exact e7 b' a c
      refine bX7_findSheaves_39 ⟨⟨by omega, by omega⟩, fun q => absurd q (by omega), fun _ => ⟨⟨by omega, by omega⟩, ⟨by omega, by omega⟩, fun q => k1 h1 g1 g2 g3 (by rw [show h1 p 0 * 128 = s * 128 by omega]; exact g5) g6, fun q => ?_⟩⟩
      refine sp_findTargets hp hD (cr h1 g1) hl g3 (by omega) g4 (fun h2 f1 f2 => ?_)
      have fp : h2 p = h1 p := f1 p (by omega)
      have fp1 : h2 (p + 1) = h1 (p + 1) := f1 (p + 1) (by omega)
      refine l61 (D 0 4).toNat 0 h2 (by omega) (by omega) (by rw [fp]; omega) (fun a q => by rw [f1 a (by omega), g1 a q]) (fun j q0 q6 q7 => by rw [fp, g2 j q0 q6 q7]) (by rw [fp, g3]) (fun q a c => by rw [f1 (p + 6) (by omega)]; exact g4 q a c) ?_ ?_ (fun b' a c => ?_)
      · rw [fp, fp1, f1 (p + 2) (by omega), f1 (p + 3) (by omega), f1 (p + 4) (by omega), f1 (p + 5) (by omega), Int.add_zero]
        exact g5
      · rw [fp, fp1]
        exact g6
      · rw [fp1]
        exact f2 b' a c
  refine eX7_findSheaves (bX7_findSheaves_0 ?_)
  rw [hr.1.2.2.2.2]
  have hr1 : cRep (zup h p 7 (D 0 4)) m D := cRep_fr (fun a a0 a1 => zup_ne (by omega)) hr
  refine sp_closeFrees hp hD hr1 (fun h2 e1 e2 => ?_)
  have ep : ∀ a, ¬ a = p → (zup (zup h2 p 0 0) p 6 0) a = h2 a := fun a q => by rw [zup_ne q, zup_ne q]
  have epp : ∀ j, ¬ j = 0 → ¬ j = 6 → (zup (zup h2 p 0 0) p 6 0) p j = h2 p j := fun j q0 q6 => by rw [zup_ns q6, zup_ns q0]
  have ep0 : (zup (zup h2 p 0 0) p 6 0) p 0 = 0 := by rw [zup_ns (by decide), zup_eq]
  have ep6 : (zup (zup h2 p 0 0) p 6 0) p 6 = 0 := zup_eq
  generalize (zup (zup h2 p 0 0) p 6 0) = h3 at ep epp ep0 ep6 ⊢
  have hm : h3 m 8 = D 0 1 := by
    rw [ep m (by omega), e1 m (by omega)]
    exact hr1.1.2.1
  have h06 : lp (h3 (p + 6) 0) (dCl D (fun q => q = 0)) := by
    rw [ep (p + 6) (by omega)]
    exact e2 0 (by omega) (by omega)
  have hpj : ∀ j, ¬ j = 0 → ¬ j = 6 → ¬ j = 7 → h3 p j = h p j := fun j q0 q6 q7 => by rw [epp j q0 q6, e1 p (by omega), zup_ns q7]
  have hp7 : h3 p 7 = D 0 4 := by rw [epp 7 (by decide) (by decide), e1 p (by omega), zup_eq]
  have hfr : ∀ a, ¬ (p ≤ a ∧ a ≤ p + 7) → h3 a = h a := fun a q => by rw [ep a (by omega), e1 a (by omega), zup_ne (by omega)]
  refine sp_addSheaf (n := 0) hp ep0 (by omega) (Or.inl rfl) (by rw [hm]; exact (mO_en hD).1) (fun h4 f1 f2 f3 f4 f5 f6 f7 f8 f9 => ?_)
  rw [hm] at f5
  refine l39 40 0 h4 (by omega) (by omega) (by omega) (fun a q => by rw [f1 a (by omega) (by omega) (by omega) (by omega) (by omega), hfr a q]) (fun j q0 q6 q7 => by rw [f3 j q0 q6, hpj j q0 q6 q7]) (by rw [f3 7 (by decide) (by decide), hp7]) (fun q a c => by rw [f1 (p + 6) (by omega) (by omega) (by omega) (by omega) (by omega), ep (p + 6) (by omega)]; exact e2 q a c) ?_ ?_
  · rw [f2, f6, f7, f8, f9, if_pos (by omega)]
    exact bfs_0 h06 fup_eq fup_eq fup_eq fup_eq
  · rw [f2, f6]
    refine ⟨f4 (by rw [ep6]; exact zRL_0), fun q => ?_⟩
    rw [f5 q, ep6]
    constructor
    · rintro (a | ⟨a, c⟩)
      · exact absurd a tS_0
      · subst a
        rw [fup_eq]
        exact ⟨by omega, by omega, c⟩
    · rintro ⟨a, c, e⟩
      have z : q = 0 := by omega
      rw [z, fup_eq] at e
      exact Or.inr ⟨z, e⟩
end SS
