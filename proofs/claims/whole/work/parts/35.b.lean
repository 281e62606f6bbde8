/-! ===== what is drawn is kept, by both ===== -/
def kdF (c m : Int) (h1 h2 : zH) : Prop := (∀ a, ¬ a = 0 → ¬ (c < 10 ∧ m ≤ a ∧ a ≤ m + 18) → h2 a = h1 a) ∧ ∀ j, ¬ j = 13 → ¬ j = 14 → h2 0 j = h1 0 j
/-- what came of the class's draft -/
def cO (c m n en : Int) (LE : List eT) (LF : List fT) (x : Int) (h2 : zH) : Prop :=
  (x = -1 ∧ h2 0 14 = 3 ∧ h2 0 13 = c ∧ (10 ≤ c ∨ ¬ fits n LE LF ∨ (fits n LE LF ∧ chF LE.length (eX LE)) ∨ (fits n LE LF ∧ ∃ (D : zH) (B T Pa Vi De : Int → Int) (K0 : Int), isD D n en LE.length (eFr LE) (eTo LE) (eX LE) LF.length (fFr LF) (fTo LF) ∧ mOK D ∧ bfs D 40 B T Pa Vi De K0 ∧ gFail D 40 B K0 ∧ ¬ K0 = 40 * 128))) ∨
  (x = c ∧ c < 10 ∧ h2 0 14 = 0 ∧ h2 0 13 = c + 1 ∧ fits n LE LF ∧ ∃ D : zH, isD D n en LE.length (eFr LE) (eTo LE) (eX LE) LF.length (fFr LF) (fTo LF) ∧ mOK D ∧ cRep h2 m D ∧ pthOK h2 m D)
section KD
variable {G : zG} {d : Nat} {h h1 : zH} {n en : Int} {LE : List eT} {LF : List fT}
theorem q_keepDraft {K : Int → zH → Prop} (hI : Inv h) (f1 : ∀ a, kp a → h1 a = h a) (f0 : h1 0 = h 0) (dc : drC h1 n en LE LF) (lo : lOK n en LE LF) (lb : lBk h1 LE) (k : ∀ x h2, kdF (h 0 13) (h 3 (h 0 13)) h1 h2 → cO (h 0 13) (h 3 (h 0 13)) n en LE LF x h2 → K x h2) : zCi G (d + 5) mX11_keepDraft [vr 11 0] h1 K := by
  obtain ⟨n1, n2, n3⟩ := iM_n hI
  have r3 := f1 3 (by unfold kp; omega)
  have z14 : ∀ (g : zH) (w : Int), (∀ j, ¬ j = 13 → ¬ j = 14 → (zup g 0 14 w) 0 j = g 0 j) := fun g w j p q => zup_ns q
  refine eX11_keepDraft (bX11_keepDraft_0 ?_)
  rw [f0, r3]
  refine ⟨⟨by omega, by omega⟩, fun z => sp_refused (k _ _ ⟨fun a p _ => zup_ne p, z14 _ _⟩ (Or.inl ⟨rfl, zup_eq, by rw [zup_ns (by decide), f0], Or.inl z⟩)), fun z => ⟨by omega, ?_⟩⟩
  have mc := hI.2.2.2.2.1.1 (h 0 13) n1 (by omega)
  have m0 : 157 ≤ h 3 (h 0 13) ∧ h 3 (h 0 13) ≤ 447 := by
    unfold mcell at mc
    omega
  by_cases ft : fits n LE LF
  · have ov : h1 4 12 = 0 := dc.2.2.2.2.2.2.2.2.1 ft
    refine sp_settle mc (drC_d dc ft lb) (lOK_d lo ft) ov (fun h2 D g1 g2 g3 g4 g5 => ⟨fun _ => ?_, fun z => (by cases z)⟩) (fun h2 g1 g2 => ⟨fun z => (by cases z), fun _ => ?_⟩) (fun h2 D B T Pa Vi De K0 g1 g2 g3 g4 g5 g6 => ⟨fun z => (by cases z), fun _ => ?_⟩)
    · rw [g1 0 (by omega), f0]
      refine sp_granted ?_
      rw [show h 0 13 + 1 - 1 = h 0 13 by omega]
      have e0 : ∀ a, ¬ a = 0 → (zup (zup h2 0 13 (h 0 13 + 1)) 0 14 0) a = h2 a := fun a p => by rw [zup_ne p, zup_ne p]
      refine k _ _ ⟨fun a p q => ?_, fun j p q => ?_⟩ (Or.inr ⟨rfl, by omega, zup_eq, by rw [zup_ns (by decide), zup_eq], ft, D, g2, g3, cRep_fr (fun a x y => e0 a (by omega)) g4, pth_fr (fun a x y => e0 a (by omega)) g5⟩)
      · rw [e0 a p]
        exact g1 a (fun w => q ⟨by omega, w⟩)
      · rw [zup_ns q, zup_ns p, g1 0 (by omega)]
    · refine sp_refused (k _ _ ⟨fun a p q => ?_, fun j p q => ?_⟩ (Or.inl ⟨rfl, zup_eq, ?_, Or.inr (Or.inr (Or.inl ⟨ft, g2⟩))⟩))
      · rw [zup_ne p]
        exact g1 a (fun w => q ⟨by omega, w⟩)
      · rw [zup_ns q, g1 0 (by omega)]
      · rw [zup_ns (by decide), g1 0 (by omega), f0]
    · refine sp_refused (k _ _ ⟨fun a p q => ?_, fun j p q => ?_⟩ (Or.inl ⟨rfl, zup_eq, ?_, Or.inr (Or.inr (Or.inr ⟨ft, D, B, T, Pa, Vi, De, K0, g2, g3, g4, g5, g6⟩))⟩))
      · rw [zup_ne p]
        exact g1 a (fun w => q ⟨by omega, w⟩)
      · rw [zup_ns q, g1 0 (by omega)]
      · rw [zup_ns (by decide), g1 0 (by omega), f0]
  · have ov : h1 4 12 = 1 := dc.2.2.2.2.2.2.2.2.2 ft
    exact sp_settle_over ov ⟨fun z => (by cases z), fun _ => sp_refused (k _ _ ⟨fun a p _ => zup_ne p, z14 _ _⟩ (Or.inl ⟨rfl, zup_eq, by rw [zup_ns (by decide), f0], Or.inr (Or.inl ft)⟩))⟩
/-- the frame of a call that makes -/
theorem mk_fr {h2 H h3 : zH} {m c : Int} (f1 : ∀ a, kp a → h1 a = h a) (f0 : h1 0 = h 0) (fm : h1 466 = h 466) (kd : kdF c m h1 h2) (km : 157 ≤ m ∧ m ≤ 447 ∨ ¬ c < 10) (mk : mK h2 H) (ms : msF c H h3) (c14 : 0 ≤ c ∧ c < 14) : mkF m c h (zup (zup h3 466 1 0) 466 2 (-1)) ∧ ∀ w, mkF m c h (zup (zup h3 466 1 w) 466 2 (-1)) := by
  have : ∀ w, mkF m c h (zup (zup h3 466 1 w) 466 2 (-1)) := by
    intro w
    have o : ∀ a, ¬ a = 466 → (zup (zup h3 466 1 w) 466 2 (-1)) a = h3 a := fun a p => by rw [zup_ne p, zup_ne p]
    refine ⟨fun a ka kb kc => ?_, fun j j0 j1 j2 j3 => ?_, fun j kj ne => ?_, fun j D j0 j1 ne hD hr => ?_⟩
    · rw [o a (by unfold kp at ka; omega), ms.1 a (by unfold kp at ka; omega), mk.1 a ka, kd.1 a (by unfold kp at ka; omega) (fun w => kc w.2), f1 a ka]
    · rw [o 0 (by decide), ms.1 0 (by decide), mk.2.1, kd.2 j j2 j3, f0]
    · rw [zup_ns (by unfold kms at kj; omega), zup_ns (by unfold kms at kj; omega), ms.1 466 (by decide), mk.2.2 j kj, kd.1 466 (by decide) (by omega), fm]
    · refine mRep_fr (fun a x y => o a (by omega)) (msF_rep ms (by omega) ne hD (mRep_fr (fun a x y => ?_) hr))
      rw [mk.1 a (by unfold kp; omega), kd.1 a (by omega) (by omega), f1 a (by unfold kp; omega)]
  exact ⟨this 0, this⟩
theorem q_full {h2 H : zH} {x : Int} (hI : Inv h) (f1 : ∀ a, kp a → h1 a = h a) (f0 : h1 0 = h 0) (fm : h1 466 = h 466) (kd : kdF (h 0 13) (h 3 (h 0 13)) h1 h2) (o : cO (h 0 13) (h 3 (h 0 13)) n en LE LF x h2) (mk : mK h2 H) (c10 : h 0 13 = 10) : zCi G d mX12_refused [vr 12 466, vi 3] H (fun y h4 => zR x ∧ x = y ∧ Inv h4) := by
  obtain ⟨n1, n2, n3⟩ := iM_n hI
  rcases o with ⟨ex, e14, e13, -⟩ | ⟨-, z, -⟩
  · refine sm_refused ⟨by rw [ex]; exact zR_m1, ex, ?_⟩
    have fr := (mk_fr f1 f0 fm kd (Or.inr (by omega)) mk (msF_r _ _) (by omega)).2 3
    have o : ∀ a, ¬ a = 466 → (zup (zup H 466 1 3) 466 2 (-1)) a = H a := fun a p => by rw [zup_ne p, zup_ne p]
    have m64 : (zup (zup H 466 1 3) 466 2 (-1)) 466 64 = h 0 13 := by rw [zup_ns (by decide), zup_ns (by decide), mk.2.2 64 (by unfold kms; omega), kd.1 466 (by decide) (by omega), fm, n3]
    refine Inv_m (w := 3) hI (by omega) fr ?_ ?_ ?_ (Or.inl ⟨?_, m64⟩) (fun _ a ka => ?_)
    · rw [o 0 (by decide), mk.2.1, e14]
    · rw [zup_ns (by decide), zup_eq]
    · exact zup_eq
    · rw [o 0 (by decide), mk.2.1, e13]
    · rw [o a (by unfold kp at ka; omega), mk.1 a ka, kd.1 a (by unfold kp at ka; omega) (by omega), f1 a ka]
  · omega
theorem q_makes {h2 H : zH} {x : Int} (hI : Inv h) (f1 : ∀ a, kp a → h1 a = h a) (f0 : h1 0 = h 0) (fm : h1 466 = h 466) (kd : kdF (h 0 13) (h 3 (h 0 13)) h1 h2) (o : cO (h 0 13) (h 3 (h 0 13)) n en LE LF x h2) (mk : mK h2 H) (c10 : ¬ h 0 13 = 10) (lo : lOK n en LE LF) (dm : drM H n LE LF) (een : H 466 50 = en) (bd : fits n LE LF → H 488 LE.length ≤ 14000) : zCi G (d + 5) mX12_makes [vr 12 466] H (fun y h4 => zR x ∧ x = y ∧ Inv h4) := by
  obtain ⟨n1, n2, n3⟩ := iM_n hI
  have mc := hI.2.2.2.2.1.1 (h 0 13) n1 (by omega)
  have m0 : 157 ≤ h 3 (h 0 13) ∧ h 3 (h 0 13) ≤ 447 := by
    unfold mcell at mc
    omega
  have e64 : H 466 64 = h 0 13 := by rw [mk.2.2 64 (by unfold kms; omega), kd.1 466 (by decide) (by omega), fm, n3]
  have no : ∀ h3 : zH, x = -1 → h2 0 14 = 3 → h2 0 13 = h 0 13 → msF (h 0 13) H h3 → zCi G (d + 4) mX12_refused [vr 12 466, vi 3] h3 (fun y h4 => zR x ∧ x = y ∧ Inv h4) := by
    intro h3 ex e14 e13 ms
    refine sm_refused ⟨by rw [ex]; exact zR_m1, ex, ?_⟩
    have fr := (mk_fr f1 f0 fm kd (Or.inl m0) mk ms (by omega)).2 3
    refine Inv_m (w := 3) hI (by omega) fr ?_ ?_ ?_ (Or.inl ⟨?_, ?_⟩) (fun z => absurd (show h 0 13 < 10 by omega) z)
    · rw [zup_ne (by decide), zup_ne (by decide), ms.1 0 (by decide), mk.2.1, e14]
    · rw [zup_ns (by decide), zup_eq]
    · exact zup_eq
    · rw [zup_ne (by decide), zup_ne (by decide), ms.1 0 (by decide), mk.2.1, e13]
    · rw [zup_ns (by decide), zup_ns (by decide), ms.1 466 (by decide), e64]
  refine eX12_makes (bX12_makes_0 ?_)
  rw [e64]
  refine ⟨⟨by omega, by omega⟩, fun z => absurd z c10, fun _ => ?_⟩
  rcases o with ⟨ex, e14, e13, q | q | ⟨ft, q⟩ | ⟨ft, D, B, T, Pa, Vi, De, K0, g2, g3, g4, g5, g6⟩⟩ | ⟨ex, cc, e14, e13, ft, D, g2, g3, g4, g5⟩
  · omega
  · have ov := dm.2.2.2.2.2.2 q
    exact sm_settles_over (by rw [ov]; decide) ov ⟨fun z => (by cases z), fun _ => no H ex e14 e13 (msF_r _ _)⟩
  · exact sm_settles_ch (by omega) (drM_d dm ft een (bd ft)) (lOK_d lo ft) (dm.2.2.2.2.2.1 ft) q (fun h3 ms => ⟨fun z => (by cases z), fun _ => no h3 ex e14 e13 ms⟩)
  · exact sm_settles (by omega) (drM_d dm ft een (bd ft)) (lOK_d lo ft) (dm.2.2.2.2.2.1 ft) g2 g3 g4 (Or.inr g5) (fun z => absurd z g6) (fun _ h3 ms => ⟨fun z => (by cases z), fun _ => no h3 ex e14 e13 ms⟩)
  · refine sm_settles (by omega) (drM_d dm ft een (bd ft)) (lOK_d lo ft) (dm.2.2.2.2.2.1 ft) g2 g3 g5.2.1 (Or.inl rfl) (fun _ h3 ms mr => ⟨fun _ => ?_, fun z => (by cases z)⟩) (fun z => absurd rfl z)
    rw [ms.1 466 (by decide), e64, show h 0 13 + 1 - 1 = h 0 13 by omega]
    refine sm_good ⟨by rw [ex]; exact ⟨by omega, by omega⟩, ex, ?_⟩
    have fr := (mk_fr f1 f0 fm kd (Or.inl m0) mk ms (by omega)).2 0
    have o : ∀ a, ¬ a = 466 → (zup (zup (zup h3 466 64 (h 0 13 + 1)) 466 1 0) 466 2 (-1)) a = h3 a := fun a p => by rw [zup_ne p, zup_ne p, zup_ne p]
    have o2 : ∀ a, ¬ a = 466 → (zup (zup h3 466 1 0) 466 2 (-1)) a = h3 a := fun a p => by rw [zup_ne p, zup_ne p]
    have fr2 : mkF (h 3 (h 0 13)) (h 0 13) h (zup (zup (zup h3 466 64 (h 0 13 + 1)) 466 1 0) 466 2 (-1)) := by
      refine ⟨fun a ka kb kc => ?_, fun j j0 j1 j2 j3 => ?_, fun j kj ne => ?_, fun j D j0 j1 ne hD hr => mRep_fr (fun a x y => by rw [o a (by omega), o2 a (by omega)]) (fr.2.2.2 j D j0 j1 ne hD hr)⟩
      · rw [← fr.1 a ka kb kc, o a (by unfold kp at ka; omega), o2 a (by unfold kp at ka; omega)]
      · rw [← fr.2.1 j j0 j1 j2 j3, o 0 (by decide), o2 0 (by decide)]
      · rw [← fr.2.2.1 j kj ne]
        unfold kms at kj
        rw [zup_ns (by omega), zup_ns (by omega), zup_ns (by omega), zup_ns (by omega), zup_ns (by omega)]
    have cl : ∀ a, h 3 (h 0 13) ≤ a → a ≤ h 3 (h 0 13) + 18 → (zup (zup (zup h3 466 64 (h 0 13 + 1)) 466 1 0) 466 2 (-1)) a = h2 a := fun a x y => by
      rw [o a (by omega), ms.1 a (by omega), mk.1 a (by unfold kp; unfold mcell at mc; omega)]
    refine Inv_m (w := 0) hI (by omega) fr2 ?_ ?_ ?_ (Or.inr ⟨cc, ?_, ?_, D, g3, cRep_fr (fun a x y => cl a (by omega) (by omega)) g4, mRep_fr (fun a x y => o a (by omega)) mr, pth_fr (fun a x y => cl a (by omega) (by omega)) g5⟩) (fun z => absurd cc z)
    · rw [o 0 (by decide), ms.1 0 (by decide), mk.2.1, e14]
    · rw [zup_ns (by decide), zup_eq]
    · exact zup_eq
    · rw [o 0 (by decide), ms.1 0 (by decide), mk.2.1, e13]
    · rw [zup_ns (by decide), zup_ns (by decide), zup_eq]
end KD
