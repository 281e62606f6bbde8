/-! ===== cases: the word, the tape, drop ===== -/
/-- rows of sets, machines, bodies -/
def kq (a : Int) : Prop := a = 3 ∨ (12 ≤ a ∧ a ≤ 232) ∨ (249 ≤ a ∧ a ≤ 465) ∨ (471 ≤ a ∧ a ≤ 473) ∨ (493 ≤ a ∧ a ≤ 504)
theorem Inv_g {h h' : zH} (hI : Inv h) (i1 : iSc h') (i2 : iWd h') (i3 : iTp h') (r : ∀ a, kq a → h' a = h a) (s9 : h' 0 9 = h 0 9) (s13 : h' 0 13 ≤ h 0 13) (s22 : h' 466 22 = h 466 22) : Inv h' := by
  obtain ⟨a, b, c, ⟨d1, d2, d3, d4⟩, ⟨e1, e2, e3, e4, e5, e6⟩, f1, f2, f3⟩ := hI
  have r3 := r 3 (Or.inl rfl)
  have r81 := r 81 (by unfold kq; omega)
  refine ⟨i1, i2, i3, ⟨?_, ?_, ?_, ?_⟩, ⟨?_, ?_, ?_, ?_, ?_, ?_⟩, ?_, ?_, ?_⟩
  · rw [s9, r 12 (by unfold kq; omega)]
    exact d1
  · rw [r 250 (by unfold kq; omega), r 83 (by unfold kq; omega)]
    exact d2
  · rw [s9, r (h 0 9) (by unfold kq; omega), s22]
    exact d3
  · rw [s9, r (h 0 9) (by unfold kq; omega)]
    intro s z0 z1
    exact set_fr (r _ (by unfold kq; omega)) (r _ (by unfold kq; omega)) (r _ (by unfold kq; omega)) (r _ (by unfold kq; omega)) (r _ (by unfold kq; omega)) (d4 s z0 z1)
  · rw [r3]
    exact e1
  · rw [r81]
    exact e2
  · rw [r3]
    exact e3
  · rw [r81]
    exact e4
  · rw [r3, r81]
    exact e5
  · intro i z0 z1
    obtain ⟨D, o1, o2, o3, o4⟩ := e6 i z0 (by omega)
    have mc := e1 i z0 (by unfold iSc at a; omega)
    unfold mcell at mc
    unfold macOK
    rw [r3]
    exact ⟨D, o1, cRep_fr (fun a x y => r a (by unfold kq; omega)) o2, mRep_fr (fun a x y => r a (by unfold kq; omega)) o3, pth_fr (fun a x y => r a (by unfold kq; omega)) o4⟩
  · unfold bR
    rw [r 17 (by unfold kq; omega), r 18 (by unfold kq; omega), r 19 (by unfold kq; omega)]
    exact f1
  · unfold bR
    rw [r 17 (by unfold kq; omega), r 18 (by unfold kq; omega), r 19 (by unfold kq; omega)]
    exact f2
  · rw [r 80 (by unfold kq; omega)]
    exact f3
section CB
variable {G : zG} {d : Nat} {h : zH}
theorem c_letter {a : Int} (hI : Inv h) (ha : zR a) : twI G (d + 2) mX11_letter mX12_letter [vi a] h := by
  have a2 := hI.1.2.1
  have e77 : ∀ w, zup h 0 14 w 466 77 = h 0 11 := fun w => by rw [zup_ne (by decide)]; omega
  have e514 : ∀ w, zup h 0 14 w 514 = h 514 := fun w => zup_ne (by decide)
  refine sp_letter ha (by omega) (fun q => sm_letter ha (by rw [e77]; omega) (fun _ => ⟨⟨by decide, by decide⟩, rfl, Inv_w hI (by omega)⟩) (fun z => absurd z (by rw [e77]; exact q))) (fun q => sm_letter ha (by rw [e77]; omega) (fun z => absurd q (by rw [e77] at z; exact z)) (fun z => ?_))
  have w := hI.2.1 a q.1 q.2
  refine ⟨⟨by omega, by omega⟩, ?_, Inv_w hI (by omega)⟩
  rw [e514, w.2]
theorem c_more {a : Int} (hI : Inv h) (ha : zR a) : twI G (d + 3) mX11_more mX12_more [vi a] h := by
  have hs := hI.1
  obtain ⟨a1, a2, a3, a4, a5, a6, a7, a8⟩ := hs
  have e77 : ∀ w, zup h 0 14 w 466 77 = h 0 11 := fun w => by rw [zup_ne (by decide)]; omega
  refine sp_more ha (by omega) (fun q => sm_more ha (by rw [e77]; omega) (fun _ => ⟨⟨by decide, by decide⟩, rfl, Inv_w hI (by omega)⟩) (fun z => absurd z q) (fun z => absurd z q)) (fun q q2 => sm_more ha (by rw [e77]; omega) (fun z => absurd q z) (fun _ _ => ⟨⟨by decide, by decide⟩, rfl, Inv_w hI (by omega)⟩) (fun _ z => absurd z (by rw [e77]; omega))) (fun q q2 => ?_)
  have f77 : (zup (zup (zup h 2 (h 0 11) a) 0 11 (h 0 11 + 1)) 0 14 0) 466 77 = h 0 11 := by
    rw [zup_ne (by decide), zup_ne (by decide), zup_ne (by decide)]
    omega
  refine sm_more ha (by rw [f77]; omega) (fun z => absurd q z) (fun _ z => absurd z (by rw [f77]; omega)) (fun _ _ => ?_)
  rw [f77]
  refine ⟨⟨by omega, by omega⟩, rfl, ?_⟩
  have g0 : ∀ j, ¬ j = 11 → ¬ j = 14 → (zup (zup (zup (zup (zup (zup (zup (zup h 2 (h 0 11) a) 0 11 (h 0 11 + 1)) 0 14 0) 466 0 0) 514 (h 0 11) a) 466 77 (h 0 11 + 1)) 466 1 0) 466 2 (-1)) 0 j = h 0 j := fun j q1 q2 => by
    rw [zup_ne (by decide), zup_ne (by decide), zup_ne (by decide), zup_ne (by decide), zup_ne (by decide), zup_ns q2, zup_ns q1, zup_ne (by decide)]
  have g11 : (zup (zup (zup (zup (zup (zup (zup (zup h 2 (h 0 11) a) 0 11 (h 0 11 + 1)) 0 14 0) 466 0 0) 514 (h 0 11) a) 466 77 (h 0 11 + 1)) 466 1 0) 466 2 (-1)) 0 11 = h 0 11 + 1 := by
    rw [zup_ne (by decide), zup_ne (by decide), zup_ne (by decide), zup_ne (by decide), zup_ne (by decide), zup_ns (by decide), zup_eq]
  have g14 : (zup (zup (zup (zup (zup (zup (zup (zup h 2 (h 0 11) a) 0 11 (h 0 11 + 1)) 0 14 0) 466 0 0) 514 (h 0 11) a) 466 77 (h 0 11 + 1)) 466 1 0) 466 2 (-1)) 0 14 = 0 := by
    rw [zup_ne (by decide), zup_ne (by decide), zup_ne (by decide), zup_ne (by decide), zup_ne (by decide), zup_eq]
  have gm : ∀ j, ¬ j = 0 → ¬ j = 1 → ¬ j = 2 → ¬ j = 77 → (zup (zup (zup (zup (zup (zup (zup (zup h 2 (h 0 11) a) 0 11 (h 0 11 + 1)) 0 14 0) 466 0 0) 514 (h 0 11) a) 466 77 (h 0 11 + 1)) 466 1 0) 466 2 (-1)) 466 j = h 466 j := fun j q0 q1 q2 q7 => by
    rw [zup_ns q2, zup_ns q1, zup_ns q7, zup_ne (by decide), zup_ns q0, zup_ne (by decide), zup_ne (by decide), zup_ne (by decide)]
  have gm1 : (zup (zup (zup (zup (zup (zup (zup (zup h 2 (h 0 11) a) 0 11 (h 0 11 + 1)) 0 14 0) 466 0 0) 514 (h 0 11) a) 466 77 (h 0 11 + 1)) 466 1 0) 466 2 (-1)) 466 1 = 0 := by rw [zup_ns (by decide), zup_eq]
  have gm2 : (zup (zup (zup (zup (zup (zup (zup (zup h 2 (h 0 11) a) 0 11 (h 0 11 + 1)) 0 14 0) 466 0 0) 514 (h 0 11) a) 466 77 (h 0 11 + 1)) 466 1 0) 466 2 (-1)) 466 2 = -1 := zup_eq
  have gm7 : (zup (zup (zup (zup (zup (zup (zup (zup h 2 (h 0 11) a) 0 11 (h 0 11 + 1)) 0 14 0) 466 0 0) 514 (h 0 11) a) 466 77 (h 0 11 + 1)) 466 1 0) 466 2 (-1)) 466 77 = h 0 11 + 1 := by rw [zup_ns (by decide), zup_ns (by decide), zup_eq]
  have gr : ∀ b, ¬ b = 0 → ¬ b = 2 → ¬ b = 466 → ¬ b = 514 → (zup (zup (zup (zup (zup (zup (zup (zup h 2 (h 0 11) a) 0 11 (h 0 11 + 1)) 0 14 0) 466 0 0) 514 (h 0 11) a) 466 77 (h 0 11 + 1)) 466 1 0) 466 2 (-1)) b = h b := fun b q0 q2 q4 q5 => by
    rw [zup_ne q4, zup_ne q4, zup_ne q4, zup_ne q5, zup_ne q4, zup_ne q0, zup_ne q0, zup_ne q2]
  have g2 : (zup (zup (zup (zup (zup (zup (zup (zup h 2 (h 0 11) a) 0 11 (h 0 11 + 1)) 0 14 0) 466 0 0) 514 (h 0 11) a) 466 77 (h 0 11 + 1)) 466 1 0) 466 2 (-1)) 2 = fup (h 2) (h 0 11) a := by
    rw [zup_ne (by decide), zup_ne (by decide), zup_ne (by decide), zup_ne (by decide), zup_ne (by decide), zup_ne (by decide), zup_ne (by decide), zup_r]
  have g5 : (zup (zup (zup (zup (zup (zup (zup (zup h 2 (h 0 11) a) 0 11 (h 0 11 + 1)) 0 14 0) 466 0 0) 514 (h 0 11) a) 466 77 (h 0 11 + 1)) 466 1 0) 466 2 (-1)) 514 = fup (h 514) (h 0 11) a := by
    rw [zup_ne (by decide), zup_ne (by decide), zup_ne (by decide), zup_r, zup_ne (by decide), zup_ne (by decide), zup_ne (by decide), zup_ne (by decide)]
  generalize (zup (zup (zup (zup (zup (zup (zup (zup h 2 (h 0 11) a) 0 11 (h 0 11 + 1)) 0 14 0) 466 0 0) 514 (h 0 11) a) 466 77 (h 0 11 + 1)) 466 1 0) 466 2 (-1)) = h' at g0 g11 g14 gm gm1 gm2 gm7 gr g2 g5 ⊢
  refine Inv_g hI ?_ ?_ ?_ (fun b kb => gr b (by unfold kq at kb; omega) (by unfold kq at kb; omega) (by unfold kq at kb; omega) (by unfold kq at kb; omega)) (g0 9 (by decide) (by decide)) (by rw [g0 13 (by decide) (by decide)]; exact Int.le_refl _) (gm 22 (by decide) (by decide) (by decide) (by decide))
  · unfold iSc
    rw [g0 10 (by decide) (by decide), g0 12 (by decide) (by decide), g0 13 (by decide) (by decide), g0 15 (by decide) (by decide), g0 16 (by decide) (by decide), g11, g14, gm 4 (by decide) (by decide) (by decide) (by decide), gm 65 (by decide) (by decide) (by decide) (by decide), gm 64 (by decide) (by decide) (by decide) (by decide), gm 10 (by decide) (by decide) (by decide) (by decide), gm1, gm2, gm7]
    exact ⟨a1, by omega, a3, by omega, a5, a6, fun z => absurd z (by decide), fun _ => rfl⟩
  · unfold iWd
    rw [g11, g2, g5]
    intro i i0 i1
    by_cases z : i = h 0 11
    · rw [z, fup_eq, fup_eq]
      exact ⟨q, rfl⟩
    · rw [fup_ne z, fup_ne z]
      exact hI.2.1 i i0 (by omega)
  · unfold iTp
    rw [g0 10 (by decide) (by decide), gr 1 (by decide) (by decide) (by decide) (by decide), gr 467 (by decide) (by decide) (by decide) (by decide)]
    exact hI.2.2.1
theorem c_drop (hI : Inv h) : twI G (d + 2) mX11_drop mX12_drop [] h := by
  have hs := hI.1
  obtain ⟨a1, a2, a3, a4, a5, a6, a7, a8⟩ := hs
  have e64 : ∀ w, zup h 0 14 w 466 = h 466 := fun w => zup_ne (by decide)
  refine sp_drop ⟨by omega, by omega⟩ ⟨by omega, by omega⟩ (fun q => ?_) (fun q => sm_drop (by rw [e64]; exact ⟨by omega, by omega⟩) (by rw [e64]; exact ⟨by omega, by omega⟩) (fun z => absurd (by rw [e64]; omega) z) (fun _ => ⟨⟨by decide, by decide⟩, rfl, Inv_w hI (by omega)⟩))
  have f4 : (zup (zup h 0 13 (h 0 13 - 1)) 0 14 0) 466 = h 466 := by rw [zup_ne (by decide), zup_ne (by decide)]
  refine sm_drop (by rw [f4]; exact ⟨by omega, by omega⟩) (by rw [f4]; exact ⟨by omega, by omega⟩) (fun _ => ?_) (fun z => absurd z (by rw [f4]; omega))
  rw [f4, a3.2.2.2.2.2]
  refine ⟨⟨by omega, by omega⟩, rfl, ?_⟩
  have g0 : ∀ j, ¬ j = 13 → ¬ j = 14 → (zup (zup (zup (zup (zup (zup h 0 13 (h 0 13 - 1)) 0 14 0) 466 0 0) 466 64 (h 0 13 - 1)) 466 1 0) 466 2 (-1)) 0 j = h 0 j := fun j q1 q2 => by
    rw [zup_ne (by decide), zup_ne (by decide), zup_ne (by decide), zup_ne (by decide), zup_ns q2, zup_ns q1]
  have g13 : (zup (zup (zup (zup (zup (zup h 0 13 (h 0 13 - 1)) 0 14 0) 466 0 0) 466 64 (h 0 13 - 1)) 466 1 0) 466 2 (-1)) 0 13 = h 0 13 - 1 := by
    rw [zup_ne (by decide), zup_ne (by decide), zup_ne (by decide), zup_ne (by decide), zup_ns (by decide), zup_eq]
  have g14 : (zup (zup (zup (zup (zup (zup h 0 13 (h 0 13 - 1)) 0 14 0) 466 0 0) 466 64 (h 0 13 - 1)) 466 1 0) 466 2 (-1)) 0 14 = 0 := by
    rw [zup_ne (by decide), zup_ne (by decide), zup_ne (by decide), zup_ne (by decide), zup_eq]
  have gm : ∀ j, ¬ j = 0 → ¬ j = 1 → ¬ j = 2 → ¬ j = 64 → (zup (zup (zup (zup (zup (zup h 0 13 (h 0 13 - 1)) 0 14 0) 466 0 0) 466 64 (h 0 13 - 1)) 466 1 0) 466 2 (-1)) 466 j = h 466 j := fun j q0 q1 q2 q7 => by
    rw [zup_ns q2, zup_ns q1, zup_ns q7, zup_ns q0, zup_ne (by decide), zup_ne (by decide)]
  have gm1 : (zup (zup (zup (zup (zup (zup h 0 13 (h 0 13 - 1)) 0 14 0) 466 0 0) 466 64 (h 0 13 - 1)) 466 1 0) 466 2 (-1)) 466 1 = 0 := by rw [zup_ns (by decide), zup_eq]
  have gm2 : (zup (zup (zup (zup (zup (zup h 0 13 (h 0 13 - 1)) 0 14 0) 466 0 0) 466 64 (h 0 13 - 1)) 466 1 0) 466 2 (-1)) 466 2 = -1 := zup_eq
  have gm6 : (zup (zup (zup (zup (zup (zup h 0 13 (h 0 13 - 1)) 0 14 0) 466 0 0) 466 64 (h 0 13 - 1)) 466 1 0) 466 2 (-1)) 466 64 = h 0 13 - 1 := by rw [zup_ns (by decide), zup_ns (by decide), zup_eq]
  have gr : ∀ b, ¬ b = 0 → ¬ b = 466 → (zup (zup (zup (zup (zup (zup h 0 13 (h 0 13 - 1)) 0 14 0) 466 0 0) 466 64 (h 0 13 - 1)) 466 1 0) 466 2 (-1)) b = h b := fun b q0 q4 => by
    rw [zup_ne q4, zup_ne q4, zup_ne q4, zup_ne q4, zup_ne q0, zup_ne q0]
  generalize (zup (zup (zup (zup (zup (zup h 0 13 (h 0 13 - 1)) 0 14 0) 466 0 0) 466 64 (h 0 13 - 1)) 466 1 0) 466 2 (-1)) = h' at g0 g13 g14 gm gm1 gm2 gm6 gr ⊢
  refine Inv_g hI ?_ ?_ ?_ (fun b kb => gr b (by unfold kq at kb; omega) (by unfold kq at kb; omega)) (g0 9 (by decide) (by decide)) (by rw [g13]; omega) (gm 22 (by decide) (by decide) (by decide) (by decide))
  · unfold iSc
    rw [g0 10 (by decide) (by decide), g0 11 (by decide) (by decide), g0 12 (by decide) (by decide), g0 15 (by decide) (by decide), g0 16 (by decide) (by decide), g13, g14, gm 4 (by decide) (by decide) (by decide) (by decide), gm 65 (by decide) (by decide) (by decide) (by decide), gm 77 (by decide) (by decide) (by decide) (by decide), gm 10 (by decide) (by decide) (by decide) (by decide), gm1, gm2, gm6]
    exact ⟨a1, a2, by omega, by omega, a5, a6, fun z => absurd z (by decide), fun _ => rfl⟩
  · unfold iWd
    rw [g0 11 (by decide) (by decide), gr 2 (by decide) (by decide), gr 514 (by decide) (by decide)]
    exact hI.2.1
  · unfold iTp
    rw [g0 10 (by decide) (by decide), gr 1 (by decide) (by decide), gr 467 (by decide) (by decide)]
    exact hI.2.2.1
end CB
