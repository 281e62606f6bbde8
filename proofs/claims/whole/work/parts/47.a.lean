/-! ===== the invariant behind a text ===== -/
theorem Inv_bf {h h' : zH} {n s : Int} (hI : Inv h) (hn : 0 < n ∧ n ≤ 8) (hs : 0 ≤ s ∧ s ≤ 900) (r : ∀ a, (1 ≤ a ∧ a ≤ 3) ∨ a = 80 ∨ a = 81 ∨ a = 467 ∨ a = 514 → h' a = h a) (r12 : h' 12 5 = h 12 5) (rT : ∀ a, h 0 9 ≤ a → a ≤ h 0 9 + 26 → h' a = h a) (rU : h' (h 12 5 + 1) = h (h 12 5 + 1)) (rM : ∀ i a, 0 ≤ i → i < 10 → h 3 i ≤ a → a ≤ h 3 i + 18 → h' a = h a) (m1 : ∀ j, j < 12 → h' 471 j = h 471 j) (m2 : ∀ j, j < 288 → h' 472 j = h 472 j ∧ h' 473 j = h 473 j) (mm : ∀ j D, 0 ≤ j → j < 10 → mOK D → mRep h j D → mRep h' j D) (bd : bdy h') (s0 : h' 0 9 = h 0 9 ∧ h' 0 10 = 0 ∧ h' 0 11 = h 0 11 ∧ h' 0 12 = h 0 12 ∧ h' 0 13 = h 0 13 ∧ h' 0 14 = 4 ∧ h' 0 15 = n ∧ h' 0 16 = s) (s1 : h' 466 4 = 0 ∧ h' 466 10 = n ∧ h' 466 1 = 4 ∧ h' 466 2 = s ∧ h' 466 22 = h 466 22 ∧ h' 466 64 = h 466 64 ∧ h' 466 65 = h 466 65 ∧ h' 466 77 = h 466 77) : Inv h' := by
  obtain ⟨⟨a1, a2, a3, a4, a5, a6, a7, a8⟩, b, c, ⟨d1, d2, d3, d4⟩, ⟨e1, e2, e3, e4, e5, e6⟩, f1, f2, f3⟩ := hI
  obtain ⟨p9, p10, p11, p12, p13, p14, p15, p16⟩ := s0
  obtain ⟨q4, q10, q1, q2, q22, q64, q65, q77⟩ := s1
  have r3 := r 3 (by omega)
  have r81 := r 81 (by omega)
  have t250 : h' 250 = h 250 ∧ h' 83 = h 83 := by
    have x := rT (h 0 9 + 1) (by omega) (by omega)
    rcases d1 with ⟨y1, y2⟩ | ⟨y1, y2⟩
    · rw [y1] at x
      rw [y2] at rU
      exact ⟨x, rU⟩
    · rw [y1] at x
      rw [y2] at rU
      exact ⟨rU, x⟩
  refine ⟨⟨?_, ?_, ?_, ?_, ?_, ?_, ?_, ?_⟩, ?_, ?_, ⟨?_, ?_, ?_, ?_⟩, ⟨?_, ?_, ?_, ?_, ?_, ?_⟩, bd.1, bd.2, ?_⟩
  · omega
  · omega
  · omega
  · omega
  · omega
  · omega
  · intro _
    omega
  · intro z
    omega
  · unfold iWd
    rw [p11, r 2 (by omega), r 514 (by omega)]
    exact b
  · intro j j0 j1
    omega
  · rw [p9, r12]
    exact d1
  · rw [t250.1, t250.2]
    exact d2
  · rw [p9, rT (h 0 9) (by omega) (by omega), q22]
    exact d3
  · rw [p9, rT (h 0 9) (by omega) (by omega)]
    intro s z0 z1
    obtain ⟨x1, x2, x3, x4⟩ := d4 s z0 z1
    have w1 := rT (h 0 9 + 3 + 2 * s) (by omega) (by omega)
    have w2 := rT (h 0 9 + 3 + 2 * s + 1) (by omega) (by omega)
    unfold setOK lsOK at *
    rw [w1, w2, m1 s (by omega)]
    refine ⟨x1, x2, x3, fun j j0 j1 => ?_⟩
    have := m2 (s * 24 + j) (by omega)
    rw [this.1, this.2]
    exact x4 j j0 j1
  · rw [r3]
    exact e1
  · rw [r81]
    exact e2
  · rw [r3]
    exact e3
  · rw [r81]
    exact e4
  · rw [r3, r81]
    exact e5
  · rw [p13]
    intro i z0 z1
    obtain ⟨D, o1, o2, o3, o4⟩ := e6 i z0 z1
    unfold macOK
    rw [r3]
    exact ⟨D, o1, cRep_fr (fun a x y => rM i a z0 (by omega) (by omega) (by omega)) o2, mm i D z0 (by omega) o1 o3, pth_fr (fun a x y => rM i a z0 (by omega) (by omega) (by omega)) o4⟩
  · rw [r 80 (by omega)]
    exact f3
theorem Inv_bg {h h' : zH} {N : Int} (hI : Inv h) (hN : 0 ≤ N ∧ N ≤ 4) (r : ∀ a, a = 2 ∨ a = 80 ∨ a = 514 → h' a = h a) (r3 : ∀ i, 0 ≤ i → h' 3 i = if i < N then h 81 i else h 3 i) (r81 : ∀ i, 0 ≤ i → h' 81 i = if i < N then h 3 i else h 81 i) (r9 : h' 0 9 = h 12 5) (r5 : h' 12 5 = h 0 9) (rU : h' 250 = h 250 ∧ h' 83 = h 83) (n0 : 0 ≤ h' (h 12 5) 2 ∧ h' (h 12 5) 2 ≤ 12 ∧ h' 466 22 = h' (h 12 5) 2) (st : ∀ s, 0 ≤ s → s < h' (h 12 5) 2 → setOK h' (h 12 5) s) (mc : ∀ i, 0 ≤ i → i < N → macOK h' i) (bd : bdy h') (s0 : h' 0 10 = 0 ∧ h' 0 11 = h 0 11 ∧ h' 0 12 = N ∧ h' 0 13 = N ∧ h' 0 14 = 0 ∧ h' 0 15 = 0 ∧ h' 0 16 = -1) (s1 : h' 466 4 = 0 ∧ h' 466 10 = 0 ∧ h' 466 1 = 0 ∧ h' 466 2 = -1 ∧ h' 466 64 = N ∧ h' 466 65 = N ∧ h' 466 77 = h 466 77) : Inv h' := by
  obtain ⟨⟨a1, a2, a3, a4, a5, a6, a7, a8⟩, b, c, ⟨d1, d2, d3, d4⟩, ⟨e1, e2, e3, e4, e5, e6⟩, f1, f2, f3⟩ := hI
  obtain ⟨p10, p11, p12, p13, p14, p15, p16⟩ := s0
  obtain ⟨q4, q10, q1, q2, q64, q65, q77⟩ := s1
  have x3 : ∀ i, 0 ≤ i → i < N → h' 3 i = h 81 i := fun i p q => by rw [r3 i p, if_pos q]
  have y3 : ∀ i, 0 ≤ i → ¬ i < N → h' 3 i = h 3 i := fun i p q => by rw [r3 i p, if_neg q]
  have x8 : ∀ i, 0 ≤ i → i < N → h' 81 i = h 3 i := fun i p q => by rw [r81 i p, if_pos q]
  have y8 : ∀ i, 0 ≤ i → ¬ i < N → h' 81 i = h 81 i := fun i p q => by rw [r81 i p, if_neg q]
  refine ⟨⟨?_, ?_, ?_, ?_, ?_, ?_, ?_, ?_⟩, ?_, ?_, ⟨?_, ?_, ?_, ?_⟩, ⟨fun i i0 i1 => ?_, fun i i0 i1 => ?_, fun i j i0 ij j1 => ?_, fun i j i0 ij j1 => ?_, fun i j i0 i1 j0 j1 => ?_, ?_⟩, bd.1, bd.2, ?_⟩
  · omega
  · omega
  · omega
  · omega
  · omega
  · omega
  · intro z
    omega
  · intro _
    omega
  · unfold iWd
    rw [p11, r 2 (by omega), r 514 (by omega)]
    exact b
  · intro j j0 j1
    omega
  · rw [r9, r5]
    omega
  · rw [rU.1, rU.2]
    exact d2
  · rw [r9]
    exact n0
  · rw [r9]
    exact st
  · by_cases w : i < N
    · rw [x3 i i0 w]
      exact e2 i i0 (by omega)
    · rw [y3 i i0 w]
      exact e1 i i0 i1
  · by_cases w : i < N
    · rw [x8 i i0 w]
      exact e1 i i0 (by omega)
    · rw [y8 i i0 w]
      exact e2 i i0 i1
  · by_cases w : i < N
    · by_cases v : j < N
      · rw [x3 i i0 w, x3 j (by omega) v]
        exact e4 i j i0 ij (by omega)
      · rw [x3 i i0 w, y3 j (by omega) v]
        exact fun z => e5 j i (by omega) j1 i0 (by omega) z.symm
    · rw [y3 i i0 w, y3 j (by omega) (by omega)]
      exact e3 i j i0 ij j1
  · by_cases w : i < N
    · by_cases v : j < N
      · rw [x8 i i0 w, x8 j (by omega) v]
        exact e3 i j i0 ij (by omega)
      · rw [x8 i i0 w, y8 j (by omega) v]
        exact e5 i j i0 (by omega) (by omega) j1
    · rw [y8 i i0 w, y8 j (by omega) (by omega)]
      exact e4 i j i0 ij j1
  · by_cases w : i < N
    · by_cases v : j < N
      · rw [x3 i i0 w, x8 j j0 v]
        exact fun z => e5 j i j0 (by omega) i0 (by omega) z.symm
      · rw [x3 i i0 w, y8 j j0 v]
        exact e4 i j i0 (by omega) j1
    · by_cases v : j < N
      · rw [y3 i i0 w, x8 j j0 v]
        exact fun z => e3 j i j0 (by omega) i1 z.symm
      · rw [y3 i i0 w, y8 j j0 v]
        exact e5 i j i0 i1 j0 j1
  · rw [p13]
    exact mc
  · rw [r 80 (by omega)]
    exact f3
/-- a set that both tell -/
theorem setOK_of {h : zH} {t s : Int} {S : Int → Bool} {Dl : List Int} (ls : lsP h (t + 3 + 2 * s) S Dl) (l48 : h (t + 3 + 2 * s) 1 ≤ 48) (c0 : 0 ≤ h 471 s) (rg : rgs (fun k => h 472 (s * 24 + k)) (fun k => h 473 (s * 24 + k)) 0 (h 471 s) S) : setOK h t s := by
  have r2 := lsP_rgs ls
  have n2 := ls.1.1.2.1
  have n1 := ls.1.1.1
  have ec : h 471 s = h (t + 3 + 2 * s) 1 / 2 := by
    by_cases w : h 471 s < h (t + 3 + 2 * s) 1 / 2
    · have := (rgs_u r2 rg (i := h 471 s) c0 w).1
      omega
    · by_cases v : h (t + 3 + 2 * s) 1 / 2 < h 471 s
      · have := (rgs_u rg r2 (i := h (t + 3 + 2 * s) 1 / 2) (by omega) v).1
        omega
      · omega
  refine ⟨ls.1, l48, ec, fun j j0 j1 => ?_⟩
  have u := rgs_u rg r2 (i := j) j0 (by omega)
  exact ⟨u.2.1, u.2.2⟩
