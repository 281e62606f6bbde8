/-! ===== the invariant of the loop ===== -/
def pthOK (h : zH) (m : Int) (D : zH) : Prop := h (m + 7) 7 = D 0 4 ∧ bfs D (h (m + 7) 0) (h (m + 8)) (h (m + 9)) (h (m + 10)) (h (m + 11)) (h (m + 12)) (h (m + 7) 0 * 128) ∧ tkOK D (h (m + 7) 0) (h (m + 8)) (h (m + 7) 6) ∧ ∃ R : Nat, h (m + 7) 15 = R ∧ clOK (h (m + 7) 0) (h (m + 9)) (D 0 4) (tb (h (m + 7) 6)) R (h (m + 7) 10) (h (m + 15)) (h (m + 16)) (h (m + 17))
def macOK (h : zH) (i : Int) : Prop := ∃ D : zH, mOK D ∧ cRep h (h 3 i) D ∧ mRep h i D ∧ pthOK h (h 3 i) D
/-- cells of machines -/
def mcell (m : Int) : Prop := (276 ≤ m ∧ m ≤ 447 ∧ (m - 276) % 19 = 0) ∨ (157 ≤ m ∧ m ≤ 214 ∧ (m - 157) % 19 = 0)
theorem mcell_ln {m : Int} (h : mcell m) : zln (m + 14) = 128 ∧ zln (m + 17) = 1600 ∧ zln (m + 3) = 320 := by
  have e1 : ∀ k < 10, zln (276 + 19 * (k : Nat) + 14) = 128 ∧ zln (276 + 19 * (k : Nat) + 17) = 1600 ∧ zln (276 + 19 * (k : Nat) + 3) = 320 := by decide +kernel
  have e2 : ∀ k < 4, zln (157 + 19 * (k : Nat) + 14) = 128 ∧ zln (157 + 19 * (k : Nat) + 17) = 1600 ∧ zln (157 + 19 * (k : Nat) + 3) = 320 := by decide +kernel
  rcases h with ⟨a, b, c⟩ | ⟨a, b, c⟩
  · have := e1 ((m - 276) / 19).toNat (by omega)
    rwa [show (276 : Int) + 19 * (((m - 276) / 19).toNat : Nat) = m by omega] at this
  · have := e2 ((m - 157) / 19).toNat (by omega)
    rwa [show (157 : Int) + 19 * (((m - 157) / 19).toNat : Nat) = m by omega] at this
theorem mcell_far {m m' : Int} (h : mcell m) (h' : mcell m') (ne : ¬ m = m') : m + 19 ≤ m' ∨ m' + 19 ≤ m := by
  unfold mcell at h h'
  omega
def iSc (h : zH) : Prop := (0 ≤ h 0 10 ∧ h 0 10 ≤ 900 ∧ h 466 4 = h 0 10) ∧ (0 ≤ h 0 11 ∧ h 0 11 ≤ 16 ∧ h 466 77 = h 0 11) ∧ (0 ≤ h 0 12 ∧ h 0 12 ≤ 4 ∧ h 0 12 ≤ h 0 13 ∧ h 0 13 ≤ 10 ∧ h 466 65 = h 0 12 ∧ h 466 64 = h 0 13) ∧ (0 ≤ h 0 14 ∧ h 0 14 ≤ 5 ∧ h 466 1 = h 0 14) ∧ (0 ≤ h 0 15 ∧ h 0 15 ≤ 8 ∧ h 466 10 = h 0 15) ∧ (-1 ≤ h 0 16 ∧ h 0 16 ≤ 900) ∧ (h 0 14 = 4 → h 466 2 = h 0 16) ∧ (¬ h 0 14 = 4 → h 466 2 = -1)
def iWd (h : zH) : Prop := ∀ i, 0 ≤ i → i < h 0 11 → (0 ≤ h 2 i ∧ h 2 i < 65536) ∧ h 514 i = h 2 i
def iTp (h : zH) : Prop := ∀ j, 0 ≤ j → j < h 0 10 → (-128 ≤ h 1 j ∧ h 1 j < 128) ∧ h 467 j = h 1 j
/-- a told set: of the class in the table at t, of the model in row s -/
def setOK (h : zH) (t s : Int) : Prop := lsOK h (t + 3 + 2 * s) ∧ h (t + 3 + 2 * s) 1 ≤ 48 ∧ h 471 s = h (t + 3 + 2 * s) 1 / 2 ∧ ∀ j, 0 ≤ j → j < h (t + 3 + 2 * s) 1 / 2 → h 472 (s * 24 + j) = h (t + 3 + 2 * s + 1) (2 * j) ∧ h 473 (s * 24 + j) = h (t + 3 + 2 * s + 1) (2 * j + 1) - 1
def iSt (h : zH) : Prop := (h 0 9 = 249 ∧ h 12 5 = 82 ∨ h 0 9 = 82 ∧ h 12 5 = 249) ∧ (∀ s, 0 ≤ s → s < 12 → h 250 s = 252 + 2 * s ∧ h 83 s = 85 + 2 * s) ∧ (0 ≤ h (h 0 9) 2 ∧ h (h 0 9) 2 ≤ 12 ∧ h 466 22 = h (h 0 9) 2) ∧ ∀ s, 0 ≤ s → s < h (h 0 9) 2 → setOK h (h 0 9) s
def iMc (h : zH) : Prop := (∀ i, 0 ≤ i → i < 10 → mcell (h 3 i)) ∧ (∀ i, 0 ≤ i → i < 4 → mcell (h 81 i)) ∧ (∀ i j, 0 ≤ i → i < j → j < 10 → ¬ h 3 i = h 3 j) ∧ (∀ i j, 0 ≤ i → i < j → j < 4 → ¬ h 81 i = h 81 j) ∧ (∀ i j, 0 ≤ i → i < 10 → 0 ≤ j → j < 4 → ¬ h 3 i = h 81 j) ∧ ∀ i, 0 ≤ i → i < h 0 13 → macOK h i
/-- the sets of the reader of bodies -/
def bR (h : zH) (j : Int) : Int := if j = 0 then h 17 6 else if j = 1 then h 17 7 else if j < 15 then h 18 (j - 2) else h 19 (j - 15)
def iBo (h : zH) : Prop := (∀ j, 0 ≤ j → j < 28 → 24 ≤ bR h j ∧ bR h j ≤ 78 ∧ bR h j % 2 = 0) ∧ (∀ i j, 0 ≤ i → i < j → j < 28 → ¬ bR h i = bR h j) ∧ ∀ i, 0 ≤ i → i < 24 → h 80 i = 109 + 2 * i
def Inv (h : zH) : Prop := iSc h ∧ iWd h ∧ iTp h ∧ iSt h ∧ iMc h ∧ iBo h
/-- rows that a question keeps -/
def kp (a : Int) : Prop := (1 ≤ a ∧ a ≤ 3) ∨ (12 ≤ a ∧ a ≤ 232) ∨ (249 ≤ a ∧ a ≤ 465) ∨ a = 467 ∨ (471 ≤ a ∧ a ≤ 473) ∨ (493 ≤ a ∧ a ≤ 504) ∨ a = 514
theorem pth_fr {h h' : zH} {m : Int} {D : zH} (f : ∀ a, m + 7 ≤ a → a ≤ m + 18 → h' a = h a) (k : pthOK h m D) : pthOK h' m D := by
  unfold pthOK
  rw [f (m + 7) (by omega) (by omega), f (m + 8) (by omega) (by omega), f (m + 9) (by omega) (by omega), f (m + 10) (by omega) (by omega), f (m + 11) (by omega) (by omega), f (m + 12) (by omega) (by omega), f (m + 15) (by omega) (by omega), f (m + 16) (by omega) (by omega), f (m + 17) (by omega) (by omega)]
  exact k
theorem set_fr {h h' : zH} {t s : Int} (f1 : h' (t + 3 + 2 * s) = h (t + 3 + 2 * s)) (f2 : h' (t + 3 + 2 * s + 1) = h (t + 3 + 2 * s + 1)) (f3 : h' 471 = h 471) (f4 : h' 472 = h 472) (f5 : h' 473 = h 473) (k : setOK h t s) : setOK h' t s := by
  unfold setOK lsOK at k ⊢
  rw [f1, f2, f3, f4, f5]
  exact k
/-- what a question leaves -/
theorem Inv_q {h h' : zH} {w : Int} (hI : Inv h) (hw : 0 ≤ w ∧ w ≤ 5 ∧ ¬ w = 4) (r : ∀ a, kp a → h' a = h a) (s0 : ∀ j, 9 ≤ j → j ≤ 16 → ¬ j = 14 → h' 0 j = h 0 j) (s1 : h' 466 4 = h 466 4 ∧ h' 466 10 = h 466 10 ∧ h' 466 22 = h 466 22 ∧ h' 466 64 = h 466 64 ∧ h' 466 65 = h 466 65 ∧ h' 466 77 = h 466 77) (t0 : h' 0 14 = w) (t1 : h' 466 1 = w) (t2 : h' 466 2 = -1) : Inv h' := by
  obtain ⟨⟨a1, a2, a3, a4, a5, a6, a7, a8⟩, b, c, ⟨d1, d2, d3, d4⟩, ⟨e1, e2, e3, e4, e5, e6⟩, f1, f2, f3⟩ := hI
  obtain ⟨q1, q2, q3, q4, q5, q6⟩ := s1
  have r3 := r 3 (Or.inl (by omega))
  have r81 := r 81 (Or.inr (Or.inl (by omega)))
  refine ⟨⟨?_, ?_, ?_, ?_, ?_, ?_, ?_, ?_⟩, ?_, ?_, ⟨?_, ?_, ?_, ?_⟩, ⟨?_, ?_, ?_, ?_, ?_, ?_⟩, ?_, ?_, ?_⟩
  · rw [s0 10 (by decide) (by decide) (by decide), q1]
    exact a1
  · rw [s0 11 (by decide) (by decide) (by decide), q6]
    exact a2
  · rw [s0 12 (by decide) (by decide) (by decide), s0 13 (by decide) (by decide) (by decide), q5, q4]
    exact a3
  · rw [t0, t1]
    omega
  · rw [s0 15 (by decide) (by decide) (by decide), q2]
    exact a5
  · rw [s0 16 (by decide) (by decide) (by decide)]
    exact a6
  · rw [t0]
    intro z
    omega
  · exact fun _ => t2
  · unfold iWd
    rw [s0 11 (by decide) (by decide) (by decide), r 2 (Or.inl (by omega)), r 514 (by unfold kp; omega)]
    exact b
  · unfold iTp
    rw [s0 10 (by decide) (by decide) (by decide), r 1 (Or.inl (by omega)), r 467 (by unfold kp; omega)]
    exact c
  · rw [s0 9 (by decide) (by decide) (by decide), r 12 (by unfold kp; omega)]
    exact d1
  · rw [r 250 (by unfold kp; omega), r 83 (by unfold kp; omega)]
    exact d2
  · rw [s0 9 (by decide) (by decide) (by decide), r (h 0 9) (by unfold kp; omega), q3]
    exact d3
  · rw [s0 9 (by decide) (by decide) (by decide), r (h 0 9) (by unfold kp; omega)]
    intro s z0 z1
    exact set_fr (r _ (by unfold kp; omega)) (r _ (by unfold kp; omega)) (r _ (by unfold kp; omega)) (r _ (by unfold kp; omega)) (r _ (by unfold kp; omega)) (d4 s z0 z1)
  · rw [r3]
    exact e1
  · rw [r81]
    exact e2
  · rw [r3]
    exact e3
  · rw [r81]
    exact e4
  · rw [r3, r81]
    exact e5
  · rw [s0 13 (by decide) (by decide) (by decide)]
    intro i z0 z1
    obtain ⟨D, o1, o2, o3, o4⟩ := e6 i z0 z1
    have mc := e1 i z0 (by omega)
    unfold macOK
    rw [r3]
    exact ⟨D, o1, cRep_fr (fun a x y => r a (by unfold kp; unfold mcell at mc; omega)) o2, mRep_fr (fun a x y => r a (by unfold kp; omega)) o3, pth_fr (fun a x y => r a (by unfold kp; unfold mcell at mc; omega)) o4⟩
  · unfold bR
    rw [r 17 (by unfold kp; omega), r 18 (by unfold kp; omega), r 19 (by unfold kp; omega)]
    exact f1
  · unfold bR
    rw [r 17 (by unfold kp; omega), r 18 (by unfold kp; omega), r 19 (by unfold kp; omega)]
    exact f2
  · rw [r 80 (by unfold kp; omega)]
    exact f3
/-- class and model answer alike, with an invariant -/
abbrev twI (G : zG) (d : Nat) (MA MB : zM) (as : List zV) (h : zH) : Prop := zCi G d MA (vr 11 0 :: as) h (fun x h2 => zCi G d MB (vr 12 466 :: as) h2 (fun y h4 => zR x ∧ x = y ∧ Inv h4))
abbrev twL (G : zG) (d : Nat) (MA MB : zM) (as : List zV) (h : zH) : Prop := zCl G d MA (vr 11 0 :: as) h (fun x h2 => zCl G d MB (vr 12 466 :: as) h2 (fun y h4 => zRL x ∧ x = y ∧ Inv h4))
/-- both say w, nothing else changes -/
theorem Inv_w {h : zH} {w : Int} (hI : Inv h) (hw : 0 ≤ w ∧ w ≤ 5 ∧ ¬ w = 4) : Inv (zup (zup (zup (zup h 0 14 w) 466 0 0) 466 1 w) 466 2 (-1)) := by
  refine Inv_q hI hw (fun a k => ?_) (fun j j0 j1 j2 => ?_) ?_ ?_ ?_ ?_
  · unfold kp at k
    rw [zup_ne (by omega), zup_ne (by omega), zup_ne (by omega), zup_ne (by omega)]
  · rw [zup_ne (by decide), zup_ne (by decide), zup_ne (by decide), zup_ns j2]
  · refine ⟨?_, ?_, ?_, ?_, ?_, ?_⟩ <;> rw [zup_ns (by decide), zup_ns (by decide), zup_ns (by decide), zup_ne (by decide)]
  · rw [zup_ne (by decide), zup_ne (by decide), zup_ne (by decide), zup_eq]
  · rw [zup_ns (by decide), zup_eq]
  · exact zup_eq
/-- a call that shows something changes nothing but a flag of the model -/
theorem Inv_0 {h : zH} (hI : Inv h) : Inv (zup h 466 0 0) := by
  have e : ∀ a, ¬ a = 466 → (zup h 466 0 0) a = h a := fun a q => zup_ne q
  have e2 : ∀ j, ¬ j = 0 → (zup h 466 0 0) 466 j = h 466 j := fun j q => zup_ns q
  generalize zup h 466 0 0 = h' at e e2 ⊢
  obtain ⟨a, b, c, ⟨d1, d2, d3, d4⟩, ⟨e1, e2', e3, e4, e5, e6⟩, f⟩ := hI
  have r0 := e 0 (by decide)
  have r3 := e 3 (by decide)
  refine ⟨?_, ?_, ?_, ⟨?_, ?_, ?_, ?_⟩, ⟨?_, ?_, ?_, ?_, ?_, ?_⟩, ?_⟩
  · unfold iSc
    rw [r0, e2 4 (by decide), e2 77 (by decide), e2 65 (by decide), e2 64 (by decide), e2 1 (by decide), e2 10 (by decide), e2 2 (by decide)]
    exact a
  · unfold iWd
    rw [r0, e 2 (by decide), e 514 (by decide)]
    exact b
  · unfold iTp
    rw [r0, e 1 (by decide), e 467 (by decide)]
    exact c
  · rw [r0, e 12 (by decide)]
    exact d1
  · rw [e 250 (by decide), e 83 (by decide)]
    exact d2
  · rw [r0, e (h 0 9) (by omega), e2 22 (by decide)]
    exact d3
  · rw [r0, e (h 0 9) (by omega)]
    intro s z0 z1
    exact set_fr (e _ (by omega)) (e _ (by omega)) (e _ (by omega)) (e _ (by omega)) (e _ (by omega)) (d4 s z0 z1)
  · rw [r3]
    exact e1
  · rw [e 81 (by decide)]
    exact e2'
  · rw [r3]
    exact e3
  · rw [e 81 (by decide)]
    exact e4
  · rw [r3, e 81 (by decide)]
    exact e5
  · rw [r0]
    intro i z0 z1
    obtain ⟨D, o1, o2, o3, o4⟩ := e6 i z0 z1
    have mc := e1 i z0 (by unfold iSc at a; omega)
    unfold mcell at mc
    unfold macOK
    rw [r3]
    exact ⟨D, o1, cRep_fr (fun a x y => e a (by omega)) o2, mRep_fr (fun a x y => e a (by omega)) o3, pth_fr (fun a x y => e a (by omega)) o4⟩
  · unfold iBo bR
    rw [e 17 (by decide), e 18 (by decide), e 19 (by decide), e 80 (by decide)]
    exact f
section CA
variable {G : zG} {d : Nat} {h : zH}
theorem c_fault (hI : Inv h) : twI G (d + 1) mX11_fault mX12_fault [] h := by
  have a := hI.1.2.2.2.2.1
  refine eX11_fault (bX11_fault_0 (eX12_fault (bX12_fault_0 ⟨⟨by omega, by omega⟩, by omega, Inv_0 hI⟩)))
theorem c_where (hI : Inv h) : twI G (d + 1) mX11_where mX12_where [] h := by
  have a := hI.1.2.2.2.1
  have b := hI.1.2.2.2.2.2
  refine eX11_where (bX11_where_0 ⟨⟨by omega, by omega⟩, fun q => eX12_where (bX12_where_0 ⟨⟨by omega, by omega⟩, ?_, Inv_0 hI⟩), fun q => eX12_where (bX12_where_0 ⟨⟨by omega, by omega⟩, ?_, Inv_0 hI⟩)⟩)
  · exact (b.2.2 q).symm
  · exact (b.2.1 q).symm
theorem c_trouble (hI : Inv h) : twI G (d + 1) mX11_trouble mX12_trouble [] h := by
  have a := hI.1.2.2.2.1
  refine eX11_trouble (bX11_trouble_0 (eX12_trouble (bX12_trouble_0 ⟨⟨by omega, by omega⟩, by omega, Inv_0 hI⟩)))
theorem c_total {a : Int} (hI : Inv h) (ha : zR a) : twI G (d + 1) mX11_total mX12_total [vi a] h := by
  obtain ⟨a1, a2, a3, -⟩ := hI.1
  have a4 := hI.2.2.2.1.2.2.1
  have I0 := Inv_0 hI
  have tt : ∀ (q : Prop) (x y : Int), q → (zR x ∧ x = y ∧ Inv (zup h 466 0 0)) → zR x ∧ x = y ∧ Inv (zup h 466 0 0) := fun _ _ _ _ z => z
  have mm : ∀ x y : Int, zR x → x = y → (a < 0 ∨ 4 < a → y = -1) → (a = 0 → y = h 466 22) → (a = 1 → y = h 466 65) → (a = 2 → y = h 466 64) → (a = 3 → y = h 466 77) → (a = 4 → y = h 466 4) → zCi G (d + 1) mX12_total [vr 12 466, vi a] h (fun z h4 => zR x ∧ x = z ∧ Inv h4) := fun x y rx e c c0 c1 c2 c3 c4 => by
    subst e
    exact eX12_total (bX12_total_0 ⟨ha, fun q => ⟨rx, c q, I0⟩, fun q => ⟨rx, c0 q, I0⟩, fun q => ⟨rx, c1 q, I0⟩, fun q => ⟨rx, c2 q, I0⟩, fun q => ⟨rx, c3 q, I0⟩, fun q => ⟨rx, c4 q, I0⟩⟩)
  refine eX11_total (bX11_total_0 ⟨ha, fun q => mm _ _ ⟨by decide, by decide⟩ rfl ?_ ?_ ?_ ?_ ?_ ?_, fun q => mm _ _ ⟨by omega, by omega⟩ rfl ?_ ?_ ?_ ?_ ?_ ?_, fun q => mm _ _ ⟨by omega, by omega⟩ rfl ?_ ?_ ?_ ?_ ?_ ?_, fun q => mm _ _ ⟨by omega, by omega⟩ rfl ?_ ?_ ?_ ?_ ?_ ?_, fun q => mm _ _ ⟨by omega, by omega⟩ rfl ?_ ?_ ?_ ?_ ?_ ?_, fun q => mm _ _ ⟨by omega, by omega⟩ rfl ?_ ?_ ?_ ?_ ?_ ?_⟩) <;> intro z <;> omega
end CA
