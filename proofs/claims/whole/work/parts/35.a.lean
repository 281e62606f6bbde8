/-! ===== drafts as lists ===== -/
abbrev eT : Type := Int × Int × (Int → Bool)
abbrev fT : Type := Int × Int
def gE (L : List eT) (i : Int) : eT := L.getD i.toNat (0, 0, fun _ => false)
def gF (L : List fT) (i : Int) : fT := L.getD i.toNat (0, 0)
theorem gE_l {L M : List eT} {i : Int} (h0 : 0 ≤ i) (h : i < L.length) : gE (L ++ M) i = gE L i := by
  unfold gE
  rw [List.getD_eq_getElem?_getD, List.getD_eq_getElem?_getD, List.getElem?_append_left (by omega)]
theorem gE_r {L : List eT} {x : eT} {i : Int} (h : i = L.length) : gE (L ++ [x]) i = x := by
  unfold gE
  rw [h, Int.toNat_natCast, List.getD_eq_getElem?_getD, List.getElem?_append_right (Nat.le_refl _), Nat.sub_self]
  rfl
theorem gF_l {L M : List fT} {i : Int} (h0 : 0 ≤ i) (h : i < L.length) : gF (L ++ M) i = gF L i := by
  unfold gF
  rw [List.getD_eq_getElem?_getD, List.getD_eq_getElem?_getD, List.getElem?_append_left (by omega)]
theorem gF_r {L : List fT} {x : fT} {i : Int} (h : i = L.length) : gF (L ++ [x]) i = x := by
  unfold gF
  rw [h, Int.toNat_natCast, List.getD_eq_getElem?_getD, List.getElem?_append_right (Nat.le_refl _), Nat.sub_self]
  rfl
theorem gE_mem {L : List eT} {i : Int} (h0 : 0 ≤ i) (h : i < L.length) : gE L i ∈ L := by
  unfold gE
  rw [List.getD_eq_getElem?_getD, List.getElem?_eq_getElem (by omega)]
  exact List.getElem_mem _
theorem gF_mem {L : List fT} {i : Int} (h0 : 0 ≤ i) (h : i < L.length) : gF L i ∈ L := by
  unfold gF
  rw [List.getD_eq_getElem?_getD, List.getElem?_eq_getElem (by omega)]
  exact List.getElem_mem _
theorem len_1 {α : Type} {L : List α} {x : α} : (L ++ [x]).length = L.length + 1 := by rw [List.length_append]; rfl
/-- there is room -/
def fits (n : Int) (LE : List eT) (LF : List fT) : Prop := n ≤ 40 ∧ LE.length ≤ 160 ∧ LF.length ≤ 64
/-- the class's draft -/
def drC (h : zH) (n en : Int) (LE : List eT) (LF : List fT) : Prop := (h 4 7 = n ∧ h 4 8 = en) ∧ dS (h 10) (h 4 11) ∧ ((0 ≤ h 4 9 ∧ h 4 9 ≤ 160) ∧ ∀ e, 0 ≤ e → e < h 4 9 → zR (h 5 e) ∧ zR (h 6 e)) ∧ (0 ≤ h 4 10 ∧ h 4 10 ≤ 64) ∧ (LE.length ≤ 160 → h 4 9 = LE.length ∧ ∀ e : Int, 0 ≤ e → e < LE.length → h 5 e = (gE LE e).1 ∧ h 6 e = (gE LE e).2.1 ∧ ∀ b, 0 ≤ b → b < h 4 11 → mk h e b = (gE LE e).2.2 (h 10 b)) ∧ (LF.length ≤ 64 → h 4 10 = LF.length ∧ ∀ i : Int, 0 ≤ i → i < LF.length → h 8 i = (gF LF i).1 ∧ h 9 i = (gF LF i).2) ∧ (160 < LE.length → h 4 9 = 160) ∧ (64 < LF.length → h 4 10 = 64) ∧ (fits n LE LF → h 4 12 = 0) ∧ (¬ fits n LE LF → h 4 12 = 1)
/-- what the model has been told to build -/
def drM (h : zH) (n : Int) (LE : List eT) (LF : List fT) : Prop := h 466 47 = n ∧ (0 ≤ h 466 49 ∧ h 466 49 ≤ 64) ∧ (LE.length ≤ 160 → h 466 48 = LE.length ∧ h 488 0 = 0 ∧ ∀ e : Int, 0 ≤ e → e < LE.length → h 486 e = (gE LE e).1 ∧ h 487 e = (gE LE e).2.1 ∧ h 488 e ≤ h 488 (e + 1) ∧ rgs (h 489) (h 490) (h 488 e) (h 488 (e + 1)) (gE LE e).2.2) ∧ (LF.length ≤ 64 → h 466 49 = LF.length ∧ ∀ i : Int, 0 ≤ i → i < LF.length → h 491 i = (gF LF i).1 ∧ h 492 i = (gF LF i).2) ∧ (64 < LF.length → h 466 49 = 64) ∧ (fits n LE LF → h 466 51 = 0) ∧ (¬ fits n LE LF → h 466 51 = 1)
/-- states are within n; where letters change a block begins -/
def lOK (n en : Int) (LE : List eT) (LF : List fT) : Prop := 1 ≤ n ∧ (zRL en ∧ ∀ k, n ≤ k → k < 64 → tb en k = false) ∧ (∀ x ∈ LE, (0 ≤ x.1 ∧ x.1 < n) ∧ (0 ≤ x.2.1 ∧ x.2.1 < n)) ∧ ∀ x ∈ LF, (0 ≤ x.1 ∧ x.1 < n) ∧ (0 ≤ x.2 ∧ x.2 < n)
def lBk (h : zH) (LE : List eT) : Prop := ∀ x ∈ LE, ∀ z, 0 < z → z < 65536 → ¬ x.2.2 z = x.2.2 (z - 1) → ∃ b, (0 ≤ b ∧ b < h 4 11) ∧ h 10 b = z
def eFr (LE : List eT) : Int → Int := fun e => (gE LE e).1
def eTo (LE : List eT) : Int → Int := fun e => (gE LE e).2.1
def eX (LE : List eT) : Int → Int → Bool := fun e => (gE LE e).2.2
def fFr (LF : List fT) : Int → Int := fun e => (gF LF e).1
def fTo (LF : List fT) : Int → Int := fun e => (gF LF e).2
theorem lOK_d {n en : Int} {LE : List eT} {LF : List fT} (o : lOK n en LE LF) (f : fits n LE LF) : dOK n en LE.length (eFr LE) (eTo LE) LF.length (fFr LF) (fTo LF) := ⟨⟨o.1, f.1⟩, o.2.1, ⟨by omega, by have := f.2.1; omega⟩, ⟨by omega, by have := f.2.2; omega⟩, fun e a b => o.2.2.1 _ (gE_mem a b), fun i a b => o.2.2.2 _ (gF_mem a b)⟩
theorem drC_d {h : zH} {n en : Int} {LE : List eT} {LF : List fT} (k : drC h n en LE LF) (f : fits n LE LF) (b : lBk h LE) : dfC h n en LE.length (eFr LE) (eTo LE) (eX LE) LF.length (fFr LF) (fTo LF) := by
  obtain ⟨k1, k2, k3, k4, k5, k6, -, -, k7, k8⟩ := k
  exact ⟨⟨k1.1, k1.2, (k5 f.2.1).1, (k6 f.2.2).1⟩, k2, (k5 f.2.1).2, (k6 f.2.2).2, fun e z e0 e1 z0 z1 q => b _ (gE_mem e0 e1) z z0 z1 q⟩
theorem drM_d {h : zH} {n en : Int} {LE : List eT} {LF : List fT} (k : drM h n LE LF) (f : fits n LE LF) (e : h 466 50 = en) (b : h 488 LE.length ≤ 14000) : dfM h n en LE.length (eFr LE) (eTo LE) (eX LE) LF.length (fFr LF) (fTo LF) := by
  obtain ⟨k1, k2, k3, k4, -, k5, k6⟩ := k
  exact ⟨⟨k1, e, (k3 f.2.1).1, (k4 f.2.2).1⟩, ⟨(k3 f.2.1).2.1, b⟩, (k3 f.2.1).2.2, (k4 f.2.2).2⟩
/-- what a call that makes may change -/
def mkF (m c : Int) (h h' : zH) : Prop := (∀ a, kp a → a ≤ 465 ∨ a = 467 ∨ (471 ≤ a ∧ a ≤ 473) ∨ a = 514 → ¬ (m ≤ a ∧ a ≤ m + 18) → h' a = h a) ∧ (∀ j, 9 ≤ j → j ≤ 16 → ¬ j = 13 → ¬ j = 14 → h' 0 j = h 0 j) ∧ (∀ j, kms j → ¬ j = 64 → h' 466 j = h 466 j) ∧ ∀ j D, 0 ≤ j → j < 10 → ¬ j = c → mOK D → mRep h j D → mRep h' j D
theorem Inv_m {h h' : zH} {w : Int} (hI : Inv h) (hw : 0 ≤ w ∧ w ≤ 5 ∧ ¬ w = 4) (f : mkF (h 3 (h 0 13)) (h 0 13) h h') (t0 : h' 0 14 = w) (t1 : h' 466 1 = w) (t2 : h' 466 2 = -1) (hc : (h' 0 13 = h 0 13 ∧ h' 466 64 = h 0 13) ∨ (h 0 13 < 10 ∧ h' 0 13 = h 0 13 + 1 ∧ h' 466 64 = h 0 13 + 1 ∧ ∃ D : zH, mOK D ∧ cRep h' (h 3 (h 0 13)) D ∧ mRep h' (h 0 13) D ∧ pthOK h' (h 3 (h 0 13)) D)) (h9 : ¬ h 0 13 < 10 → ∀ a, kp a → h' a = h a) : Inv h' := by
  by_cases c10 : h 0 13 < 10
  · obtain ⟨f1, f2, f3, f4⟩ := f
    obtain ⟨⟨a1, a2, a3, a4, a5, a6, a7, a8⟩, b, c, ⟨d1, d2, d3, d4⟩, ⟨e1, e2, e3, e4, e5, e6⟩, g1, g2, g3⟩ := hI
    have mc := e1 (h 0 13) (by omega) c10
    have md : ∀ a, mcell a → ¬ a = h 3 (h 0 13) → ∀ x, a ≤ x → x ≤ a + 18 → ¬ (h 3 (h 0 13) ≤ x ∧ x ≤ h 3 (h 0 13) + 18) := fun a ha ne x x0 x1 => by
      have := mcell_far ha mc ne
      omega
    have r := fun a (ka : kp a) (kb : a ≤ 465 ∨ a = 467 ∨ (471 ≤ a ∧ a ≤ 473) ∨ a = 514) (kc : a ≤ 156 ∨ (233 ≤ a ∧ a ≤ 275) ∨ 466 ≤ a) => f1 a ka kb (by unfold mcell at mc; omega)
    have r3 := r 3 (by unfold kp; omega) (by omega) (by omega)
    have r81 := r 81 (by unfold kp; omega) (by omega) (by omega)
    have s9 := f2 9 (by decide) (by decide) (by decide) (by decide)
    have s10 := f2 10 (by decide) (by decide) (by decide) (by decide)
    have s11 := f2 11 (by decide) (by decide) (by decide) (by decide)
    have s12 := f2 12 (by decide) (by decide) (by decide) (by decide)
    have s15 := f2 15 (by decide) (by decide) (by decide) (by decide)
    have s16 := f2 16 (by decide) (by decide) (by decide) (by decide)
    have u4 := f3 4 (by unfold kms; omega) (by decide)
    have u10 := f3 10 (by unfold kms; omega) (by decide)
    have u22 := f3 22 (by unfold kms; omega) (by decide)
    have u65 := f3 65 (by unfold kms; omega) (by decide)
    have u77 := f3 77 (by unfold kms; omega) (by decide)
    refine ⟨⟨?_, ?_, ?_, ?_, ?_, ?_, ?_, ?_⟩, ?_, ?_, ⟨?_, ?_, ?_, ?_⟩, ⟨?_, ?_, ?_, ?_, ?_, ?_⟩, ?_, ?_, ?_⟩
    · rw [s10, u4]
      exact a1
    · rw [s11, u77]
      exact a2
    · rw [s12, u65]
      omega
    · rw [t0, t1]
      omega
    · rw [s15, u10]
      exact a5
    · rw [s16]
      exact a6
    · rw [t0]
      intro z
      omega
    · exact fun _ => t2
    · unfold iWd
      rw [s11, r 2 (by unfold kp; omega) (by omega) (by omega), r 514 (by unfold kp; omega) (by omega) (by omega)]
      exact b
    · unfold iTp
      rw [s10, r 1 (by unfold kp; omega) (by omega) (by omega), r 467 (by unfold kp; omega) (by omega) (by omega)]
      exact c
    · rw [s9, r 12 (by unfold kp; omega) (by omega) (by omega)]
      exact d1
    · rw [r 250 (by unfold kp; omega) (by omega) (by omega), r 83 (by unfold kp; omega) (by omega) (by omega)]
      exact d2
    · rw [s9, r (h 0 9) (by unfold kp; omega) (by omega) (by omega), u22]
      exact d3
    · rw [s9, r (h 0 9) (by unfold kp; omega) (by omega) (by omega)]
      intro s z0 z1
      exact set_fr (r _ (by unfold kp; omega) (by omega) (by omega)) (r _ (by unfold kp; omega) (by omega) (by omega)) (r _ (by unfold kp; omega) (by omega) (by omega)) (r _ (by unfold kp; omega) (by omega) (by omega)) (r _ (by unfold kp; omega) (by omega) (by omega)) (d4 s z0 z1)
    · rw [r3]
      exact e1
    · rw [r81]
      exact e2
    · rw [r3]
      exact e3
    · rw [r81]
      exact e4
    · rw [r3, r81]
      exact e5
    · intro i z0 z1
      by_cases w : i = h 0 13
      · rcases hc with hc | ⟨-, -, -, D, o⟩
        · omega
        · unfold macOK
          rw [r3, w]
          exact ⟨D, o⟩
      · have z2 : i < h 0 13 := by omega
        obtain ⟨D, o1, o2, o3, o4⟩ := e6 i z0 z2
        have mi := e1 i z0 (by omega)
        have nm := e3 i (h 0 13) z0 z2 c10
        unfold macOK
        rw [r3]
        refine ⟨D, o1, cRep_fr (fun a x y => f1 a (by unfold kp; unfold mcell at mi; omega) (by unfold mcell at mi; omega) (md _ mi nm a (by omega) (by omega))) o2, f4 i D z0 (by omega) w o1 o3, pth_fr (fun a x y => f1 a (by unfold kp; unfold mcell at mi; omega) (by unfold mcell at mi; omega) (md _ mi nm a (by omega) (by omega))) o4⟩
    · unfold bR
      rw [r 17 (by unfold kp; omega) (by omega) (by omega), r 18 (by unfold kp; omega) (by omega) (by omega), r 19 (by unfold kp; omega) (by omega) (by omega)]
      exact g1
    · unfold bR
      rw [r 17 (by unfold kp; omega) (by omega) (by omega), r 18 (by unfold kp; omega) (by omega) (by omega), r 19 (by unfold kp; omega) (by omega) (by omega)]
      exact g2
    · rw [r 80 (by unfold kp; omega) (by omega) (by omega)]
      exact g3
  · have n := iM_n hI
    rcases hc with hc | hc
    · refine Inv_q hI hw (h9 c10) (fun j j0 j1 j2 => ?_) ⟨f.2.2.1 4 (by unfold kms; omega) (by decide), f.2.2.1 10 (by unfold kms; omega) (by decide), f.2.2.1 22 (by unfold kms; omega) (by decide), by omega, f.2.2.1 65 (by unfold kms; omega) (by decide), f.2.2.1 77 (by unfold kms; omega) (by decide)⟩ t0 t1 t2
      by_cases w : j = 13
      · rw [w, hc.1]
      · exact f.2.1 j j0 j1 w j2
    · exact absurd hc.1 c10
