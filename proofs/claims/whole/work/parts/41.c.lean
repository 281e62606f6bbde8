/-! ===== the class's stack of bodies ===== -/
theorem bR_0 {h : zH} : bR h 0 = h 17 6 := by unfold bR; rw [if_pos rfl]
theorem bR_1 {h : zH} : bR h 1 = h 17 7 := by unfold bR; rw [if_neg (by decide), if_pos rfl]
theorem bR_e {h : zH} {l : Int} (h0 : 0 ≤ l ∧ l < 13) : bR h (2 + l) = h 18 l := by
  unfold bR
  rw [if_neg (by omega), if_neg (by omega), if_pos (by omega), show 2 + l - 2 = l by omega]
theorem bR_m {h : zH} {l : Int} (h0 : 0 ≤ l) : bR h (15 + l) = h 19 l := by
  unfold bR
  rw [if_neg (by omega), if_neg (by omega), if_neg (by omega), show 15 + l - 15 = l by omega]
theorem bR_k {h h' : zH} (e6 : h' 17 6 = h 17 6) (e7 : h' 17 7 = h 17 7) (e18 : h' 18 = h 18) (e19 : h' 19 = h 19) : bR h' = bR h := by
  funext j
  unfold bR
  rw [e6, e7, e18, e19]
theorem bR_sw {h h' : zH} {a : Int} (ha : a = 0 ∨ (2 ≤ a ∧ a < 28)) (e7 : h' 17 7 = bR h a) (e6 : h' 17 6 = if a = 0 then bR h 1 else h 17 6) (e18 : ∀ i, 0 ≤ i → i < 13 → h' 18 i = if i = a - 2 then bR h 1 else h 18 i) (e19 : ∀ i, 0 ≤ i → i < 13 → h' 19 i = if i = a - 15 then bR h 1 else h 19 i) : bR h' a = bR h 1 ∧ bR h' 1 = bR h a ∧ ∀ j, 0 ≤ j → j < 28 → ¬ j = a → ¬ j = 1 → bR h' j = bR h j := by
  refine ⟨?_, by rw [bR_1, e7], fun j j0 j1 n1 n2 => ?_⟩
  · rcases ha with ha | ha
    · rw [ha, bR_0, e6, if_pos ha]
    · by_cases c : a < 15
      · obtain ⟨l, el⟩ : ∃ l, a = 2 + l := ⟨a - 2, by omega⟩
        rw [el, bR_e (by omega), e18 l (by omega) (by omega), if_pos (by omega)]
      · obtain ⟨l, el⟩ : ∃ l, a = 15 + l := ⟨a - 15, by omega⟩
        rw [el, bR_m (by omega), e19 l (by omega) (by omega), if_pos (by omega)]
  · by_cases c0 : j = 0
    · rw [c0, bR_0, bR_0, e6, if_neg (by omega)]
    · by_cases c : j < 15
      · obtain ⟨l, el⟩ : ∃ l, j = 2 + l := ⟨j - 2, by omega⟩
        rw [el, bR_e (by omega), bR_e (by omega), e18 l (by omega) (by omega), if_neg (by omega)]
      · obtain ⟨l, el⟩ : ∃ l, j = 15 + l := ⟨j - 15, by omega⟩
        rw [el, bR_m (by omega), bR_m (by omega), e19 l (by omega) (by omega), if_neg (by omega)]
def live (l j : Int) : Prop := (2 ≤ j ∧ j ≤ 2 + l) ∨ (15 ≤ j ∧ j ≤ 15 + l)
def SS (h : zH) (Dl : List Int) (l o pd : Int) (F : Int → Int → Bool) (J N : Int → Int) : Prop := (h 17 8 = l ∧ h 17 9 = o ∧ h 17 10 = pd) ∧ (0 ≤ l ∧ l ≤ 12) ∧ bdy h ∧ (∀ j, live l j → lsP h (bR h j) (F j) Dl) ∧ ∀ j, 0 ≤ j → j ≤ l → h 20 j = J j ∧ h 21 j = N j
/-- a set's place takes another -/
def fuS (F : Int → Int → Bool) (a : Int) (S : Int → Bool) : Int → Int → Bool := fun j => if j = a then S else F j
theorem fuS_e {F : Int → Int → Bool} {a : Int} {S : Int → Bool} : fuS F a S a = S := by unfold fuS; rw [if_pos rfl]
theorem fuS_n {F : Int → Int → Bool} {a j : Int} {S : Int → Bool} (h : ¬ j = a) : fuS F a S j = F j := by unfold fuS; rw [if_neg h]
/-- what reading a body may change -/
def fB (h h' : zH) : Prop := (∀ a, ¬ a = 13 → ¬ (17 ≤ a ∧ a ≤ 79) → h' a = h a) ∧ ∀ j, ¬ (4 ≤ j ∧ j ≤ 9) → h' 13 j = h 13 j
theorem fB_r (h : zH) : fB h h := ⟨fun _ _ _ => rfl, fun _ _ => rfl⟩
theorem fB_t {h1 h2 h3 : zH} (a : fB h1 h2) (b : fB h2 h3) : fB h1 h3 := ⟨fun x p q => (b.1 x p q).trans (a.1 x p q), fun j p => (b.2 j p).trans (a.2 j p)⟩
theorem ztr_k (a b : Bool) : ztr 8 a b = (a && b) ∧ ztr 2 a b = (a && !b) ∧ ztr 14 a b = (a || b) := by
  cases a <;> cases b <;> decide +kernel
theorem zjn_k : zior (zishl (ziand 8 3) 2) (zishr 8 2) = 2 ∧ zior (zishl (ziand 2 3) 2) (zishr 2 2) = 8 := by decide +kernel
section BD
variable {G : zG} {d : Nat} {h : zH} {Dl : List Int} {l o pd : Int} {F : Int → Int → Bool} {J N : Int → Int}
/-- the conditions on the list of cuts -/
def dlK (Dl : List Int) : Prop := (Dl.length : Int) ≤ 902 ∧ (0 : Int) ∈ Dl ∧ (65536 : Int) ∈ Dl
/-- combine into the spare one -/
theorem sp_cmbS {K : zH → Prop} {jx jy f : Int} {S T : Int → Bool} (dk : dlK Dl) (b : bdy h) (hx : 0 ≤ jx ∧ jx < 28 ∧ ¬ jx = 1) (hy : 0 ≤ jy ∧ jy < 28 ∧ ¬ jy = 1) (lx : lsP h (bR h jx) S Dl) (ly : lsP h (bR h jy) T Dl) (k : ∀ h' : zH, (∀ a, ¬ a = bR h 1 → ¬ a = bR h 1 + 1 → h' a = h a) → lsP h' (bR h 1) (fun z => ztr f (S z) (T z)) Dl → K h') : zCv G (d + 1) mX3_combine [vr 3 (h 17 7), vr 3 (bR h jx), vr 3 (bR h jy), vi f] h K := by
  have b1 := b.1 1 (by decide) (by decide)
  rw [← bR_1 (h := h)]
  exact sp_cmb (bdy_ne b ⟨by decide, by decide⟩ ⟨hx.1, hx.2.1⟩ (by omega)) (bdy_ne b ⟨by decide, by decide⟩ ⟨hy.1, hy.2.1⟩ (by omega)) lx ly (by rw [bdy_ln b1]; exact dk.1) dk.2.1 dk.2.2 (fun h' g1 _ g3 => k h' g1 g3)
theorem lsP_b {h' : zH} {j s : Int} {S : Int → Bool} (b : bdy h) (hs : s = 1) (hj : 0 ≤ j ∧ j < 28 ∧ ¬ j = 1) (g : ∀ a, ¬ a = bR h 1 → ¬ a = bR h 1 + 1 → ¬ (17 ≤ a ∧ a ≤ 21) → h' a = h a) (k : lsP h (bR h j) S Dl) : lsP h' (bR h j) S Dl := by
  have n := bdy_ne b (i := j) (j := 1) ⟨hj.1, hj.2.1⟩ ⟨by decide, by decide⟩ hj.2.2
  have r := b.1 j hj.1 hj.2.1
  exact lsP_fr (g _ (by omega) (by omega) (by omega)) (g _ (by omega) (by omega) (by omega)) k
theorem sp_closeMeet {K : zH → Prop} (dk : dlK Dl) (ss : SS h Dl l o pd F J N) (k : ∀ h' : zH, fB h h' → h' 13 = h 13 → SS h' Dl l o pd (fuS F (2 + l) (fun z => F (2 + l) z || F (15 + l) z)) J N → K h') : zCv G (d + 2) mX0_closeMeet [vr 0 17] h K := by
  obtain ⟨⟨e8, e9, e10⟩, l0, b, lv, jn⟩ := ss
  have b1 := b.1 1 (by decide) (by decide)
  refine eX0_closeMeet (bX0_closeMeet_0 ?_)
  rw [e8, ← bR_e (h := h) (by omega : 0 ≤ l ∧ l < 13), ← bR_m (h := h) (by omega : 0 ≤ l)]
  refine ⟨by omega, by omega, sp_cmbS dk b (by omega) (by omega) (lv (2 + l) (Or.inl (by omega))) (lv (15 + l) (Or.inr (by omega))) (fun h5 g1 g2 => ?_)⟩
  have c : ∀ a, 13 ≤ a → a ≤ 21 → h5 a = h a := fun a x y => g1 a (by omega) (by omega)
  rw [c 17 (by decide) (by decide), c 18 (by decide) (by decide), e8]
  refine ⟨by omega, by omega, ?_⟩
  obtain ⟨h6, e6⟩ : ∃ h6, h6 = zup (zup h5 18 l (h 17 7)) 17 7 (h 18 l) := ⟨_, rfl⟩
  rw [← e6]
  have q : ∀ a, ¬ a = bR h 1 → ¬ a = bR h 1 + 1 → ¬ (17 ≤ a ∧ a ≤ 21) → h6 a = h a := fun a x y z => by rw [e6, zup_ne (by omega), zup_ne (by omega), g1 a x y]
  have q17 : ∀ j, ¬ j = 7 → h6 17 j = h 17 j := fun j x => by rw [e6, zup_ns x, zup_ne (by decide), c 17 (by decide) (by decide)]
  have sw := bR_sw (h := h) (h' := h6) (a := 2 + l) (Or.inr (by omega)) (by rw [e6, zup_eq, bR_e (by omega)]) (by rw [q17 6 (by decide), if_neg (by omega)]) (fun i i0 i1 => by
    rw [e6, zup_ne (by decide), bR_1]
    by_cases w : i = l
    · rw [w, zup_eq, if_pos (by omega)]
    · rw [zup_ns w, if_neg (by omega), c 18 (by decide) (by decide)]) (fun i i0 i1 => by rw [e6, zup_ne (by decide), zup_ne (by decide), if_neg (by omega), c 19 (by decide) (by decide)])
  refine k h6 ⟨fun a x y => q a (by omega) (by omega) (by omega), fun j x => by rw [q 13 (by omega) (by omega) (by omega)]⟩ (q 13 (by omega) (by omega) (by omega)) ⟨⟨by rw [q17 8 (by decide), e8], by rw [q17 9 (by decide), e9], by rw [q17 10 (by decide), e10]⟩, l0, bdy_sw (by omega) (by omega) (by omega) sw.1 sw.2.1 sw.2.2 b, fun j hj => ?_, fun j j0 j1 => ?_⟩
  · unfold live at hj
    by_cases w : j = 2 + l
    · rw [w, sw.1, fuS_e]
      have : lsP h6 (bR h 1) (fun z => ztr 14 (F (2 + l) z) (F (15 + l) z)) Dl := lsP_fr (by rw [e6, zup_ne (by omega), zup_ne (by omega)]) (by rw [e6, zup_ne (by omega), zup_ne (by omega)]) g2
      exact lsP_f (fun z _ _ => (ztr_k _ _).2.2) this
    · rw [fuS_n w, sw.2.2 j (by omega) (by omega) w (by omega)]
      exact lsP_b b rfl (by omega) q (lv j (by unfold live; omega))
  · have e20 : h6 20 = h 20 := by rw [e6, zup_ne (by decide), zup_ne (by decide), c 20 (by decide) (by decide)]
    have e21 : h6 21 = h 21 := by rw [e6, zup_ne (by decide), zup_ne (by decide), c 21 (by decide) (by decide)]
    rw [e20, e21]
    exact jn j j0 j1
theorem sp_openMeet {K : zH → Prop} (dk : dlK Dl) (e8 : h 17 8 = l) (e9 : h 17 9 = o) (l0 : 0 ≤ l ∧ l ≤ 12) (b : bdy h) (lv : ∀ j, live l j → ¬ j = 15 + l → lsP h (bR h j) (F j) Dl) (jn : ∀ j, 0 ≤ j → j ≤ l → (¬ j = l → h 20 j = J j) ∧ h 21 j = N j) (k : ∀ h' : zH, fB h h' → h' 13 = h 13 → SS h' Dl l o 1 (fuS F (15 + l) (fun _ => true)) (fup J l 8) N → K h') : zCv G (d + 1) mX0_openMeet [vr 0 17] h K := by
  have bm := b.1 (15 + l) (by omega) (by omega)
  refine eX0_openMeet (bX0_openMeet_0 ?_)
  rw [e8, ← bR_m (h := h) (by omega : 0 ≤ l)]
  refine ⟨by omega, sp_become (Dl := Dl) (by rw [bdy_ln bm]; decide) (by decide) dk.2.1 dk.2.2 (fun h3 g1 g2 g3 => ?_)⟩
  have c : ∀ a, 13 ≤ a → a ≤ 21 → h3 a = h a := fun a x y => g1 a (by omega) (by omega)
  rw [c 17 (by decide) (by decide), e8]
  refine ⟨by omega, ?_⟩
  obtain ⟨h6, e6⟩ : ∃ h6, h6 = zup (zup h3 20 l 8) 17 10 1 := ⟨_, rfl⟩
  rw [← e6]
  have q : ∀ a, ¬ a = bR h (15 + l) → ¬ a = bR h (15 + l) + 1 → ¬ a = 17 → ¬ a = 20 → h6 a = h a := fun a x y z w => by rw [e6, zup_ne z, zup_ne w, g1 a x y]
  have q17 : ∀ j, ¬ j = 10 → h6 17 j = h 17 j := fun j x => by rw [e6, zup_ns x, zup_ne (by decide), c 17 (by decide) (by decide)]
  have be : bR h6 = bR h := bR_k (q17 6 (by decide)) (q17 7 (by decide)) (q 18 (by omega) (by omega) (by decide) (by decide)) (q 19 (by omega) (by omega) (by decide) (by decide))
  refine k h6 ⟨fun a x y => q a (by omega) (by omega) (by omega) (by omega), fun j x => by rw [q 13 (by omega) (by omega) (by omega) (by omega)]⟩ (q 13 (by omega) (by omega) (by omega) (by omega)) ⟨⟨by rw [q17 8 (by decide), e8], by rw [q17 9 (by decide), e9], by rw [e6, zup_eq]⟩, l0, bdy_fr (fun j _ _ => by rw [be]) b, fun j hj => ?_, fun j j0 j1 => ?_⟩
  · rw [be]
    by_cases w : j = 15 + l
    · rw [w, fuS_e]
      have : lsP h6 (bR h (15 + l)) (fun z => decide (0 ≤ z ∧ z ≤ 65535)) Dl := lsP_fr (by rw [e6, zup_ne (by omega), zup_ne (by omega)]) (by rw [e6, zup_ne (by omega), zup_ne (by omega)]) g3
      exact lsP_f (fun z z0 z1 => decide_eq_true (by omega)) this
    · rw [fuS_n w]
      unfold live at hj
      have n := bdy_ne b (i := j) (j := 15 + l) (by omega) (by omega) w
      have r := b.1 j (by omega) (by omega)
      exact lsP_fr (q _ (by omega) (by omega) (by omega) (by omega)) (q _ (by omega) (by omega) (by omega) (by omega)) (lv j (by unfold live; omega) w)
  · have e21 : h6 21 = h 21 := q 21 (by omega) (by omega) (by decide) (by decide)
    rw [e21]
    refine ⟨?_, (jn j j0 j1).2⟩
    rw [e6, zup_ne (by decide), zup_r, c 20 (by decide) (by decide)]
    by_cases w : j = l
    · rw [w, fup_eq, fup_eq]
    · rw [fup_ne w, fup_ne w]
      exact (jn j j0 j1).1 w
theorem sp_openLevel {K : zH → Prop} (dk : dlK Dl) (e8 : h 17 8 = l) (e9 : h 17 9 = o) (l0 : 0 ≤ l ∧ l ≤ 12) (b : bdy h) (lv : ∀ j, live (l - 1) j → lsP h (bR h j) (F j) Dl) (jn : ∀ j, 0 ≤ j → j < l → h 20 j = J j ∧ h 21 j = N j) (k : ∀ h' : zH, fB h h' → h' 13 = h 13 → SS h' Dl l o 1 (fuS (fuS F (2 + l) (fun _ => false)) (15 + l) (fun _ => true)) (fup J l 8) (fup N l 0) → K h') : zCv G (d + 2) mX0_openLevel [vr 0 17] h K := by
  have bm := b.1 (2 + l) (by omega) (by omega)
  refine eX0_openLevel (bX0_openLevel_0 ?_)
  rw [e8, ← bR_e (h := h) (by omega : 0 ≤ l ∧ l < 13)]
  refine ⟨by omega, sp_clear (Dl := Dl) (fun h3 g1 g2 g3 => ?_)⟩
  have c : ∀ a, 13 ≤ a → a ≤ 21 → h3 a = h a := fun a x y => g1 a (by omega)
  rw [c 17 (by decide) (by decide), e8]
  obtain ⟨h4, e4⟩ : ∃ h4, h4 = zup h3 21 l 0 := ⟨_, rfl⟩
  rw [← e4]
  have q : ∀ a, ¬ a = bR h (2 + l) → ¬ a = 21 → h4 a = h a := fun a x y => by rw [e4, zup_ne y, g1 a x]
  have q1 : ∀ a, ¬ a = 21 → h4 a = h3 a := fun a y => by rw [e4, zup_ne y]
  have be : bR h4 = bR h := bR_k (by rw [q 17 (by omega) (by decide)]) (by rw [q 17 (by omega) (by decide)]) (q 18 (by omega) (by decide)) (q 19 (by omega) (by decide))
  refine ⟨by omega, sp_openMeet (F := fuS F (2 + l) (fun _ => false)) (J := J) (N := fup N l 0) dk (by rw [q 17 (by omega) (by decide), e8]) (by rw [q 17 (by omega) (by decide), e9]) l0 (bdy_fr (fun j _ _ => by rw [be]) b) (fun j hj nj => ?_) (fun j j0 j1 => ⟨fun w => ?_, ?_⟩) (fun h' f1 f2 f3 => k h' (fB_t ⟨fun a x y => q a (by omega) (by omega), fun j x => by rw [q 13 (by omega) (by decide)]⟩ f1) (by rw [f2, q 13 (by omega) (by decide)]) f3)⟩
  · rw [be]
    by_cases w : j = 2 + l
    · rw [w, fuS_e]
      exact lsP_fr (q1 _ (by omega)) (q1 _ (by omega)) g3
    · rw [fuS_n w]
      unfold live at hj
      have n := bdy_ne b (i := j) (j := 2 + l) (by omega) (by omega) w
      have r := b.1 j (by omega) (by omega)
      exact lsP_fr (q _ (by omega) (by omega)) (q _ (by omega) (by omega)) (lv j (by unfold live; omega))
  · rw [q 20 (by omega) (by decide)]
    exact (jn j j0 (by omega)).1
  · rw [e4, zup_r, c 21 (by decide) (by decide)]
    by_cases w : j = l
    · rw [w, fup_eq, fup_eq]
    · rw [fup_ne w, fup_ne w]
      exact (jn j j0 (by omega)).2
theorem sp_closePart {K : zH → Prop} {jx : Int} {T : Int → Bool} (dk : dlK Dl) (ss : SS h Dl l o pd F J N) (hx : jx = 0 ∨ jx = 3 + l ∧ l ≤ 11) (lx : lsP h (bR h jx) T Dl) (jl : J l = 8 ∨ J l = 2) (nl : 0 ≤ N l ∧ N l ≤ 12) (k : ∀ h' : zH, fB h h' → h' 13 = h 13 → SS h' Dl l (o - N l) 0 (fuS F (15 + l) (fun z => if J l = 8 then (F (15 + l) z && (if N l % 2 = 1 then !(T z) else T z)) else (F (15 + l) z && !(if N l % 2 = 1 then !(T z) else T z)))) J (fup N l 0) → K h') : zCv G (d + 2) mX0_closePart [vr 0 17, vr 3 (bR h jx)] h K := by
  obtain ⟨⟨e8, e9, e10⟩, l0, b, lv, jn⟩ := ss
  have b1 := b.1 1 (by decide) (by decide)
  have jnl := jn l (by omega) (by omega)
  -- behind the combining
  have aft : ∀ (h5 : zH) (f : Int), (∀ a, ¬ a = bR h 1 → ¬ a = bR h 1 + 1 → h5 a = h a) → lsP h5 (bR h 1) (fun z => ztr f (F (15 + l) z) (T z)) Dl → (∀ a b : Bool, ztr f a b = if J l = 8 then (a && (if N l % 2 = 1 then !b else b)) else (a && !(if N l % 2 = 1 then !b else b))) → (0 ≤ h5 17 8 ∧ h5 17 8 < 13) ∧ (0 ≤ h5 17 8 ∧ h5 17 8 < 13) ∧ (0 ≤ h5 17 8 ∧ h5 17 8 < 13) ∧ (0 ≤ h5 17 8 ∧ h5 17 8 < 13) ∧ K (zup (zup (zup (zup (zup h5 19 (h5 17 8) (h5 17 7)) 17 7 (h5 19 (h5 17 8))) 17 9 ((h5 17 9) - (h5 21 (h5 17 8)))) 21 (h5 17 8) 0) 17 10 0) := by
    intro h5 f g1 g2 zf
    have c : ∀ a, 13 ≤ a → a ≤ 21 → h5 a = h a := fun a x y => g1 a (by omega) (by omega)
    rw [c 17 (by decide) (by decide), c 19 (by decide) (by decide), c 21 (by decide) (by decide), e8, e9, jnl.2]
    refine ⟨by omega, by omega, by omega, by omega, ?_⟩
    obtain ⟨h6, e6⟩ : ∃ h6, h6 = zup (zup (zup (zup (zup h5 19 l (h 17 7)) 17 7 (h 19 l)) 17 9 (o - N l)) 21 l 0) 17 10 0 := ⟨_, rfl⟩
    rw [← e6]
    have q : ∀ a, ¬ a = bR h 1 → ¬ a = bR h 1 + 1 → ¬ (17 ≤ a ∧ a ≤ 21) → h6 a = h a := fun a x y z => by rw [e6, zup_ne (by omega), zup_ne (by omega), zup_ne (by omega), zup_ne (by omega), zup_ne (by omega), g1 a x y]
    have q17 : ∀ j, ¬ j = 7 → ¬ j = 9 → ¬ j = 10 → h6 17 j = h 17 j := fun j x y z => by rw [e6, zup_ns z, zup_ne (by decide), zup_ns y, zup_ns x, zup_ne (by decide), c 17 (by decide) (by decide)]
    have q18 : h6 18 = h 18 := by rw [e6, zup_ne (by decide), zup_ne (by decide), zup_ne (by decide), zup_ne (by decide), zup_ne (by decide), c 18 (by decide) (by decide)]
    have sw := bR_sw (h := h) (h' := h6) (a := 15 + l) (Or.inr (by omega)) (by rw [e6, zup_ns (by decide), zup_ne (by decide), zup_ns (by decide), zup_eq, bR_m (by omega)]) (by rw [q17 6 (by decide) (by decide) (by decide), if_neg (by omega)]) (fun i i0 i1 => by rw [q18, if_neg (by omega)]) (fun i i0 i1 => by
      rw [e6, zup_ne (by decide), zup_ne (by decide), zup_ne (by decide), zup_ne (by decide), bR_1]
      by_cases w : i = l
      · rw [w, zup_eq, if_pos (by omega)]
      · rw [zup_ns w, if_neg (by omega), c 19 (by decide) (by decide)])
    refine k h6 ⟨fun a x y => q a (by omega) (by omega) (by omega), fun j x => by rw [q 13 (by omega) (by omega) (by omega)]⟩ (q 13 (by omega) (by omega) (by omega)) ⟨⟨by rw [q17 8 (by decide) (by decide) (by decide), e8], by rw [e6, zup_ns (by decide), zup_ne (by decide), zup_eq], by rw [e6, zup_eq]⟩, l0, bdy_sw (by omega) (by omega) (by omega) sw.1 sw.2.1 sw.2.2 b, fun j hj => ?_, fun j j0 j1 => ?_⟩
    · unfold live at hj
      by_cases w : j = 15 + l
      · rw [w, sw.1, fuS_e]
        have : lsP h6 (bR h 1) (fun z => ztr f (F (15 + l) z) (T z)) Dl := lsP_fr (by rw [e6, zup_ne (by omega), zup_ne (by omega), zup_ne (by omega), zup_ne (by omega), zup_ne (by omega)]) (by rw [e6, zup_ne (by omega), zup_ne (by omega), zup_ne (by omega), zup_ne (by omega), zup_ne (by omega)]) g2
        exact lsP_f (fun z _ _ => zf _ _) this
      · rw [fuS_n w, sw.2.2 j (by omega) (by omega) w (by omega)]
        exact lsP_b b rfl (by omega) q (lv j (by unfold live; omega))
    · have e20 : h6 20 = h 20 := by rw [e6, zup_ne (by decide), zup_ne (by decide), zup_ne (by decide), zup_ne (by decide), zup_ne (by decide), c 20 (by decide) (by decide)]
      have e21 : h6 21 = fup (h 21) l 0 := by rw [e6, zup_ne (by decide), zup_r, zup_ne (by decide), zup_ne (by decide), zup_ne (by decide), c 21 (by decide) (by decide)]
      rw [e20, e21]
      refine ⟨(jn j j0 j1).1, ?_⟩
      by_cases w : j = l
      · rw [w, fup_eq, fup_eq]
      · rw [fup_ne w, fup_ne w]
        exact (jn j j0 j1).2
  refine eX0_closePart (bX0_closePart_0 ?_)
  rw [e8, jnl.1, jnl.2, ← bR_m (h := h) (by omega : 0 ≤ l)]
  have lm := lv (15 + l) (Or.inr (by omega))
  refine ⟨by omega, by omega, by omega, fun ev => ⟨by omega, sp_cmbS dk b (by omega) (by omega) lm lx (fun h5 g1 g2 => aft h5 _ g1 g2 (fun a b => ?_))⟩, fun od => ⟨by omega, sp_cmbS dk b (by omega) (by omega) lm lx (fun h5 g1 g2 => aft h5 _ g1 g2 (fun a b => ?_))⟩⟩
  · rw [if_neg ev]
    rcases jl with jl | jl
    · rw [jl, if_pos rfl]
      exact (ztr_k a b).1
    · rw [jl, if_neg (by decide)]
      exact (ztr_k a b).2.1
  · rw [if_pos od]
    rcases jl with jl | jl
    · rw [jl, if_pos rfl, zjn_k.1]
      exact (ztr_k a b).2.1
    · rw [jl, if_neg (by decide), zjn_k.2, (ztr_k a b).1, Bool.not_not]
end BD
