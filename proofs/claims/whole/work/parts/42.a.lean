/-! ===== the class reads ranges and names ===== -/
def TX (h : zH) (K Sp V : Int → Int) (m i : Int) : Prop := (h 14 = K ∧ (∀ j, 0 ≤ j → j < m → h 15 j = Sp j) ∧ h 16 = V ∧ h 13 8 = 0 ∧ h 13 9 = -1) ∧ h 13 3 = m ∧ (0 ≤ i ∧ i < m) ∧ h 13 4 = i ∧ h 13 5 = K i ∧ h 13 6 = Sp i ∧ h 13 7 = V i
def TK (K V : Int → Int) (m : Int) : Prop := (1 ≤ m ∧ m ≤ 901) ∧ ∀ i, 0 ≤ i → i < m → zR (K i) ∧ (K i = 3 → 0 ≤ V i ∧ V i < 100000) ∧ (K i = 2 → 0 ≤ V i ∧ V i ≤ 34359738368) ∧ (i + 1 < m ↔ ¬ K i = 0 ∧ ¬ K i = 1)
theorem TX_fr {h h' : zH} {K Sp V : Int → Int} {m i : Int} (t : TX h K Sp V m i) (e1 : h' 13 = h 13) (e2 : h' 14 = h 14) (e3 : h' 15 = h 15) (e4 : h' 16 = h 16) : TX h' K Sp V m i := by
  unfold TX
  rw [e1, e2, e3, e4]
  exact t
theorem TX_lt {h : zH} {K Sp V : Int → Int} {m i : Int} (tk : TK K V m) (t : TX h K Sp V m i) (k0 : ¬ K i = 0) (k1 : ¬ K i = 1) : i + 1 < m := ((tk.2 i t.2.2.1.1 t.2.2.1.2).2.2.2).mpr ⟨k0, k1⟩
section RR
variable {G : zG} {d : Nat} {h : zH} {K Sp V : Int → Int} {m i : Int}
theorem sp_stepT {Q : zH → Prop} (tk : TK K V m) (t : TX h K Sp V m i) (k0 : ¬ K i = 0) (k1 : ¬ K i = 1) (k : ∀ h' : zH, (∀ a, ¬ a = 13 → h' a = h a) → (∀ j, ¬ (4 ≤ j ∧ j ≤ 7) → h' 13 j = h 13 j) → TX h' K Sp V m (i + 1) → Q h') : zCv G d mX10_step [vr 10 13] h Q := by
  have lt := TX_lt tk t k0 k1
  obtain ⟨⟨t1, t2, t3, ta, tb⟩, t4, t5, t6, t7, t8, t9⟩ := t
  refine sp_tstep t6 (by omega) (by rw [t4]; exact tk.1.2) (fun h' g1 g2 g3 => k h' g1 g2 ⟨⟨by rw [g1 14 (by decide), t1], fun j a b => by rw [g1 15 (by decide), t2 j a b], by rw [g1 16 (by decide), t3], by rw [g2 8 (by omega), ta], by rw [g2 9 (by omega), tb]⟩, by rw [g2 3 (by omega), t4], by omega, g3.1, ?_, ?_, ?_⟩)
  · rw [g3.2.1, g1 14 (by decide), t1]
  · rw [g3.2.2.1, g1 15 (by decide), t2 (i + 1) (by omega) lt]
  · rw [g3.2.2.2, g1 16 (by decide), t3]
/-- a fault told -/
def FT (h h' : zH) (n s : Int) : Prop := fB h h' ∧ h' 13 8 = n ∧ h' 13 9 = s ∧ bdy h'
theorem FT_t {h1 h2 h3 : zH} {n s : Int} (a : fB h1 h2) (b : FT h2 h3 n s) : FT h1 h3 n s := ⟨fB_t a b.1, b.2⟩
theorem sp_failT {Q : Bool → zH → Prop} {n : Int} (bd : bdy h) (t : TX h K Sp V m i) (k : ∀ h' : zH, (∀ a, ¬ a = 13 → h' a = h a) → (∀ j, ¬ (8 ≤ j ∧ j ≤ 9) → h' 13 j = h 13 j) → FT h h' n (Sp i) → Q false h') : zCb G d mX10_fail [vr 10 13, vi n] h Q := by
  refine eX10_fail (bX10_fail_0 (k _ (fun a p => ?_) (fun j p => ?_) ⟨⟨fun a p q => ?_, fun j p => ?_⟩, ?_, ?_, bdy_fr (fun j _ _ => by rw [bR_k (h := h) (by rw [zup_ne (by decide), zup_ne (by decide)]) (by rw [zup_ne (by decide), zup_ne (by decide)]) (by rw [zup_ne (by decide), zup_ne (by decide)]) (by rw [zup_ne (by decide), zup_ne (by decide)])]) bd⟩))
  · rw [zup_ne p, zup_ne p]
  · rw [zup_ns (by omega), zup_ns (by omega)]
  · rw [zup_ne p, zup_ne p]
  · rw [zup_ns (by omega), zup_ns (by omega)]
  · rw [zup_ns (by decide), zup_eq]
  · rw [zup_eq, t.2.2.2.2.2.1]
theorem sp_readBound {Q : Int → zH → Prop} {a : Int} (ha : 0 ≤ a ∧ a < 65536) (bd : bdy h) (tk : TK K V m) (t : TX h K Sp V m i) (k1 : K i = 3 → V i < 65536 → a ≤ V i → ∀ h' : zH, (∀ a, ¬ a = 13 → h' a = h a) → fB h h' → TX h' K Sp V m (i + 1) → Q (V i) h') (k2 : ∀ n, (¬ K i = 3 ∧ n = 1) ∨ (K i = 3 ∧ n = 4 ∧ (65536 ≤ V i ∨ V i < a)) → ∀ h' : zH, FT h h' n (Sp i) → Q (-1) h') : zCi G (d + 1) mX0_readBound [vr 0 17, vi a] h Q := by
  have ti := tk.2 i t.2.2.1.1 t.2.2.1.2
  refine eX0_readBound (bX0_readBound_0 ?_)
  rw [t.2.2.2.2.1, t.2.2.2.2.2.2]
  refine ⟨ti.1, fun e3 => ?_, fun n3 => sp_failT bd t (fun h' _ _ f => k2 1 (Or.inl ⟨n3, rfl⟩) h' f)⟩
  have v0 := ti.2.1 e3
  have z1 := zcmp_lt (x := V i) (y := 65536) ⟨by omega, by omega⟩ ⟨by decide, by decide⟩
  have z2 := zcmp_lt (x := V i) (y := a) ⟨by omega, by omega⟩ ⟨by omega, by omega⟩
  have zz : ∀ x y : Int, zRL x → zRL y → (0 ≤ zcmp x y ↔ y ≤ x) := fun x y hx hy => by
    have z := zcmp_lt hx hy
    rcases Int.lt_trichotomy x y with c | c | c
    · rw [z.1.mpr c]; omega
    · rw [z.2.1.mpr c]; omega
    · rw [z.2.2.mpr c]; omega
  rw [zz (V i) 65536 ⟨by omega, by omega⟩ ⟨by decide, by decide⟩, zz (V i) a ⟨by omega, by omega⟩ ⟨by omega, by omega⟩]
  refine ⟨fun q => sp_failT bd t (fun h' _ _ f => k2 4 (Or.inr ⟨e3, rfl, Or.inl q⟩) h' f), fun q => ⟨⟨by omega, by omega⟩, fun q2 => sp_stepT tk t (by omega) (by omega) (fun h' g1 g2 g3 => ⟨⟨by omega, by omega⟩, k1 e3 (by omega) q2 h' g1 ⟨fun a p _ => g1 a p, fun j p => g2 j (by omega)⟩ g3⟩), fun q2 => sp_failT bd t (fun h' _ _ f => k2 4 (Or.inr ⟨e3, rfl, Or.inr (by omega)⟩) h' f)⟩⟩
/-- what the list of cuts must hold -/
def DL (K V : Int → Int) (m : Int) (Dl : List Int) : Prop := dlK Dl ∧ ∀ i, 0 ≤ i → i + 1 < m → (K i = 3 → V i ∈ Dl) ∧ (K i = 91 ∨ K i = 44 → K (i + 1) = 3 → (K (i + 2) = 4 → K (i + 3) = 3 → V (i + 3) + 1 ∈ Dl) ∧ (¬ K (i + 2) = 4 → V (i + 1) + 1 ∈ Dl))
theorem z22 : zln 23 = 2 := by decide +kernel
/-- what stays while a leaf is read -/
def LF (h h' : zH) : Prop := fB h h' ∧ (∀ j, ¬ (j = 6 ∨ j = 7) → h' 17 j = h 17 j) ∧ (∀ a, 18 ≤ a → a ≤ 21 → h' a = h a) ∧ ((bR h' 0 = bR h 0 ∧ bR h' 1 = bR h 1) ∨ (bR h' 0 = bR h 1 ∧ bR h' 1 = bR h 0)) ∧ ∀ a, 24 ≤ a → ¬ a = bR h 0 → ¬ a = bR h 0 + 1 → ¬ a = bR h 1 → ¬ a = bR h 1 + 1 → h' a = h a
theorem LF_t {h1 h2 h3 : zH} (a : LF h1 h2) (b : LF h2 h3) : LF h1 h3 := by
  obtain ⟨a1, a2, a3, a4, a5⟩ := a
  obtain ⟨b1, b2, b3, b4, b5⟩ := b
  refine ⟨fB_t a1 b1, fun j p => (b2 j p).trans (a2 j p), fun x p q => (b3 x p q).trans (a3 x p q), by omega, fun x p q1 q2 q3 q4 => (b5 x p ?_ ?_ ?_ ?_).trans (a5 x p q1 q2 q3 q4)⟩ <;> omega
theorem LF_r (h : zH) : LF h h := ⟨fB_r h, fun _ _ => rfl, fun _ _ _ => rfl, Or.inl ⟨rfl, rfl⟩, fun _ _ _ _ _ _ => rfl⟩
theorem LF_13 {h h' : zH} (e : ∀ a, ¬ a = 13 → h' a = h a) (f : fB h h') : LF h h' := ⟨f, fun j _ => by rw [e 17 (by decide)], fun a p q => e a (by omega), Or.inl ⟨by rw [bR_0, bR_0, e 17 (by decide)], by rw [bR_1, bR_1, e 17 (by decide)]⟩, fun a p _ _ _ _ => e a (by omega)⟩
theorem bR_2 {h h' : zH} {j : Int} (hj : 2 ≤ j ∧ j < 28) (e18 : h' 18 = h 18) (e19 : h' 19 = h 19) : bR h' j = bR h j := by
  unfold bR
  rw [if_neg (show ¬ j = 0 by omega), if_neg (show ¬ j = 1 by omega), if_neg (show ¬ j = 0 by omega), if_neg (show ¬ j = 1 by omega), e18, e19]
theorem bdy_LF {h' : zH} (b : bdy h) (f : LF h h') : bdy h' := by
  obtain ⟨f1, f2, f3, f4, f5⟩ := f
  have e2 : ∀ j, 2 ≤ j → j < 28 → bR h' j = bR h j := fun j p q => bR_2 ⟨p, q⟩ (f3 18 (by decide) (by decide)) (f3 19 (by decide) (by decide))
  rcases f4 with f4 | f4
  · exact bdy_fr (fun j p q => by
      by_cases c0 : j = 0
      · rw [c0]; exact f4.1
      by_cases c1 : j = 1
      · rw [c1]; exact f4.2
      exact e2 j (by omega) q) b
  · exact bdy_sw (a := 0) (c := 1) (by decide) (by decide) (by decide) f4.1 f4.2 (fun j p q r s => e2 j (by omega) q) b
/-- a range comes to the leaf -/
theorem sp_range1 {Q : zH → Prop} {Dl : List Int} {a b : Int} {S : Int → Bool} (dk : dlK Dl) (bd : bdy h) (ab : 0 ≤ a ∧ a ≤ b ∧ b < 65536) (da : a ∈ Dl) (db : b + 1 ∈ Dl) (lx : lsP h (bR h 0) S Dl) (k : ∀ h' : zH, (∀ x, 13 ≤ x → x ≤ 21 → h' x = h x) → (∀ x, ¬ (22 ≤ x ∧ x ≤ 23) → ¬ x = bR h 1 → ¬ x = bR h 1 + 1 → h' x = h x) → lsP h' (bR h 1) (uR S a b) Dl → Q h') : zCv G (d + 1) mX3_become [vr 3 22, vi a, vi b] h (fun h8 => zCv G (d + 1) mX3_combine [vr 3 (h8 17 7), vr 3 (h8 17 6), vr 3 22, vi 14] h8 Q) := by
  have b0 := bd.1 0 (by decide) (by decide)
  have b1 := bd.1 1 (by decide) (by decide)
  have n := bdy_ne bd (i := 1) (j := 0) (by decide) (by decide) (by decide)
  refine sp_become (Dl := Dl) (by rw [show (22 : Int) + 1 = 23 by decide, z22]; decide) ab da db (fun h8 g1 g2 g3 => ?_)
  have e17 : h8 17 = h 17 := g1 17 (by decide) (by decide)
  rw [e17, ← bR_0 (h := h), ← bR_1 (h := h)]
  refine sp_cmb n (by omega) (lsP_fr (g1 _ (by omega) (by omega)) (g1 _ (by omega) (by omega)) lx) g3 (by rw [bdy_ln b1]; exact dk.1) dk.2.1 dk.2.2 (fun h' q1 q2 q3 => k h' (fun x p1 p2 => by rw [q1 x (by omega) (by omega), g1 x (by omega) (by omega)]) (fun x p1 p2 p3 => by rw [q1 x p2 p3, g1 x (by omega) (by omega)]) (lsP_f (fun z _ _ => (ztr_k _ _).2.2) q3))
theorem rng_c {f : Nat} {S : Int → Bool} : rng K Sp V (f + 1) i S = if ¬ K (i + 1) = 3 then rF 1 (Sp (i + 1)) else if 65536 ≤ V (i + 1) then rF 4 (Sp (i + 1)) else
    if K (i + 2) = 4 then
      (if ¬ K (i + 3) = 3 then rF 1 (Sp (i + 3)) else if 65536 ≤ V (i + 3) ∨ V (i + 3) < V (i + 1) then rF 4 (Sp (i + 3)) else
      if K (i + 4) = 93 then rO (i + 5) (uR S (V (i + 1)) (V (i + 3))) else if K (i + 4) = 44 then rng K Sp V f (i + 4) (uR S (V (i + 1)) (V (i + 3))) else rF 1 (Sp (i + 4)))
    else
      (if K (i + 2) = 93 then rO (i + 3) (uR S (V (i + 1)) (V (i + 1))) else if K (i + 2) = 44 then rng K Sp V f (i + 2) (uR S (V (i + 1)) (V (i + 1))) else rF 1 (Sp (i + 2))) := rfl
theorem sp_readRanges {Q : Bool → zH → Prop} {Dl : List Int} {f : Nat} (tk : TK K V m) (dl : DL K V m Dl) (bd : bdy h) (t : TX h K Sp V m i) (k9 : K i = 91) (mf : m ≤ i + f + 1) (k1 : ∀ S, (rng K Sp V f i (fun _ => false)).1 = 0 → (rng K Sp V f i (fun _ => false)).2.2.2 = S → ∀ h' : zH, LF h h' → TX h' K Sp V m (rng K Sp V f i (fun _ => false)).2.2.1 → i < (rng K Sp V f i (fun _ => false)).2.2.1 → lsP h' (bR h' 0) S Dl → Q true h') (k2 : ¬ (rng K Sp V f i (fun _ => false)).1 = 0 → ∀ h' : zH, FT h h' (rng K Sp V f i (fun _ => false)).1 (rng K Sp V f i (fun _ => false)).2.1 → Q false h') : zCb G (d + 3) mX0_readRanges [vr 0 17] h Q := by
  have dk := dl.1
  obtain ⟨R, eR⟩ : ∃ R, R = rng K Sp V f i (fun _ => false) := ⟨_, rfl⟩
  rw [← eR] at k1 k2
  have go : ∀ (f : Nat) (j w : Int) (S : Int → Bool) (h1 : zH), m ≤ j + f + 1 → 0 ≤ w ∧ w ≤ j → i ≤ j → (K j = 91 ∨ K j = 44) → LF h h1 → bdy h1 → TX h1 K Sp V m j → lsP h1 (bR h1 0) S Dl → rng K Sp V f j S = R → tX0_readRanges_9 G (d + 2) Q w h1 := by
    intro f
    induction f with
    | zero =>
      intro j w S h1 mf hw ij kj f1 bd t ls eq
      exact absurd (TX_lt tk t (by omega) (by omega)) (by omega)
    | succ f ih =>
      intro j w S h1 mf hw ij kj f1 bd t ls eq
      have j0 := t.2.2.1
      have m9 := tk.1
      have b0 := bd.1 0 (by decide) (by decide)
      have b1 := bd.1 1 (by decide) (by decide)
      have n01 := bdy_ne bd (i := 1) (j := 0) (by decide) (by decide) (by decide)
      have j1 := TX_lt tk t (by omega) (by omega)
      have dj := dl.2 j j0.1 j1
      rw [rng_c] at eq
      -- behind the range
      have tail : ∀ (p a b : Int) (h6 : zH), LF h h6 → bdy h6 → TX h6 K Sp V m p → lsP h6 (bR h6 0) S Dl → j + 1 < p → 0 ≤ a ∧ a ≤ b ∧ b < 65536 → a ∈ Dl → b + 1 ∈ Dl → (if K p = 93 then rO (p + 1) (uR S a b) else if K p = 44 then rng K Sp V f p (uR S a b) else rF 1 (Sp p)) = R → zCv G (d + 2) mX3_become [vr 3 22, vi a, vi b] h6 (fun h20 => zCv G (d + 2) mX3_combine [vr 3 (h20 17 7), vr 3 (h20 17 6), vr 3 22, vi 14] h20 (fun h24 => zR (h24 13 5) ∧ (¬ (h24 13 5) = 93 → zR (h24 13 5) ∧ ((h24 13 5) = 44 → tX0_readRanges_9 G (d + 2) Q (w + 1) (zup (zup h24 17 6 (h24 17 7)) 17 7 (h24 17 6))) ∧ (¬ (h24 13 5) = 44 → zCb G (d + 2) mX10_fail [vr 10 13, vi 1] (zup (zup h24 17 6 (h24 17 7)) 17 7 (h24 17 6)) (fun x27 h28 => Q x27 h28))) ∧ ((h24 13 5) = 93 → zCv G (d + 2) mX10_step [vr 10 13] (zup (zup h24 17 6 (h24 17 7)) 17 7 (h24 17 6)) (fun h30 => Q true h30)))) := by
        intro p a b h6 f6 bd6 t6 ls6 jp ab da db eq
        have c0 := bd6.1 0 (by decide) (by decide)
        have c1 := bd6.1 1 (by decide) (by decide)
        refine sp_range1 (d := d + 1) dk bd6 ab da db ls6 (fun h24 g1 g2 g3 => ?_)
        rw [g1 13 (by decide) (by decide), t6.2.2.2.2.1, g1 17 (by decide) (by decide)]
        obtain ⟨h25, e25⟩ : ∃ h25, h25 = zup (zup h24 17 6 (h6 17 7)) 17 7 (h6 17 6) := ⟨_, rfl⟩
        rw [← e25]
        have q : ∀ x, ¬ x = 17 → h25 x = h24 x := fun x p => by rw [e25, zup_ne p, zup_ne p]
        have q17 : ∀ y, ¬ (y = 6 ∨ y = 7) → h25 17 y = h6 17 y := fun y p => by rw [e25, zup_ns (by omega), zup_ns (by omega), g1 17 (by decide) (by decide)]
        have r0 : bR h25 0 = bR h6 1 := by rw [bR_0, bR_1, e25, zup_ns (by decide), zup_eq]
        have r1 : bR h25 1 = bR h6 0 := by rw [bR_1, bR_0, e25, zup_eq]
        have L1 : LF h6 h25 := ⟨⟨fun x p1 p2 => by rw [q x (by omega), g2 x (by omega) (by omega) (by omega)], fun y p => by rw [q 13 (by decide), g1 13 (by decide) (by decide)]⟩, q17, fun x p1 p2 => by rw [q x (by omega), g1 x (by omega) (by omega)], Or.inr ⟨r0, r1⟩, fun x p1 p2 p3 p4 p5 => by rw [q x (by omega), g2 x (by omega) p4 p5]⟩
        have L2 := LF_t f6 L1
        have bd2 := bdy_LF bd6 L1
        have t2 : TX h25 K Sp V m p := TX_fr t6 (by rw [q 13 (by decide), g1 13 (by decide) (by decide)]) (by rw [q 14 (by decide), g1 14 (by decide) (by decide)]) (by rw [q 15 (by decide), g1 15 (by decide) (by decide)]) (by rw [q 16 (by decide), g1 16 (by decide) (by decide)])
        have ls2 : lsP h25 (bR h25 0) (uR S a b) Dl := by
          rw [r0]
          exact lsP_fr (q _ (by omega)) (q _ (by omega)) g3
        have p0 := t6.2.2.1
        have kr := (tk.2 p p0.1 p0.2).1
        refine ⟨kr, fun n93 => ⟨kr, fun e44 => ?_, fun n44 => sp_failT bd2 t2 (fun h' _ _ ft => ?_)⟩, fun e93 => sp_stepT tk t2 (by omega) (by omega) (fun h' u1 u2 u3 => ?_)⟩
        · rw [if_neg n93, if_pos e44] at eq
          exact ih p (w + 1) _ h25 (by omega) (by omega) (by omega) (Or.inr e44) L2 bd2 t2 ls2 eq
        · rw [if_neg n93, if_neg n44] at eq
          rw [← eq] at k2
          exact k2 (show ¬ (1 : Int) = 0 by decide) h' (FT_t L2.1 ft)
        · rw [if_pos e93] at eq
          rw [← eq] at k1
          have L3 : LF h25 h' := LF_13 u1 ⟨fun x p1 _ => u1 x p1, fun y p => u2 y (by omega)⟩
          refine k1 _ rfl rfl h' (LF_t L2 L3) u3 (by show i < p + 1; omega) ?_
          have e0 : bR h' 0 = bR h25 0 := by rw [bR_0, bR_0, u1 17 (by decide)]
          have := bd2.1 0 (by decide) (by decide)
          rw [e0]
          exact lsP_fr (u1 _ (by omega)) (u1 _ (by omega)) ls2
      refine bX0_readRanges_9 ⟨⟨by omega, by omega⟩, fun z => absurd z (by omega), fun _ => sp_stepT tk t (by omega) (by omega) (fun h4 g1 g2 g3 => ?_)⟩
      have f4 : LF h h4 := LF_t f1 (LF_13 g1 ⟨fun x p1 _ => g1 x p1, fun y p => g2 y (by omega)⟩)
      have bd4 : bdy h4 := bdy_LF bd (LF_13 g1 ⟨fun x p1 _ => g1 x p1, fun y p => g2 y (by omega)⟩)
      refine sp_readBound (d := d + 1) ⟨by decide, by decide⟩ bd4 tk g3 (fun e3 v1 v0 h6 u1 u2 u3 => ?_) (fun n hn h' ft => ⟨zR_m1, fun _ => ⟨zR_m1, fun z => absurd z (by decide), fun _ => ?_⟩, fun z => absurd (by decide) z⟩)
      · rw [if_neg (show ¬ ¬ K (j + 1) = 3 from fun z => z e3), if_neg (by omega)] at eq
        rw [show j + 1 + 1 = j + 2 by omega] at u3
        have f6 : LF h4 h6 := LF_13 u1 u2
        have f61 : LF h1 h6 := LF_t (LF_13 g1 ⟨fun x p1 _ => g1 x p1, fun y p => g2 y (by omega)⟩) f6
        have bd6 := bdy_LF bd f61
        have e17 : h6 17 = h1 17 := by rw [u1 17 (by decide), g1 17 (by decide)]
        have ls6 : lsP h6 (bR h6 0) S Dl := by
          have e0 : bR h6 0 = bR h1 0 := by rw [bR_0, bR_0, e17]
          rw [e0]
          exact lsP_fr (by rw [u1 _ (by omega), g1 _ (by omega)]) (by rw [u1 _ (by omega), g1 _ (by omega)]) ls
        have p0 := u3.2.2.1
        have kr := (tk.2 (j + 2) p0.1 p0.2).1
        have dv := (dl.2 (j + 1) (by omega) (by omega)).1 e3
        have dd := dj.2 kj e3
        refine ⟨⟨by omega, by omega⟩, fun z => absurd z (by omega), fun _ => ?_⟩
        rw [u3.2.2.2.2.1]
        refine ⟨kr, fun n4 => ⟨⟨by omega, by omega⟩, fun _ => ?_, fun z => absurd (by omega) z⟩, fun e4 => ?_⟩
        · rw [if_neg n4] at eq
          exact tail (j + 2) (V (j + 1)) (V (j + 1)) h6 (LF_t f4 f6) bd6 u3 ls6 (by omega) (by omega) dv (dd.2 n4) (by rw [show j + 2 + 1 = j + 3 by omega]; exact eq)
        · rw [if_pos e4] at eq
          refine sp_stepT tk u3 (by omega) (by omega) (fun h32 y1 y2 y3 => ?_)
          rw [show j + 2 + 1 = j + 3 by omega] at y3
          have f32 : LF h6 h32 := LF_13 y1 ⟨fun x p1 _ => y1 x p1, fun y p => y2 y (by omega)⟩
          refine sp_readBound (d := d + 1) ⟨by omega, by omega⟩ (bdy_LF bd6 f32) tk y3 (fun e33 v31 v30 h34 s1 s2 s3 => ⟨⟨by omega, by omega⟩, fun _ => ?_, fun z => absurd (by omega) z⟩) (fun n hn h' ft => ⟨zR_m1, fun z => absurd z (by decide), fun _ => ?_⟩)
          · rw [if_neg (show ¬ ¬ K (j + 3) = 3 from fun z => z e33), if_neg (by omega)] at eq
            rw [show j + 3 + 1 = j + 4 by omega] at s3
            have f34 : LF h32 h34 := LF_13 s1 s2
            have bd34 := bdy_LF bd6 (LF_t f32 f34)
            have ls34 : lsP h34 (bR h34 0) S Dl := by
              have e0 : bR h34 0 = bR h6 0 := by rw [bR_0, bR_0, s1 17 (by decide), y1 17 (by decide)]
              have := bd6.1 0 (by decide) (by decide)
              rw [e0]
              exact lsP_fr (by rw [s1 _ (by omega), y1 _ (by omega)]) (by rw [s1 _ (by omega), y1 _ (by omega)]) ls6
            exact tail (j + 4) (V (j + 1)) (V (j + 3)) h34 (LF_t (LF_t (LF_t f4 f6) f32) f34) bd34 s3 ls34 (by omega) (by omega) dv (dd.1 e4 e33) (by rw [show j + 4 + 1 = j + 5 by omega]; exact eq)
          · have eqn : rF n (Sp (j + 3)) = R := by
              rcases hn with ⟨hn, n1⟩ | ⟨hn, n1, n2⟩
              · rw [if_pos hn] at eq
                rw [n1]
                exact eq
              · rw [if_neg (show ¬ ¬ K (j + 3) = 3 from fun z => z hn), if_pos n2] at eq
                rw [n1]
                exact eq
            rw [← eqn] at k2
            exact k2 (show ¬ n = 0 by omega) h' (FT_t (LF_t (LF_t f4 f6) f32).1 ft)
      · have eqn : rF n (Sp (j + 1)) = R := by
          have tv := (tk.2 (j + 1) (by omega) (by omega)).2.1
          rcases hn with ⟨hn, n1⟩ | ⟨hn, n1, n2⟩
          · rw [if_pos hn] at eq
            rw [n1]
            exact eq
          · have := tv hn
            rw [if_neg (show ¬ ¬ K (j + 1) = 3 from fun z => z hn), if_pos (by omega)] at eq
            rw [n1]
            exact eq
        rw [← eqn] at k2
        exact k2 (show ¬ n = 0 by omega) h' (FT_t f4.1 ft)
  have b0 := bd.1 0 (by decide) (by decide)
  have b1 := bd.1 1 (by decide) (by decide)
  have n01 := bdy_ne bd (i := 1) (j := 0) (by decide) (by decide) (by decide)
  refine eX0_readRanges (bX0_readRanges_0 ?_)
  rw [← bR_0 (h := h)]
  refine sp_clear (Dl := Dl) (fun h3 g1 g2 g3 => ?_)
  have e : ∀ a, ¬ a = bR h 0 → h3 a = h a := g1
  have L : LF h h3 := ⟨⟨fun a p q => g1 a (by omega), fun j p => by rw [g1 13 (by omega)]⟩, fun j p => by rw [g1 17 (by omega)], fun a p q => g1 a (by omega), Or.inl ⟨by rw [bR_0, bR_0, g1 17 (by omega)], by rw [bR_1, bR_1, g1 17 (by omega)]⟩, fun a p q1 q2 q3 q4 => g1 a q1⟩
  have e0 : bR h3 0 = bR h 0 := by rw [bR_0, bR_0, g1 17 (by omega)]
  exact go f i 0 (fun _ => false) h3 mf (by have := t.2.2.1; omega) (by omega) (Or.inl k9) L (bdy_LF bd L) (TX_fr t (g1 13 (by omega)) (g1 14 (by omega)) (g1 15 (by omega)) (g1 16 (by omega))) (by rw [e0]; exact g3) eR.symm
end RR
