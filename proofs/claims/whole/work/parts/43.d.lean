/-! ===== the class reads lines ===== -/
def rowA (h0 : zH) (a : Int) : Prop := ∃ j, (0 ≤ j ∧ j < 4) ∧ h0 81 j ≤ a ∧ a ≤ h0 81 j + 18
/-- what reading may change -/
def fLn (t : Int) (h0 h : zH) : Prop := (∀ a, ¬ (4 ≤ a ∧ a ≤ 79) → ¬ (t ≤ a ∧ a ≤ t + 26 ∧ ¬ a = t + 1) → ¬ (109 ≤ a ∧ a ≤ 156) → ¬ rowA h0 a → h a = h0 a) ∧ ∀ j, ¬ (j = 6 ∨ j = 7) → h 12 j = h0 12 j
/-- what stands at the start -/
def b0 (t : Int) (h0 : zH) : Prop := (t = 82 ∨ t = 249) ∧ h0 12 5 = t ∧ (∀ e, 0 ≤ e → e < 24 → h0 80 e = 109 + 2 * e) ∧ (∀ j, 0 ≤ j → j < 4 → mcell (h0 81 j)) ∧ (∀ i j, 0 ≤ i → i < j → j < 4 → ¬ h0 81 i = h0 81 j)
theorem mc_rg {m : Int} (h : mcell m) : (157 ≤ m ∧ m + 18 ≤ 232) ∨ (276 ≤ m ∧ m + 18 ≤ 465) := by
  unfold mcell at h
  omega
theorem row_rg {t : Int} {h0 : zH} {a : Int} (b : b0 t h0) (r : rowA h0 a) : (157 ≤ a ∧ a ≤ 232) ∨ (276 ≤ a ∧ a ≤ 465) := by
  obtain ⟨j, j0, j1⟩ := r
  have := mc_rg (b.2.2.2.1 j j0.1 j0.2)
  omega
theorem fLn_s {t : Int} {h0 h : zH} (b : b0 t h0) (f : fLn t h0 h) : h 80 = h0 80 ∧ h 81 = h0 81 ∧ h 12 5 = t := by
  have q := b.1
  refine ⟨f.1 80 (by omega) (by omega) (by omega) (fun r => by have := row_rg b r; omega), f.1 81 (by omega) (by omega) (by omega) (fun r => by have := row_rg b r; omega), by rw [f.2 5 (by decide), b.2.1]⟩
theorem fLn_B {t : Int} {h0 h h' : zH} (f : fLn t h0 h) (g : fB h h') : fLn t h0 h' := ⟨fun a p q r s => by rw [g.1 a (by omega) (by omega), f.1 a p q r s], fun j p => by rw [g.1 12 (by decide) (by decide), f.2 j p]⟩
theorem fLn_4 {t : Int} {h0 h h' : zH} (f : fLn t h0 h) (g : ∀ a, ¬ (4 ≤ a ∧ a ≤ 11) → h' a = h a) : fLn t h0 h' := ⟨fun a p q r s => by rw [g a (by omega), f.1 a p q r s], fun j p => by rw [g 12 (by decide), f.2 j p]⟩
def FL (t : Int) (h0 h' : zH) (n s : Int) : Prop := fLn t h0 h' ∧ h' 13 8 = n ∧ h' 13 9 = s ∧ bdy h'
theorem FL_t {t : Int} {h0 h h' : zH} {n s : Int} (f : fLn t h0 h) (g : FT h h' n s) : FL t h0 h' n s := ⟨fLn_B f g.1, g.2⟩
/-- a machine that is not too wide -/
def okN (c : M4) : Prop := ∃ (D : zH) (B T Pa Vi De : Int → Int) (N K0 : Int), isM D c ∧ mOK D ∧ bfs D N B T Pa Vi De K0 ∧ K0 = N * 128
theorem okM_N {h : zH} {m : Int} {c : M4} (k : okM h m c) : okN c := by
  obtain ⟨D, k1, k2, k3, k4⟩ := k
  exact ⟨D, _, _, _, _, _, _, _, k1, k2, k4.2.1, rfl⟩
/-- one is too wide, and each is or is not -/
def wdA (O : List M4) : Prop := (∃ j : Int, (0 ≤ j ∧ j < O.length) ∧ wdM (gM O j)) ∧ ∀ j : Int, 0 ≤ j → j < O.length → wdM (gM O j) ∨ okN (gM O j)
def wOK (h : zH) (O : List M4) : Prop := (h 12 7 = 0 ∧ ∀ j : Int, 0 ≤ j → j < O.length → okM h (h 81 j) (gM O j)) ∨ (h 12 7 = 1 ∧ wdA O)
def CLs (t : Int) (Dl : List Int) (K Sp V : Int → Int) (m : Int) (h0 h : zH) (i : Int) (s : St) : Prop := fLn t h0 h ∧ TX h K Sp V m i ∧ bdy h ∧ TB h t s.1 Dl ∧ h 12 6 = cnt s ∧ sOK s ∧ (s.2.1 = true → DR h Dl s.2.2.2) ∧ wOK h s.2.2.1
theorem wOK_fr {t : Int} {h0 h h' : zH} {O : List M4} (b : b0 t h0) (f : fLn t h0 h) (l3 : (O.length : Int) ≤ 4) (e12 : h' 12 7 = h 12 7) (e81 : h' 81 = h 81) (g : ∀ a, rowA h0 a → h' a = h a) (w : wOK h O) : wOK h' O := by
  have f81 := (fLn_s b f).2.1
  unfold wOK at w ⊢
  rw [e12, e81]
  rcases w with ⟨w1, w2⟩ | w
  · exact Or.inl ⟨w1, fun j a c => okM_fr (fun x p q => g x ⟨j, ⟨a, by omega⟩, by rw [← f81]; exact p, by rw [← f81]; exact q⟩) (w2 j a c)⟩
  · exact Or.inr w
section RL
variable {G : zG} {d : Nat} {h0 h : zH} {K Sp V : Int → Int} {m i t : Int} {Dl : List Int} {s : St} {Q : Bool → zH → Prop}
theorem wOK_B {h' : zH} (b : b0 t h0) (f : fLn t h0 h) (o : sOK s) (g : fB h h') (w : wOK h s.2.2.1) : wOK h' s.2.2.1 := wOK_fr b f (by have := o.2.2.1; omega) (by rw [g.1 12 (by decide) (by decide)]) (g.1 81 (by decide) (by decide)) (fun a r => g.1 a (by have := row_rg b r; omega) (by have := row_rg b r; omega)) w
theorem DR_B {h' : zH} {c : M4} (g : fB h h') (k : DR h Dl c) : DR h' Dl c := DR_fr (fun a p q => g.1 a (by omega) (by omega)) (fun a p q => g.1 a (by omega) (by omega)) k
theorem CLs_B {h' : zH} {i' : Int} (b : b0 t h0) (c : CLs t Dl K Sp V m h0 h i s) (g : fB h h') (bd : bdy h') (tx : TX h' K Sp V m i') : CLs t Dl K Sp V m h0 h' i' s := by
  obtain ⟨c1, c2, c3, c4, c5, c6, c7, c8⟩ := c
  exact ⟨fLn_B c1 g, tx, bd, TB_fB g c4, by rw [g.1 12 (by decide) (by decide), c5], c6, fun q => DR_B g (c7 q), wOK_B b c1 c6 g c8⟩
/-- a step keeps all -/
theorem bdy_13 {h' : zH} (e : ∀ a, ¬ a = 13 → h' a = h a) (b : bdy h) : bdy h' := bdy_fr (fun j _ _ => by rw [bR_k (h := h) (by rw [e 17 (by decide)]) (by rw [e 17 (by decide)]) (e 18 (by decide)) (e 19 (by decide))]) b
theorem sp_stepC {R : zH → Prop} (tk : TK K V m) (b : b0 t h0) (c : CLs t Dl K Sp V m h0 h i s) (k0 : ¬ K i = 0) (k1 : ¬ K i = 1) (k : ∀ h' : zH, CLs t Dl K Sp V m h0 h' (i + 1) s → R h') : zCv G d mX10_step [vr 10 13] h R :=
  sp_stepT tk c.2.1 k0 k1 (fun h' g1 g2 g3 => k h' (CLs_B b c (fB_13 g1 g2) (bdy_13 g1 c.2.2.1) g3))
theorem sp_failC {R : Bool → zH → Prop} {n : Int} (c : CLs t Dl K Sp V m h0 h i s) (k : ∀ h' : zH, FL t h0 h' n (Sp i) → R false h') : zCb G d mX10_fail [vr 10 13, vi n] h R :=
  sp_failT c.2.2.1 c.2.1 (fun h' _ _ ft => k h' (FL_t c.1 ft))
theorem sp_readState {R : Int → zH → Prop} (tk : TK K V m) (b : b0 t h0) (c : CLs t Dl K Sp V m h0 h i s) (bt : s.2.1 = true) (k1 : (stt K Sp V s.2.2.2.1 i).1 = 0 → K i = 3 → V i < s.2.2.2.1 → ∀ h' : zH, CLs t Dl K Sp V m h0 h' (i + 1) s → R (V i) h') (k2 : ¬ (stt K Sp V s.2.2.2.1 i).1 = 0 → ∀ h' : zH, FL t h0 h' (stt K Sp V s.2.2.2.1 i).1 (stt K Sp V s.2.2.2.1 i).2 → R (-1) h') : zCi G (d + 1) mX8_readState [vr 8 12] h R := by
  have tx := c.2.1
  have ti := tk.2 i tx.2.2.1.1 tx.2.2.1.2
  have dr := c.2.2.2.2.2.2.1 bt
  have n12 := dr.2.2.2.2.1
  refine eX8_readState (bX8_readState_0 ?_)
  rw [tx.2.2.2.2.1, tx.2.2.2.2.2.2, dr.1.1]
  unfold stt at k1 k2
  refine ⟨ti.1, fun e3 => ?_, fun n3 => sp_failC c (fun h' fl => ?_)⟩
  · have v0 := ti.2.1 e3
    rw [if_neg (show ¬ ¬ _ from fun z => z e3)] at k1 k2
    have z := zcmp_lt (x := V i) (y := s.2.2.2.1) ⟨by omega, by omega⟩ ⟨by omega, by omega⟩
    have zz : zcmp (V i) s.2.2.2.1 < 0 ↔ V i < s.2.2.2.1 := by
      rcases Int.lt_trichotomy (V i) s.2.2.2.1 with w | w | w
      · rw [z.1.mpr w]; omega
      · rw [z.2.1.mpr w]; omega
      · rw [z.2.2.mpr w]; omega
    rw [zz]
    refine ⟨⟨by omega, by omega⟩, fun lt => sp_stepC tk b c (by omega) (by omega) (fun h' c' => ⟨⟨by omega, by omega⟩, ?_⟩), fun ge => sp_failC c (fun h' fl => ?_)⟩
    · rw [if_neg (by omega)] at k1
      exact k1 rfl e3 lt h' c'
    · rw [if_pos (by omega)] at k2
      exact k2 (show ¬ (2 : Int) = 0 by decide) h' fl
  · rw [if_pos n3] at k2
    exact k2 (show ¬ (1 : Int) = 0 by decide) h' fl
/-- the body of a line -/
theorem sp_bodyC {R : Bool → zH → Prop} {l2 : Int} (tk : TK K V m) (dl : DL K V m Dl) (b : b0 t h0) (c : CLs t Dl K Sp V m h0 h i s) (hl : 80 ≤ l2 ∧ zln (l2 + 1) = 48) (kF : ¬ (bd2 K Sp V s.1 i).1 = 0 → ∀ h' : zH, FL t h0 h' (bd2 K Sp V s.1 i).1 (bd2 K Sp V s.1 i).2.1 → R false h') (kC : (bd2 K Sp V s.1 i).1 = 0 → ∀ h1 h' : zH, CLs t Dl K Sp V m h0 h1 i s → (∀ a, ¬ a = l2 → ¬ a = l2 + 1 → ¬ a = 13 → h' a = h1 a) → bdy h' → TX h' K Sp V m (bd2 K Sp V s.1 i).2.2.1 → i < (bd2 K Sp V s.1 i).2.2.1 → lsP h' l2 (bd2 K Sp V s.1 i).2.2.2 Dl → h' l2 1 ≤ 48 → R true h') : zCb G (d + 5) mX0_readBody [vr 0 17, vr 9 t, vr 3 l2] h R := by
  have tx := c.2.1
  obtain ⟨r, er⟩ : ∃ r, bod K Sp V s.1 902 i 0 = r := ⟨_, rfl⟩
  unfold bd2 at kF kC
  rw [er] at kF kC
  refine sp_readBody (f := 902) tk dl c.2.2.2.1 c.2.2.1 tx (by have := tk.1; have := tx.2.2.1; omega) hl er (fun n0 h' ft => ?_) (fun e0 nr h' ft => ?_) (fun e0 rc h1 h' fb g1 bd tx' ip ls l48 => ?_)
  · rw [if_pos n0] at kF
    exact kF n0 h' (FL_t c.1 ft)
  · rw [if_neg (show ¬ ¬ _ from fun z => z e0), if_pos (show rcB r.2.2.2 = false by cases q : rcB r.2.2.2 <;> first | rfl | exact absurd (rcB_t.mp q) nr)] at kF
    exact kF (show ¬ (5 : Int) = 0 by decide) h' (FL_t c.1 ft)
  · rw [if_neg (show ¬ ¬ _ from fun z => z e0), if_neg (show ¬ rcB r.2.2.2 = false by rw [rcB_t.mpr rc]; decide)] at kC
    -- the heap with the old text
    obtain ⟨h2, e2⟩ : ∃ h2 : zH, h2 = fun a => if a = 13 then h 13 else h1 a := ⟨_, rfl⟩
    have w : ∀ a, ¬ a = 13 → h2 a = h1 a := fun a p => by rw [e2]; exact if_neg p
    have w13 : h2 13 = h 13 := by rw [e2]; exact if_pos rfl
    refine kC e0 h2 h' ?_ (fun a p q r => by rw [w a r]; exact g1 a p q) bd tx' ip ls l48
    have fb2 : fB h h2 := ⟨fun a p q => by rw [w a p]; exact fb.1 a p q, fun j p => by rw [w13]⟩
    refine CLs_B b c fb2 ?_ (TX_fr tx w13 (by rw [w 14 (by decide), fb.1 14 (by decide) (by decide)]) (by rw [w 15 (by decide), fb.1 15 (by decide) (by decide)]) (by rw [w 16 (by decide), fb.1 16 (by decide) (by decide)]))
    refine bdy_fr (fun j j0 j1 => ?_) bd
    have e17 := g1 17 (by omega) (by omega)
    exact congrFun (bR_k (by rw [w 17 (by decide), e17]) (by rw [w 17 (by decide), e17]) (by rw [w 18 (by decide), g1 18 (by omega) (by omega)]) (by rw [w 19 (by decide), g1 19 (by omega) (by omega)])) j
end RL
