/-! ===== edges, free steps, ends ===== -/
section RG2
variable {G : zG} {d : Nat} {h0 h : zH} {K Sp V : Int → Int} {m i t : Int} {Dl : List Int} {s : St} {R : Bool → zH → Prop}
theorem bt_of {s : St} (b : ¬ s.2.1 = false) : s.2.1 = true := by cases q : s.2.1 <;> first | rfl | exact absurd q b
theorem st_lt (tk : TK K V m) {j : Int} (j0 : 0 ≤ j ∧ j < m) (k3 : K j = 3) : j + 1 < m := ((tk.2 j j0.1 j0.2).2.2.2).mpr (by omega)
theorem sp_lineE (tk : TK K V m) (dl : DL K V m Dl) (b : b0 t h0) (c : CLs t Dl K Sp V m h0 h i s) (k7 : K i = 7) (kF : ¬ (lnE K Sp V i s).1 = 0 → ∀ h' : zH, FL t h0 h' (lnE K Sp V i s).1 (lnE K Sp V i s).2.1 → R false h') (kC : (lnE K Sp V i s).1 = 0 → ∀ h' : zH, CLs t Dl K Sp V m h0 h' (lnE K Sp V i s).2.2.1 (lnE K Sp V i s).2.2.2 → i < (lnE K Sp V i s).2.2.1 → R true h') : zCb G (d + 6) mX8_readEdge [vr 8 12] h R := by
  have tt := b.1
  have tx := c.2.1
  have im := TX_lt tk tx (by omega) (by omega)
  have i0 := tx.2.2.1
  have o := c.2.2.2.2.2.1
  have okk := lnE_ok (Sp := Sp) (s := s) tk ⟨i0.1, im⟩ (fun k3 => by have := st_lt tk (j := i + 1) ⟨by omega, im⟩ k3; omega) o
  have cc := c.2.2.2.2.1
  have O3 := o.2.2.1
  refine eX8_readEdge (bX8_readEdge_0 ?_)
  rw [cc]
  by_cases c1 : s.2.1 = false
  · rw [cnt_f c1]
    refine ⟨⟨by decide, by decide⟩, fun z => absurd rfl z, fun _ => sp_failC c (fun h' fl => ?_)⟩
    unfold lnE at kF
    rw [if_pos c1] at kF
    exact kF (show ¬ (7 : Int) = 0 by decide) h' fl
  have bt := bt_of c1
  have dr := c.2.2.2.2.2.2.1 bt
  have L24 := dr.2.2.2.2.2.2.1
  rw [cnt_t bt, dr.1.2.2.1]
  refine ⟨⟨by omega, by omega⟩, fun _ => ⟨⟨by omega, by omega⟩, fun l24 => ?_, fun g24 => sp_failC c (fun h' fl => ?_)⟩, fun z => absurd z (by omega)⟩
  rotate_left
  · unfold lnE at kF
    rw [if_neg c1, if_pos (show 24 ≤ (s.2.2.2.2.2.1.length : Int) by omega)] at kF
    exact kF (show ¬ (5 : Int) = 0 by decide) h' fl
  have lF : ∀ x : Lr, lnE K Sp V i s = x → (¬ x.1 = 0 → ∀ h' : zH, FL t h0 h' x.1 x.2.1 → R false h') := fun x e => by rw [← e]; exact kF
  unfold lnE at lF
  rw [if_neg c1, if_neg (show ¬ 24 ≤ (s.2.2.2.2.2.1.length : Int) by omega)] at lF
  refine sp_stepC tk b c (by omega) (by omega) (fun h2 c2 => sp_readState (d := d + 4) tk b c2 bt (fun e1 k1 v1 h4 c4 => ?_) (fun n1 h' fl => ⟨zR_m1, fun z => absurd z (by decide), fun _ => ?_⟩))
  rotate_left
  · rw [if_pos n1] at lF
    exact lF _ rfl n1 h' fl
  rw [if_neg (show ¬ ¬ _ from fun z => z e1)] at lF
  have im2 : i + 2 < m := by have := st_lt tk (j := i + 1) ⟨by omega, im⟩ k1; omega
  have w1 := ln_V tk (show 0 ≤ i + 1 by omega) im k1
  refine ⟨⟨by omega, by omega⟩, fun _ => ?_, fun z => absurd w1.1 z⟩
  rw [show i + 1 + 1 = i + 2 by omega] at c4
  refine sp_readState (d := d + 4) tk b c4 bt (fun e2 k2 v2 h6 c6 => ?_) (fun n2 h' fl => ⟨zR_m1, fun _ => ?_, fun z => absurd (by decide) z⟩)
  rotate_left
  · rw [if_pos n2] at lF
    exact lF _ rfl n2 h' fl
  rw [if_neg (show ¬ ¬ _ from fun z => z e2)] at lF
  have w2 := ln_V tk (show 0 ≤ i + 2 by omega) im2 k2
  rw [show i + 2 + 1 = i + 3 by omega] at c6
  have dr6 := c6.2.2.2.2.2.2.1 bt
  obtain ⟨f80, f81, ht⟩ := fLn_s b c6.1
  rw [dr6.1.2.2.1, ht, f80, b.2.2.1 _ (by omega) l24]
  refine ⟨⟨by omega, by omega⟩, fun z => absurd z (by omega), fun _ => ⟨by omega, sp_bodyC tk dl b c6 ⟨by omega, edg_ln (by omega)⟩ (fun n0 h' fl => ⟨fun z => (by cases z), fun _ => ?_⟩) (fun e0 h1 h10 c1' g1 bd tx10 ip ls l48 => ⟨fun _ => ?_, fun z => (by cases z)⟩)⟩⟩
  · rw [if_pos n0] at lF
    exact lF _ rfl n0 h' fl
  have L0 : (lnE K Sp V i s).1 = 0 := by
    unfold lnE
    rw [if_neg c1, if_neg (show ¬ 24 ≤ (s.2.2.2.2.2.1.length : Int) by omega), if_neg (show ¬ ¬ _ from fun z => z e1), if_neg (show ¬ ¬ _ from fun z => z e2), if_neg (show ¬ ¬ _ from fun z => z e0)]
  obtain ⟨o1, -, -, -, -, -, o5⟩ := okk L0
  have kC := kC L0
  rw [o5] at kC o1
  have dr1 := c1'.2.2.2.2.2.2.1 bt
  have e4 : h10 4 = h1 4 := g1 4 (by omega) (by omega) (by omega)
  have n9 : h10 4 9 = s.2.2.2.2.2.1.length := by rw [e4, dr1.1.2.2.1]
  refine sp_addEdge (by omega) (fun _ h12 x1 x2 x3 x4 x5 x6 => ?_) (fun z => absurd z (by omega))
  rw [n9] at x3 x4 x5 x6
  have X : ∀ a, ¬ (4 ≤ a ∧ a ≤ 7) → ¬ a = 109 + 2 * (s.2.2.2.2.2.1.length : Int) → ¬ a = 109 + 2 * (s.2.2.2.2.2.1.length : Int) + 1 → ¬ a = 13 → h12 a = h1 a := fun a p q r u => by rw [x1 a p, g1 a q r u]
  have cg := CLs_g b c1' (h' := h12) (fun a p q r u => X a (by omega) (by omega) (by omega) q)
  have b12 : bdy h12 := bdy_fr (fun j _ _ => by rw [bR_k (h := h10) (by rw [x1 17 (by omega)]) (by rw [x1 17 (by omega)]) (x1 18 (by omega)) (x1 19 (by omega))]) bd
  obtain ⟨⟨d1, d2, d3, d4⟩, ct, de, df, po⟩ := dr1
  refine kC h12 ⟨cg.1, TX_fr tx10 (x1 13 (by omega)) (x1 14 (by omega)) (x1 15 (by omega)) (x1 16 (by omega)), b12, TB_fr (fun a p q => X a (by omega) (by omega) (by omega) (by omega)) c1'.2.2.2.1, ?_, o1, fun _ => ⟨⟨?_, ?_, ?_, ?_⟩, ?_, fun e a q => ?_, fun j a q => ?_, o1.2.2.2.2 rfl⟩, cg.2.2⟩ (by show i < (bd2 K Sp V s.1 (i + 3)).2.2.1; omega)
  · rw [cg.2.1, c1'.2.2.2.2.1, cnt_t bt, cnt_t rfl]
  · rw [x2 7 (by decide), e4, d1]
  · rw [x2 8 (by decide), e4, d2]
  · show h12 4 9 = ((s.2.2.2.2.2.1 ++ [_]).length : Nat)
    rw [x3, len_1]
    omega
  · rw [x2 10 (by decide), e4, d4]
  · unfold ctS at ct ⊢
    rw [x1 10 (by omega), x2 11 (by decide), x2 12 (by decide), e4, g1 10 (by omega) (by omega) (by omega)]
    exact ct
  · have q : e < ((s.2.2.2.2.2.1 ++ [(V (i + 1), V (i + 2), (bd2 K Sp V s.1 (i + 3)).2.2.2)]).length : Nat) := q
    rw [len_1] at q
    show h12 5 e = (gE (s.2.2.2.2.2.1 ++ [_]) e).1 ∧ h12 6 e = (gE (s.2.2.2.2.2.1 ++ [_]) e).2.1 ∧ (∀ b, 0 ≤ b → b < 256 → mk h12 e b = false) ∧ lsP h12 (109 + 2 * e) (gE (s.2.2.2.2.2.1 ++ [_]) e).2.2 Dl ∧ h12 (109 + 2 * e) 1 ≤ 48
    by_cases z : e = s.2.2.2.2.2.1.length
    · rw [gE_r z, z, x4, x5, fup_eq, fup_eq]
      refine ⟨rfl, rfl, fun y p r => by rw [x6 _ y (by omega) p r, if_pos rfl], lsP_fr (x1 _ (by omega)) (x1 _ (by omega)) ls, by rw [x1 _ (by omega)]; exact l48⟩
    · obtain ⟨q1, q2, q3, q4, q5⟩ := de e a (by omega)
      rw [gE_l a (by omega), x4, x5, fup_ne z, fup_ne z, g1 5 (by omega) (by omega) (by omega), g1 6 (by omega) (by omega) (by omega)]
      refine ⟨q1, q2, fun y p r => ?_, lsP_fr (X _ (by omega) (by omega) (by omega) (by omega)) (X _ (by omega) (by omega) (by omega) (by omega)) q4, by rw [X _ (by omega) (by omega) (by omega) (by omega)]; exact q5⟩
      rw [x6 e y a p r, if_neg z, mk_e (g1 7 (by omega) (by omega) (by omega))]
      exact q3 y p r
  · rw [X 8 (by omega) (by omega) (by omega) (by omega), X 9 (by omega) (by omega) (by omega) (by omega)]
    exact df j a q
theorem sp_lineR (tk : TK K V m) (b : b0 t h0) (c : CLs t Dl K Sp V m h0 h i s) (k8 : K i = 8) (kF : ¬ (lnR K Sp V i s).1 = 0 → ∀ h' : zH, FL t h0 h' (lnR K Sp V i s).1 (lnR K Sp V i s).2.1 → R false h') (kC : (lnR K Sp V i s).1 = 0 → ∀ h' : zH, CLs t Dl K Sp V m h0 h' (lnR K Sp V i s).2.2.1 (lnR K Sp V i s).2.2.2 → i < (lnR K Sp V i s).2.2.1 → R true h') : zCb G (d + 6) mX8_readFree [vr 8 12] h R := by
  have tt := b.1
  have tx := c.2.1
  have im := TX_lt tk tx (by omega) (by omega)
  have i0 := tx.2.2.1
  have o := c.2.2.2.2.2.1
  have okk := lnR_ok (Sp := Sp) (s := s) tk ⟨i0.1, im⟩ (fun k3 => by have := st_lt tk (j := i + 1) ⟨by omega, im⟩ k3; omega) o
  have cc := c.2.2.2.2.1
  have O3 := o.2.2.1
  refine eX8_readFree (bX8_readFree_0 ?_)
  rw [cc]
  by_cases c1 : s.2.1 = false
  · rw [cnt_f c1]
    refine ⟨⟨by decide, by decide⟩, fun z => absurd rfl z, fun _ => sp_failC c (fun h' fl => ?_)⟩
    unfold lnR at kF
    rw [if_pos c1] at kF
    exact kF (show ¬ (7 : Int) = 0 by decide) h' fl
  have bt := bt_of c1
  have dr := c.2.2.2.2.2.2.1 bt
  have L8 := dr.2.2.2.2.2.2.2.1
  rw [cnt_t bt, dr.1.2.2.2]
  refine ⟨⟨by omega, by omega⟩, fun _ => ⟨⟨by omega, by omega⟩, fun l8 => ?_, fun g8 => sp_failC c (fun h' fl => ?_)⟩, fun z => absurd z (by omega)⟩
  rotate_left
  · unfold lnR at kF
    rw [if_neg c1, if_pos (show 8 ≤ (s.2.2.2.2.2.2.length : Int) by omega)] at kF
    exact kF (show ¬ (5 : Int) = 0 by decide) h' fl
  have lF : ∀ x : Lr, lnR K Sp V i s = x → (¬ x.1 = 0 → ∀ h' : zH, FL t h0 h' x.1 x.2.1 → R false h') := fun x e => by rw [← e]; exact kF
  unfold lnR at lF
  rw [if_neg c1, if_neg (show ¬ 8 ≤ (s.2.2.2.2.2.2.length : Int) by omega)] at lF
  refine sp_stepC tk b c (by omega) (by omega) (fun h2 c2 => sp_readState (d := d + 4) tk b c2 bt (fun e1 k1 v1 h4 c4 => ?_) (fun n1 h' fl => ⟨zR_m1, fun z => absurd z (by decide), fun _ => ?_⟩))
  rotate_left
  · rw [if_pos n1] at lF
    exact lF _ rfl n1 h' fl
  rw [if_neg (show ¬ ¬ _ from fun z => z e1)] at lF
  have im2 : i + 2 < m := by have := st_lt tk (j := i + 1) ⟨by omega, im⟩ k1; omega
  have w1 := ln_V tk (show 0 ≤ i + 1 by omega) im k1
  refine ⟨⟨by omega, by omega⟩, fun _ => ?_, fun z => absurd w1.1 z⟩
  rw [show i + 1 + 1 = i + 2 by omega] at c4
  refine sp_readState (d := d + 4) tk b c4 bt (fun e2 k2 v2 h6 c6 => ?_) (fun n2 h' fl => ⟨zR_m1, fun z => absurd z (by decide), fun _ => ?_⟩)
  rotate_left
  · rw [if_pos n2] at lF
    exact lF _ rfl n2 h' fl
  have w2 := ln_V tk (show 0 ≤ i + 2 by omega) im2 k2
  rw [show i + 2 + 1 = i + 3 by omega] at c6
  have dr6 := c6.2.2.2.2.2.2.1 bt
  have L0 : (lnR K Sp V i s).1 = 0 := by
    unfold lnR
    rw [if_neg c1, if_neg (show ¬ 8 ≤ (s.2.2.2.2.2.2.length : Int) by omega), if_neg (show ¬ ¬ _ from fun z => z e1), if_neg (show ¬ ¬ _ from fun z => z e2)]
  obtain ⟨o1, -, -, -, -, o5⟩ := okk L0
  have kC := kC L0
  rw [o5] at kC o1
  obtain ⟨⟨d1, d2, d3, d4⟩, ct, de, df, po⟩ := dr6
  refine ⟨⟨by omega, by omega⟩, fun _ => eX2_addFree (bX2_addFree_0 ?_), fun z => absurd w2.1 z⟩
  rw [d4]
  refine ⟨⟨by omega, by omega⟩, fun _ => ⟨by omega, by omega, ?_⟩, fun z => absurd (by omega) z⟩
  obtain ⟨h8, e8⟩ : ∃ h8, h8 = zup (zup (zup h6 8 (s.2.2.2.2.2.2.length : Int) (V (i + 1))) 9 (s.2.2.2.2.2.2.length : Int) (V (i + 2))) 4 10 ((s.2.2.2.2.2.2.length : Int) + 1) := ⟨_, rfl⟩
  rw [← e8]
  have X : ∀ a, ¬ a = 4 → ¬ a = 8 → ¬ a = 9 → h8 a = h6 a := fun a p q r => by rw [e8, zup_ne p, zup_ne r, zup_ne q]
  have X4 : ∀ j, ¬ j = 10 → h8 4 j = h6 4 j := fun j p => by rw [e8, zup_ns p, zup_ne (by decide), zup_ne (by decide)]
  have cg := CLs_g b c6 (h' := h8) (fun a p q r u => X a (by omega) (by omega) (by omega))
  have b8 : bdy h8 := bdy_fr (fun j _ _ => by rw [bR_k (h := h6) (by rw [X 17 (by decide) (by decide) (by decide)]) (by rw [X 17 (by decide) (by decide) (by decide)]) (X 18 (by decide) (by decide) (by decide)) (X 19 (by decide) (by decide) (by decide))]) c6.2.2.1
  refine kC h8 ⟨cg.1, TX_fr c6.2.1 (X 13 (by decide) (by decide) (by decide)) (X 14 (by decide) (by decide) (by decide)) (X 15 (by decide) (by decide) (by decide)) (X 16 (by decide) (by decide) (by decide)), b8, TB_fr (fun a p q => X a (by omega) (by omega) (by omega)) c6.2.2.2.1, ?_, o1, fun _ => ⟨⟨?_, ?_, ?_, ?_⟩, ?_, fun e a q => ?_, fun j a q => ?_, o1.2.2.2.2 rfl⟩, cg.2.2⟩ (by show i < i + 3; omega)
  · rw [cg.2.1, c6.2.2.2.2.1, cnt_t bt, cnt_t rfl]
  · rw [X4 7 (by decide), d1]
  · rw [X4 8 (by decide), d2]
  · rw [X4 9 (by decide), d3]
  · show h8 4 10 = ((s.2.2.2.2.2.2 ++ [_]).length : Nat)
    rw [e8, zup_eq, len_1]
    omega
  · unfold ctS at ct ⊢
    rw [X 10 (by decide) (by decide) (by decide), X4 11 (by decide), X4 12 (by decide)]
    exact ct
  · obtain ⟨q1, q2, q3, q4, q5⟩ := de e a q
    have q : e < (s.2.2.2.2.2.1.length : Int) := q
    have := po.2.2.1
    refine ⟨by rw [X 5 (by decide) (by decide) (by decide)]; exact q1, by rw [X 6 (by decide) (by decide) (by decide)]; exact q2, fun y p r => by rw [mk_e (X 7 (by decide) (by decide) (by decide))]; exact q3 y p r, lsP_fr (X _ (by omega) (by omega) (by omega)) (X _ (by omega) (by omega) (by omega)) q4, by rw [X _ (by omega) (by omega) (by omega)]; exact q5⟩
  · have q : j < ((s.2.2.2.2.2.2 ++ [(V (i + 1), V (i + 2))]).length : Nat) := q
    rw [len_1] at q
    show h8 8 j = (gF (s.2.2.2.2.2.2 ++ [_]) j).1 ∧ h8 9 j = (gF (s.2.2.2.2.2.2 ++ [_]) j).2
    rw [e8, zup_ne (by decide), zup_ne (by decide), zup_r, zup_ne (by decide), zup_r, zup_ne (show ¬ (9 : Int) = 8 by decide)]
    by_cases z : j = s.2.2.2.2.2.2.length
    · rw [gF_r z, z, fup_eq, fup_eq]
      exact ⟨rfl, rfl⟩
    · rw [gF_l a (by omega), fup_ne z, fup_ne z]
      exact df j a (by show j < (s.2.2.2.2.2.2.length : Int); omega)
theorem sp_lineD (tk : TK K V m) (b : b0 t h0) (c : CLs t Dl K Sp V m h0 h i s) (k9 : K i = 9) (kF : ¬ (lnD K Sp V i s).1 = 0 → ∀ h' : zH, FL t h0 h' (lnD K Sp V i s).1 (lnD K Sp V i s).2.1 → R false h') (kC : (lnD K Sp V i s).1 = 0 → ∀ h' : zH, CLs t Dl K Sp V m h0 h' (lnD K Sp V i s).2.2.1 (lnD K Sp V i s).2.2.2 → i < (lnD K Sp V i s).2.2.1 → R true h') : zCb G (d + 6) mX8_readEnd [vr 8 12] h R := by
  have tt := b.1
  have tx := c.2.1
  have im := TX_lt tk tx (by omega) (by omega)
  have i0 := tx.2.2.1
  have o := c.2.2.2.2.2.1
  have okk := lnD_ok (Sp := Sp) (s := s) tk ⟨i0.1, im⟩ o
  have cc := c.2.2.2.2.1
  have O3 := o.2.2.1
  refine eX8_readEnd (bX8_readEnd_0 ?_)
  rw [cc]
  by_cases c1 : s.2.1 = false
  · rw [cnt_f c1]
    refine ⟨⟨by decide, by decide⟩, fun z => absurd rfl z, fun _ => sp_failC c (fun h' fl => ?_)⟩
    unfold lnD at kF
    rw [if_pos c1] at kF
    exact kF (show ¬ (7 : Int) = 0 by decide) h' fl
  have bt := bt_of c1
  rw [cnt_t bt]
  have lF : ∀ x : Lr, lnD K Sp V i s = x → (¬ x.1 = 0 → ∀ h' : zH, FL t h0 h' x.1 x.2.1 → R false h') := fun x e => by rw [← e]; exact kF
  unfold lnD at lF
  rw [if_neg c1] at lF
  refine ⟨⟨by omega, by omega⟩, fun _ => sp_stepC tk b c (by omega) (by omega) (fun h2 c2 => ?_), fun z => absurd z (by omega)⟩
  have esp : h2 13 6 = Sp (i + 1) := c2.2.1.2.2.2.2.2.1
  rw [esp]
  refine sp_readState (d := d + 4) tk b c2 bt (fun e1 k1 v1 h4 c4 => ?_) (fun n1 h' fl => ⟨zR_m1, fun z => absurd z (by decide), fun _ => ?_⟩)
  rotate_left
  · rw [if_pos n1] at lF
    exact lF _ rfl n1 h' fl
  rw [if_neg (show ¬ ¬ _ from fun z => z e1)] at lF
  have w1 := ln_V tk (show 0 ≤ i + 1 by omega) im k1
  rw [show i + 1 + 1 = i + 2 by omega] at c4
  have dr := c4.2.2.2.2.2.2.1 bt
  have n12 := dr.2.2.2.2.1
  obtain ⟨⟨d1, d2, d3, d4⟩, ct, de, df, po⟩ := dr
  rw [d2]
  have bitq : zcmp (zland (zlushr s.2.2.2.2.1 (V (i + 1))) 1) 1 = 0 ↔ tb s.2.2.2.2.1 (V (i + 1)) = true := zbit_u (by omega) (by omega)
  rw [bitq]
  refine ⟨⟨by omega, by omega⟩, fun _ => ⟨fun nb => ?_, fun yb => ?_⟩, fun z => absurd w1.1 z⟩
  · have L0 : (lnD K Sp V i s).1 = 0 := by
      unfold lnD
      rw [if_neg c1, if_neg (show ¬ ¬ _ from fun z => z e1), if_neg nb]
    obtain ⟨o1, -, -, -, o5⟩ := okk L0
    have kC := kC L0
    rw [o5] at kC o1
    obtain ⟨h8, e8⟩ : ∃ h8, h8 = zup h4 4 8 (zlor s.2.2.2.2.1 (zlshl 1 (V (i + 1)))) := ⟨_, rfl⟩
    rw [← e8]
    have X : ∀ a, ¬ a = 4 → h8 a = h4 a := fun a p => by rw [e8, zup_ne p]
    have X4 : ∀ j, ¬ j = 8 → h8 4 j = h4 4 j := fun j p => by rw [e8, zup_ns p]
    have cg := CLs_g b c4 (h' := h8) (fun a p q r u => X a (by omega))
    have b8 : bdy h8 := bdy_fr (fun j _ _ => by rw [bR_k (h := h4) (by rw [X 17 (by decide)]) (by rw [X 17 (by decide)]) (X 18 (by decide)) (X 19 (by decide))]) c4.2.2.1
    refine kC h8 ⟨cg.1, TX_fr c4.2.1 (X 13 (by decide)) (X 14 (by decide)) (X 15 (by decide)) (X 16 (by decide)), b8, TB_fr (fun a p q => X a (by omega)) c4.2.2.2.1, ?_, o1, fun _ => ⟨⟨?_, ?_, ?_, ?_⟩, ?_, fun e a q => ?_, fun j a q => ?_, o1.2.2.2.2 rfl⟩, cg.2.2⟩ (by show i < i + 2; omega)
    · rw [cg.2.1, c4.2.2.2.2.1, cnt_t bt, cnt_t rfl]
    · rw [X4 7 (by decide), d1]
    · rw [e8, zup_eq]
    · rw [X4 9 (by decide), d3]
    · rw [X4 10 (by decide), d4]
    · unfold ctS at ct ⊢
      rw [X 10 (by decide), X4 11 (by decide), X4 12 (by decide)]
      exact ct
    · obtain ⟨q1, q2, q3, q4, q5⟩ := de e a q
      have q : e < (s.2.2.2.2.2.1.length : Int) := q
      exact ⟨by rw [X 5 (by decide)]; exact q1, by rw [X 6 (by decide)]; exact q2, fun y p r => by rw [mk_e (X 7 (by decide))]; exact q3 y p r, lsP_fr (X _ (by omega)) (X _ (by omega)) q4, by rw [X _ (by omega)]; exact q5⟩
    · rw [X 8 (by decide), X 9 (by decide)]
      exact df j a q
  · rw [if_pos yb] at lF
    refine eX10_failAt (bX10_failAt_0 (lF _ rfl (show ¬ (3 : Int) = 0 by decide) _ (FL_t c4.1 ⟨⟨fun a p q => by rw [zup_ne p, zup_ne p], fun j p => by rw [zup_ns (by omega), zup_ns (by omega)]⟩, by rw [zup_ns (by decide), zup_eq]; rfl, by rw [zup_eq]; rfl, bdy_fr (fun j _ _ => by rw [bR_k (h := h4) (by rw [zup_ne (by decide), zup_ne (by decide)]) (by rw [zup_ne (by decide), zup_ne (by decide)]) (by rw [zup_ne (by decide), zup_ne (by decide)]) (by rw [zup_ne (by decide), zup_ne (by decide)])]) c4.2.2.1⟩)))
end RG2
