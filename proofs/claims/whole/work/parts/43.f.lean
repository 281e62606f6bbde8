/-! ===== lines of machines, and the whole text ===== -/
section RF
variable {G : zG} {d : Nat} {h0 h : zH} {K Sp V : Int → Int} {m i t : Int} {Dl : List Int} {s : St} {R : Bool → zH → Prop}
/-- the latest machine is closed -/
theorem sp_closeC {Q : zH → Prop} (b : b0 t h0) (c : CLs t Dl K Sp V m h0 h i s) (k : ∀ h' : zH, fLn t h0 h' → (∀ a, ¬ (4 ≤ a ∧ a ≤ 10) → ¬ a = 12 → ¬ rowA h0 a → h' a = h a) → h' 12 6 = cnt s → wOK h' (nO s) → Q h') : zCv G (d + 6) mX8_closeMachine [vr 8 12] h Q := by
  obtain ⟨f80, f81, ht⟩ := fLn_s b c.1
  have o := c.2.2.2.2.2.1
  cases bt : s.2.1
  · refine eX8_closeMachine (bX8_closeMachine_0 ?_)
    rw [c.2.2.2.2.1, cnt_f bt]
    refine sp_isIn zR_m1 ⟨by decide, by decide⟩ ?_
    rw [decide_eq_false (by decide)]
    refine ⟨fun z => (by cases z), fun _ => k h c.1 (fun _ _ _ _ => rfl) (by rw [c.2.2.2.2.1]) (by rw [nO_f bt]; exact c.2.2.2.2.2.2.2)⟩
  · have O3 := o.2.2.1
    have mc := b.2.2.2.1 s.2.2.1.length (by omega) (by omega)
    refine sp_closeMachine (k0 := s.2.2.1.length) (c.2.2.2.2.2.2.1 bt) (by rw [c.2.2.2.2.1, cnt_t bt]) (by omega) (by rw [f80]; exact b.2.2.1) (by rw [f81]; exact mc) (fun h' g1 g2 g3 => ?_)
    rw [f81] at g1 g3
    have mr := mc_rg mc
    have G1 : ∀ a, ¬ (4 ≤ a ∧ a ≤ 10) → ¬ a = 12 → ¬ rowA h0 a → h' a = h a := fun a p q r => g1 a p q (fun z => r ⟨s.2.2.1.length, by omega, z⟩)
    have e81 : h' 81 = h0 81 := by rw [g1 81 (by omega) (by omega) (by omega), f81]
    refine k h' ⟨fun a p q r u => ?_, fun j p => by rw [g2 j (by omega), c.1.2 j p]⟩ G1 (by rw [g2 6 (by decide), c.2.2.2.2.1]) ?_
    · rw [G1 a (by omega) (by omega) u, c.1.1 a p q r u]
    · rw [nO_t bt]
      have w := c.2.2.2.2.2.2.2
      have all : ∀ j : Int, 0 ≤ j → j < s.2.2.1.length → wdM (gM s.2.2.1 j) ∨ okN (gM s.2.2.1 j) := by
        rcases w with ⟨w1, w2⟩ | ⟨w1, w2, w3⟩
        · exact fun j a e => Or.inr (okM_N (w2 j a e))
        · exact w3
      have ext : wdM s.2.2.2 ∨ okN s.2.2.2 → ∀ j : Int, 0 ≤ j → j < ((s.2.2.1.length + 1 : Nat) : Int) → wdM (gM (s.2.2.1 ++ [s.2.2.2]) j) ∨ okN (gM (s.2.2.1 ++ [s.2.2.2]) j) := fun q j a e => by
        by_cases z : j = s.2.2.1.length
        · rw [gM_r z]
          exact q
        · rw [gM_l a (by omega)]
          exact all j a (by omega)
      unfold wOK wdA at w ⊢
      rw [f81] at w
      rw [len_1, e81]
      rcases g3 with ⟨g4, g5⟩ | ⟨g4, g5⟩
      · rcases w with ⟨w1, w2⟩ | ⟨w1, ⟨j, j0, w2⟩, -⟩
        · refine Or.inl ⟨by rw [g4, w1], fun j a e => ?_⟩
          by_cases z : j = s.2.2.1.length
          · rw [gM_r z, z]
            exact g5
          · rw [gM_l a (by omega)]
            refine okM_fr (fun x p q => g1 x ?_ ?_ (row_dj (b.2.2.2.1 j a (by omega)) mc (b.2.2.2.2 j _ a (by omega) (by omega)) ⟨p, q⟩)) (w2 j a (by omega))
            · have := mc_rg (b.2.2.2.1 j a (by omega))
              omega
            · have := mc_rg (b.2.2.2.1 j a (by omega))
              omega
        · exact Or.inr ⟨by rw [g4, w1], ⟨j, by omega, by rw [gM_l j0.1 j0.2]; exact w2⟩, ext (Or.inr (okM_N g5))⟩
      · exact Or.inr ⟨g4, ⟨s.2.2.1.length, by omega, by rw [gM_r rfl]; exact g5⟩, ext (Or.inl g5)⟩
theorem sp_lineM (tk : TK K V m) (b : b0 t h0) (c : CLs t Dl K Sp V m h0 h i s) (k6 : K i = 6) (kF : ¬ (lnM K Sp V i s).1 = 0 → ∀ h' : zH, FL t h0 h' (lnM K Sp V i s).1 (lnM K Sp V i s).2.1 → R false h') (kC : (lnM K Sp V i s).1 = 0 → ∀ h' : zH, CLs t Dl K Sp V m h0 h' (lnM K Sp V i s).2.2.1 (lnM K Sp V i s).2.2.2 → i < (lnM K Sp V i s).2.2.1 → R true h') (h2 : zH) (f2 : fLn t h0 h2) (g2 : ∀ a, ¬ (4 ≤ a ∧ a ≤ 10) → ¬ a = 12 → ¬ rowA h0 a → h2 a = h a) (e6 : h2 12 6 = cnt s) (w2 : wOK h2 (nO s)) : zCb G (d + 6) mX8_readMachine [vr 8 12] h2 R := by
  have tt := b.1
  have tx := c.2.1
  have im := TX_lt tk tx (by omega) (by omega)
  have i0 := tx.2.2.1
  have nr : ∀ a, a < 157 → ¬ rowA h0 a := fun a p r => by have := row_rg b r; omega
  have G2 : ∀ a, 13 ≤ a → a < 157 → h2 a = h a := fun a p q => g2 a (by omega) (by omega) (nr a q)
  have o := c.2.2.2.2.2.1
  have okk := lnM_ok (Sp := Sp) (s := s) tk ⟨i0.1, im⟩ o
  have tx2 : TX h2 K Sp V m i := TX_fr tx (G2 13 (by decide) (by decide)) (G2 14 (by decide) (by decide)) (G2 15 (by decide) (by decide)) (G2 16 (by decide) (by decide))
  have bd2_ : bdy h2 := bdy_fr (fun j _ _ => by rw [bR_k (h := h) (by rw [G2 17 (by decide) (by decide)]) (by rw [G2 17 (by decide) (by decide)]) (G2 18 (by decide) (by decide)) (G2 19 (by decide) (by decide))]) c.2.2.1
  have c0 : 0 ≤ cnt s ∧ cnt s ≤ 4 := by
    have := o.2.2.1
    unfold cnt
    by_cases q : s.2.1 = true
    · rw [if_pos q]; omega
    · rw [if_neg q]; omega
  unfold lnM at kF
  refine eX8_readMachine (bX8_readMachine_0 ?_)
  rw [e6]
  refine ⟨⟨by omega, by omega⟩, fun l4 => ?_, fun g4 => sp_failT bd2_ tx2 (fun h' _ _ ft => ?_)⟩
  rotate_left
  · rw [if_pos (show 4 ≤ cnt s by omega)] at kF
    exact kF (show ¬ (5 : Int) = 0 by decide) h' (FL_t f2 ft)
  rw [if_neg (show ¬ 4 ≤ cnt s by omega)] at kF
  refine sp_stepT tk tx2 (by omega) (by omega) (fun h3 y1 y2 y3 => ?_)
  have f3 : fLn t h0 h3 := fLn_B f2 (fB_13 y1 y2)
  have bd3 := bdy_13 y1 bd2_
  have t3 := tk.2 (i + 1) (by omega) im
  rw [y3.2.2.2.2.1, y3.2.2.2.2.2.2]
  refine ⟨t3.1, fun e3 => ?_, fun n3 => sp_failT bd3 y3 (fun h' _ _ ft => ?_)⟩
  rotate_left
  · rw [if_pos n3] at kF
    exact kF (show ¬ (1 : Int) = 0 by decide) h' (FL_t f3 ft)
  rw [if_neg (show ¬ ¬ _ from fun z => z e3)] at kF
  have v0 := t3.2.1 e3
  have z1 := zcmp_lt (x := V (i + 1)) (y := 1) ⟨by omega, by omega⟩ ⟨by decide, by decide⟩
  have z2 := zcmp_lt (x := V (i + 1)) (y := 12) ⟨by omega, by omega⟩ ⟨by decide, by decide⟩
  have zz1 : zcmp (V (i + 1)) 1 < 0 ↔ V (i + 1) < 1 := by
    rcases Int.lt_trichotomy (V (i + 1)) 1 with w | w | w
    · rw [z1.1.mpr w]; omega
    · rw [z1.2.1.mpr w]; omega
    · rw [z1.2.2.mpr w]; omega
  have zz2 : zcmp (V (i + 1)) 12 ≤ 0 ↔ V (i + 1) ≤ 12 := by
    rcases Int.lt_trichotomy (V (i + 1)) 12 with w | w | w
    · rw [z2.1.mpr w]; omega
    · rw [z2.2.1.mpr w]; omega
    · rw [z2.2.2.mpr w]; omega
  rw [zz1, zz2]
  have bad : (V (i + 1) < 1 ∨ 12 < V (i + 1)) → zCb G (d + 5) mX10_fail [vr 10 13, vi 4] h3 (fun x3 h4 => R x3 h4) := fun q => sp_failT bd3 y3 (fun h' _ _ ft => by
    rw [if_pos q] at kF
    exact kF (show ¬ (4 : Int) = 0 by decide) h' (FL_t f3 ft))
  refine ⟨fun q => bad (Or.inl q), fun q => ⟨fun q2 => ?_, fun q2 => bad (Or.inr (by omega))⟩⟩
  refine sp_stepT tk y3 (by omega) (by omega) (fun h6 u1 u2 u3 => ⟨⟨by omega, by omega⟩, sp_begin ⟨by omega, by omega⟩ (fun h8 x1 x2 x3 x4 x5 x6 => ?_)⟩)
  have L0 : (lnM K Sp V i s).1 = 0 := by
    unfold lnM
    rw [if_neg (show ¬ 4 ≤ cnt s by omega), if_neg (show ¬ ¬ _ from fun z => z e3), if_neg (by omega)]
  obtain ⟨o1, -, -, -, o5⟩ := okk L0
  obtain ⟨h9, e9⟩ : ∃ h9, h9 = zup h8 12 6 (h8 12 6 + 1) := ⟨_, rfl⟩
  rw [← e9]
  have kC := kC L0 h9
  rw [o5] at kC o1
  have w : ∀ a, ¬ a = 12 → h9 a = h8 a := fun a p => by rw [e9, zup_ne p]
  have W : ∀ a, ¬ a = 12 → ¬ a = 4 → ¬ a = 10 → ¬ a = 13 → h9 a = h2 a := fun a p q r u => by rw [w a p, x1 a q r, u1 a u, y1 a u]
  have W12 : ∀ j, ¬ j = 6 → h9 12 j = h2 12 j := fun j p => by rw [e9, zup_ns p, x1 12 (by decide) (by decide), u1 12 (by decide), y1 12 (by decide)]
  have e86 : h8 12 6 = cnt s := by rw [x1 12 (by decide) (by decide), u1 12 (by decide), y1 12 (by decide), e6]
  have f9 : fLn t h0 h9 := ⟨fun a p q r u => by rw [W a (by omega) (by omega) (by omega) (by omega), f2.1 a p q r u], fun j p => by rw [W12 j (by omega), f2.2 j p]⟩
  have tx9 : TX h9 K Sp V m (i + 2) := by
    rw [show i + 1 + 1 = i + 2 by omega] at u3
    exact TX_fr u3 (by rw [w 13 (by decide), x1 13 (by decide) (by decide)]) (by rw [w 14 (by decide), x1 14 (by decide) (by decide)]) (by rw [w 15 (by decide), x1 15 (by decide) (by decide)]) (by rw [w 16 (by decide), x1 16 (by decide) (by decide)])
  have W17 : ∀ a, 17 ≤ a → h9 a = h2 a := fun a p => W a (by omega) (by omega) (by omega) (by omega)
  have bd9 : bdy h9 := bdy_fr (fun j _ _ => by rw [bR_k (h := h2) (by rw [W17 17 (by decide)]) (by rw [W17 17 (by decide)]) (W17 18 (by decide)) (W17 19 (by decide))]) bd2_
  have tb9 : TB h9 t s.1 Dl := TB_fr (fun a p q => by rw [W17 a (by omega), g2 a (by omega) (by omega) (fun r => by have := row_rg b r; omega)]) c.2.2.2.1
  refine kC ⟨f9, tx9, bd9, tb9, ?_, o1, fun _ => ⟨⟨by rw [w 4 (by decide), x2], by rw [w 4 (by decide), x3], by rw [w 4 (by decide), x4]; rfl, by rw [w 4 (by decide), x5]; rfl⟩, ?_, fun e a q => absurd q (by show ¬ e < ((0 : Nat) : Int); omega), fun e a q => absurd q (by show ¬ e < ((0 : Nat) : Int); omega), o1.2.2.2.2 rfl⟩, ?_⟩ (by show i < i + 2; omega)
  · show h9 12 6 = cnt (s.1, true, nO s, (V (i + 1), 0, [], []))
    rw [cnt_t rfl, e9, zup_eq, e86]
    show cnt s + 1 = ((nO s).length : Int) + 1
    unfold cnt nO
    by_cases q : s.2.1 = true
    · rw [if_pos q, if_pos q, len_1]
      omega
    · rw [if_neg q, if_neg q, o.2.1 (by cases r : s.2.1 <;> first | rfl | exact absurd r q)]
      rfl
  · rw [if_pos (by omega)] at x6
    unfold ctS at x6 ⊢
    rw [w 4 (by decide), w 10 (by decide)]
    exact x6
  · refine wOK_fr b f2 ?_ (W12 7 (by decide)) (W17 81 (by decide)) (fun a r => W17 a (by have := row_rg b r; omega)) w2
    have := o1.2.2.1
    have : ((nO s).length : Int) ≤ 3 := this
    omega
end RF
