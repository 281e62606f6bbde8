/-! ===== the class's stack follows the text ===== -/
section RC
variable {G : zG} {d : Nat} {K Sp V : Int → Int} {m : Int} {L : List nsT} {Dl : List Int} {t l2 l3 : Int} {Q : Bool → zH → Prop} {h0 : zH}
theorem fB_13 {h h' : zH} (e : ∀ a, ¬ a = 13 → h' a = h a) (e2 : ∀ j, ¬ (4 ≤ j ∧ j ≤ 7) → h' 13 j = h 13 j) : fB h h' := ⟨fun a p _ => e a p, fun j p => e2 j (by omega)⟩
/-- one turn of the loop -/
theorem rb_turn {h : zH} {w : Int} (hw : 0 ≤ w ∧ w ≤ 900) (p1 : h 17 10 = 1 → zCb G d mX0_readPart [vr 0 17, vr 9 t] h (fun x25 h26 => (x25 = true → tX0_readBody_28 G d Q t l2 l3 1 (w + 1) h26) ∧ (x25 = false → Q false h26))) (p0 : h 17 10 = 0 → zCb G d mX0_readSign [vr 0 17] h (fun x27 h28 => tX0_readBody_28 G d Q t l2 l3 (bi x27) (w + 1) h28)) (pp : h 17 10 = 0 ∨ h 17 10 = 1) : tX0_readBody_28 G d Q t l2 l3 1 w h := by
  refine bX0_readBody_28 ⟨⟨by decide, by decide⟩, fun z => absurd z (by decide), fun _ => ⟨⟨by omega, by omega⟩, fun z => absurd z (by omega), fun _ => ⟨⟨by omega, by omega⟩, fun z => p1 (by omega), fun z => p0 z⟩⟩⟩
theorem rb_PR (tk : TK K V m) (dl : DL K V m Dl) (tb : TB h0 t L Dl) : ∀ f : Nat,
    (∀ (i l o w : Int) (F : Int → Int → Bool) (J N : Int → Int) (h : zH), m ≤ i + f → fB h0 h → TX h K Sp V m i → SS h Dl l o 1 F J N → (J l = 8 ∨ J l = 2) → (0 ≤ N l ∧ N l + l ≤ o ∧ o ≤ 12) → (0 ≤ w ∧ w ≤ i) → ∀ r : Rs, pr K Sp V L f false i o ff ff = r → (¬ r.1 = 0 → ∀ h' : zH, FT h0 h' r.1 r.2.1 → Q false h') → (r.1 = 0 → ∀ (h' : zH) (w' : Int), fB h0 h' → TX h' K Sp V m r.2.2.1 → i < r.2.2.1 → 0 ≤ w' ∧ w' ≤ r.2.2.1 → SS h' Dl l (o - N l) 0 (fuS F (15 + l) (mt (J l) (N l) (F (15 + l)) r.2.2.2)) J (fup N l 0) → tX0_readBody_28 G (d + 4) Q t l2 l3 1 w' h') → tX0_readBody_28 G (d + 4) Q t l2 l3 1 w h) ∧
    (∀ (i l o w : Int) (F : Int → Int → Bool) (J N : Int → Int) (h : zH), m ≤ i + f → fB h0 h → TX h K Sp V m i → SS h Dl l o 0 F J N → N l = 0 → (0 ≤ l ∧ l ≤ o ∧ o ≤ 12) → (0 ≤ w ∧ w ≤ i) → ∀ r : Rs, pr K Sp V L f true i o (F (2 + l)) (F (15 + l)) = r → (¬ r.1 = 0 → ∀ h' : zH, FT h0 h' r.1 r.2.1 → Q false h') → (r.1 = 0 → ∀ (h' : zH) (w' : Int) (F' : Int → Int → Bool) (J' N' : Int → Int), fB h0 h' → TX h' K Sp V m r.2.2.1 → i ≤ r.2.2.1 → (¬ K r.2.2.1 = 124 ∧ ¬ K r.2.2.1 = 38 ∧ ¬ K r.2.2.1 = 45) → 0 ≤ w' ∧ w' ≤ r.2.2.1 → SS h' Dl l o 0 F' J' N' → N' l = 0 → (∀ j, live (l - 1) j → F' j = F j) → (∀ j, 0 ≤ j → j < l → J' j = J j ∧ N' j = N j) → (fun z => F' (2 + l) z || F' (15 + l) z) = r.2.2.2 → tX0_readBody_28 G (d + 4) Q t l2 l3 1 w' h') → tX0_readBody_28 G (d + 4) Q t l2 l3 1 w h) := by
  have dk := dl.1
  have m9 := tk.1
  intro f
  induction f with
  | zero =>
    refine ⟨fun i l o w F J N h mf fb tx => ?_, fun i l o w F J N h mf fb tx => ?_⟩
    · exact absurd tx.2.2.1 (by omega)
    · exact absurd tx.2.2.1 (by omega)
  | succ f ih =>
    obtain ⟨ihP, ihR⟩ := ih
    constructor
    · -- a part
      intro i l o w F J N h mf fb tx ss jl nl hw r er kF kC
      have i0 := tx.2.2.1
      have ki := tk.2 i i0.1 i0.2
      have l0 := ss.2.1
      have e17 := ss.1
      refine rb_turn (by omega) (fun _ => ?_) (fun z => absurd z (by omega)) (by omega)
      refine eX0_readPart (bX0_readPart_0 ?_)
      rw [tx.2.2.2.2.1, e17.2.1, e17.1]
      -- behind a leaf
      have leaf : ∀ (T : Int → Bool) (h2 : zH) (p : Int), r.1 = 0 → r.2.2.1 = p → r.2.2.2 = T → LF h h2 → TX h2 K Sp V m p → i < p → lsP h2 (bR h2 0) T Dl → zCv G (d + 3) mX0_closePart [vr 0 17, vr 3 (h2 17 6)] h2 (fun h5 => (true = true → tX0_readBody_28 G (d + 4) Q t l2 l3 1 (w + 1) h5) ∧ (true = false → Q false h5)) := by
        intro T h2 p r0 er2 er3 lf tx2 ip ls
        rw [← bR_0 (h := h2)]
        refine sp_closePart (d := d + 1) dk (SS_LF lf ss) (Or.inl rfl) ls jl (by omega) (fun h5 g1 g2 g3 => ⟨fun _ => ?_, fun z => (by cases z)⟩)
        rw [er2, er3] at kC
        exact kC r0 h5 (w + 1) (fB_t fb (fB_t lf.1 g1)) (TX_fr tx2 g2 (g1.1 14 (by decide) (by decide)) (g1.1 15 (by decide) (by decide)) (g1.1 16 (by decide) (by decide))) ip (by omega) g3
      refine ⟨ki.1, fun n33 => ⟨ki.1, fun n40 => ⟨ki.1, fun n91 => ?_, fun e91 => ?_⟩, fun e40 => ⟨⟨by omega, by omega⟩, fun o12 => ?_, fun o12 => ⟨⟨by omega, by omega⟩, fun _ => ?_, fun z => absurd (by omega) z⟩⟩⟩, fun e33 => ⟨⟨by omega, by omega⟩, fun o12 => ?_, fun o12 => ⟨⟨by omega, by omega⟩, fun _ => ?_, fun z => absurd (by omega) z⟩⟩⟩
      · refine sp_readName (d := d + 1) (f := f) (o := o) (E := ff) (M := ff) tk dk ss.2.2.1 (TB_fB fb tb) tx n33 n40 n91 (fun S eq h2 lf tx2 ls => ⟨fun _ => leaf S h2 (i + 1) (by rw [er.symm.trans eq]; rfl) (by rw [er.symm.trans eq]; rfl) (by rw [er.symm.trans eq]; rfl) lf tx2 (by omega) ls, fun z => (by cases z)⟩) (fun n n0 eq h2 ft => ⟨fun z => (by cases z), fun _ => ⟨fun z => (by cases z), fun _ => ?_⟩⟩)
        have : r = rF n (Sp i) := er.symm.trans eq
        rw [this] at kF
        exact kF n0 h2 (FT_t fb ft)
      · have eq : rng K Sp V f i (fun _ => false) = r := (pr_rng (L := L) (o := o) (E := ff) (M := ff) e91).symm.trans er
        refine sp_readRanges (d := d) (f := f) tk dl ss.2.2.1 tx e91 (by omega) (fun S e1 e2 h2 lf tx2 ip ls => ⟨fun _ => ?_, fun z => (by cases z)⟩) (fun n0 h2 ft => ⟨fun z => (by cases z), fun _ => ⟨fun z => (by cases z), fun _ => ?_⟩⟩)
        · rw [eq] at e1 e2 tx2 ip
          exact leaf S h2 _ e1 rfl e2 lf tx2 ip ls
        · rw [eq] at n0 ft
          exact kF n0 h2 (FT_t fb ft)
      · -- ( too deep
        have eq := er.symm.trans (pr_in _ _ rfl rfl e40)
        rw [if_pos o12] at eq
        refine sp_failT ss.2.2.1 tx (fun h2 _ _ ft => ⟨fun z => (by cases z), fun _ => ?_⟩)
        rw [eq] at kF
        exact kF (show ¬ (6 : Int) = 0 by decide) h2 (FT_t fb ft)
      · -- (
        obtain ⟨r1, er1⟩ : ∃ r1, pr K Sp V L f false (i + 1) (o + 1) ff ff = r1 := ⟨_, rfl⟩
        obtain ⟨s, es⟩ : ∃ s, pr K Sp V L f true r1.2.2.1 (o + 1) (fun _ => false) r1.2.2.2 = s := ⟨_, rfl⟩
        have eq := er.symm.trans (pr_in r1 s er1 es e40)
        rw [if_neg o12] at eq
        have q9 : ∀ a, ¬ a = 17 → (zup h 17 9 (o + 1)) a = h a := fun a p => zup_ne p
        refine sp_stepT tk (TX_fr tx (q9 13 (by decide)) (q9 14 (by decide)) (q9 15 (by decide)) (q9 16 (by decide))) (by omega) (by omega) (fun h14 g1 g2 g3 => ?_)
        have u17 : ∀ j, ¬ j = 9 → h14 17 j = h 17 j := fun j p => by rw [g1 17 (by decide), zup_ns p]
        rw [u17 8 (by decide), e17.1]
        obtain ⟨h15, e15⟩ : ∃ h15, h15 = zup h14 17 8 (l + 1) := ⟨_, rfl⟩
        rw [← e15]
        have v : ∀ a, ¬ a = 17 → ¬ a = 13 → h15 a = h a := fun a p q => by rw [e15, zup_ne p, g1 a q, zup_ne p]
        have v13 : h15 13 = h14 13 := by rw [e15, zup_ne (by decide)]
        have f15 : fB h h15 := ⟨fun a p q => v a (by omega) p, fun j p => by rw [v13, g2 j (by omega), q9 13 (by decide)]⟩
        have v17 : ∀ j, ¬ j = 8 → ¬ j = 9 → h15 17 j = h 17 j := fun j p q => by rw [e15, zup_ns p, u17 j q]
        have eb : bR h15 = bR h := bR_k (v17 6 (by decide) (by decide)) (v17 7 (by decide) (by decide)) (v 18 (by decide) (by decide)) (v 19 (by decide) (by decide))
        have v9 : h15 17 9 = o + 1 := by rw [e15, zup_ns (by decide), g1 17 (by decide), zup_eq]
        have tx15 : TX h15 K Sp V m (i + 1) := TX_fr g3 v13 (by rw [e15, zup_ne (by decide)]) (by rw [e15, zup_ne (by decide)]) (by rw [e15, zup_ne (by decide)])
        refine sp_openLevel (d := d + 1) (l := l + 1) (o := o + 1) (F := F) (J := J) (N := N) dk (by rw [e15, zup_eq]) v9 (by omega) (bdy_fr (fun j _ _ => by rw [eb]) ss.2.2.1) (fun j hj => ?_) (fun j j0 j1 => ?_) (fun h16 y1 y2 y3 => ⟨fun _ => ?_, fun z => (by cases z)⟩)
        · rw [show l + 1 - 1 = l by omega] at hj
          have := ss.2.2.1.1 j (by unfold live at hj; omega) (by unfold live at hj; omega)
          rw [eb]
          exact lsP_fr (v _ (by omega) (by omega)) (v _ (by omega) (by omega)) (ss.2.2.2.1 j hj)
        · rw [v 20 (by decide) (by decide), v 21 (by decide) (by decide)]
          exact ss.2.2.2.2 j j0 (by omega)
        have f16 := fB_t fb (fB_t f15 y1)
        have tx16 : TX h16 K Sp V m (i + 1) := TX_fr tx15 y2 (y1.1 14 (by decide) (by decide)) (y1.1 15 (by decide) (by decide)) (y1.1 16 (by decide) (by decide))
        refine ihP (i + 1) (l + 1) (o + 1) (w + 1) _ _ _ h16 (by omega) f16 tx16 y3 (Or.inl fup_eq) (by rw [fup_eq]; omega) (by omega) r1 er1 (fun n0 h' ft => ?_) (fun n0 h2 w2 f2 tx2 ip w20 ss2 => ?_)
        · rw [if_pos n0] at eq
          rw [eq] at kF
          exact kF n0 h' ft
        · rw [if_neg (show ¬ ¬ r1.1 = 0 from fun z => z n0)] at eq
          rw [fup_eq (f := J), fup_eq (f := N), fuS_e, mt_t, show o + 1 - 0 = o + 1 by omega] at ss2
          refine ihR r1.2.2.1 (l + 1) (o + 1) w2 _ _ _ h2 (by omega) f2 tx2 ss2 fup_eq (by omega) w20 s ?_ (fun s0 h' ft => ?_) (fun s0 h3 w3 F' J' N' f3 tx3 ip3 kn w30 ss3 n3 eF eJ eS => ?_)
          · rw [fuS_n (show ¬ 2 + (l + 1) = 15 + (l + 1) by omega), fuS_n (show ¬ 2 + (l + 1) = 15 + (l + 1) by omega), fuS_e, fuS_e]
            exact es
          · rw [if_pos s0] at eq
            rw [eq] at kF
            exact kF s0 h' ft
          · rw [if_neg (show ¬ ¬ s.1 = 0 from fun z => z s0)] at eq
            have i3 := tx3.2.2.1
            have k3 := tk.2 _ i3.1 i3.2
            rw [show l + 1 - 1 = l by omega] at eF
            refine rb_turn (by omega) (fun z => absurd (ss3.1.2.2.symm.trans z) (by decide)) (fun _ => ?_) (Or.inl ss3.1.2.2)
            refine eX0_readSign (bX0_readSign_0 ?_)
            rw [tx3.2.2.2.2.1, ss3.1.1]
            have stop : ¬ K s.2.2.1 = 41 → tX0_readBody_28 G (d + 4) Q t l2 l3 0 (w3 + 1) h3 := fun n41 => by
              rw [if_neg n41] at eq
              refine bX0_readBody_28 ?_
              rw [ss3.1.1]
              refine ⟨⟨by decide, by decide⟩, fun _ => ⟨⟨by omega, by omega⟩, fun z => absurd z (by omega), fun _ => sp_failT ss3.2.2.1 tx3 (fun h' _ _ ft => ?_)⟩, fun z => absurd rfl z⟩
              rw [eq] at kF
              exact kF (show ¬ (1 : Int) = 0 by decide) h' (FT_t f3 ft)
            refine ⟨k3.1, fun _ => ⟨k3.1, fun z => absurd z kn.2.1, fun _ => ⟨k3.1, fun _ => ⟨k3.1, fun n41 => stop n41, fun e41 => ⟨⟨by omega, by omega⟩, fun z => absurd z (by omega), fun _ => ?_⟩⟩, fun z => absurd z kn.2.2⟩⟩, fun z => absurd z kn.1⟩
            rw [if_pos e41] at eq
            refine sp_closeMeet (d := d + 1) dk ss3 (fun h6 g1 g2 g3 => ?_)
            rw [g3.1.1, g3.1.2.1, show l + 1 - 1 = l by omega, ← bR_e (h := h6) (by omega : 0 ≤ l + 1 ∧ l + 1 < 13)]
            refine ⟨by omega, ?_⟩
            obtain ⟨h7, e7⟩ : ∃ h7, h7 = zup (zup h6 17 8 l) 17 9 (o + 1 - 1) := ⟨_, rfl⟩
            rw [← e7]
            have x : ∀ a, ¬ a = 17 → h7 a = h6 a := fun a p => by rw [e7, zup_ne p, zup_ne p]
            have x17 : ∀ j, ¬ j = 8 → ¬ j = 9 → h7 17 j = h6 17 j := fun j p q => by rw [e7, zup_ns q, zup_ns p]
            have eb7 : bR h7 = bR h6 := bR_k (x17 6 (by decide) (by decide)) (x17 7 (by decide) (by decide)) (x 18 (by decide)) (x 19 (by decide))
            have sj : ∀ j, 0 ≤ j → j ≤ l → h7 20 j = J j ∧ h7 21 j = N j := fun j a b => by
              have q := g3.2.2.2.2 j a (by omega)
              have q2 := eJ j a (by omega)
              rw [x 20 (by decide), x 21 (by decide), q.1, q.2, q2.1, q2.2, fup_ne (show ¬ j = l + 1 by omega), fup_ne (show ¬ j = l + 1 by omega), fup_ne (show ¬ j = l + 1 by omega)]
              exact ⟨rfl, rfl⟩
            have ss7 : SS h7 Dl l o 0 F J N := SS_17 (fun a p q => x a (by omega)) (x 18 (by decide)) (x 19 (by decide)) (x17 6 (by decide) (by decide)) (x17 7 (by decide) (by decide)) ⟨by rw [e7, zup_ns (by decide), zup_eq], by rw [e7, zup_eq]; omega, by rw [x17 10 (by decide) (by decide)]; exact g3.1.2.2⟩ (by omega) g3 (fun j hj => by
              have : ¬ j = 2 + (l + 1) ∧ ¬ j = 15 + (l + 1) := by unfold live at hj; omega
              rw [fuS_n this.1, eF j hj, fuS_n this.2, fuS_n this.2, fuS_n this.1]) sj
            have ls7 : lsP h7 (bR h7 (2 + (l + 1))) s.2.2.2 Dl := by
              have := g3.2.2.2.1 (2 + (l + 1)) (Or.inl (by omega))
              rw [fuS_e, eS] at this
              have r7 := g3.2.2.1.1 (2 + (l + 1)) (by omega) (by omega)
              rw [eb7]
              exact lsP_fr (x _ (by omega)) (x _ (by omega)) this
            rw [← eb7, show 2 + (l + 1) = 3 + l by omega]
            rw [show 2 + (l + 1) = 3 + l by omega] at ls7
            refine sp_closePart (d := d + 1) dk ss7 (Or.inr ⟨rfl, by omega⟩) ls7 jl (by omega) (fun h9 z1 z2 z3 => ?_)
            have tx9 : TX h9 K Sp V m s.2.2.1 := TX_fr tx3 (by rw [z2, x 13 (by decide), g2]) (by rw [z1.1 14 (by decide) (by decide), x 14 (by decide), g1.1 14 (by decide) (by decide)]) (by rw [z1.1 15 (by decide) (by decide), x 15 (by decide), g1.1 15 (by decide) (by decide)]) (by rw [z1.1 16 (by decide) (by decide), x 16 (by decide), g1.1 16 (by decide) (by decide)])
            refine sp_stepT tk tx9 (by omega) (by omega) (fun h11 u1 u2 u3 => ?_)
            rw [eq] at kC
            exact kC rfl h11 (w3 + 1) (fB_t f3 (fB_t g1 (fB_t ⟨fun a p q => x a (by omega), fun j p => by rw [x 13 (by decide)]⟩ (fB_t z1 (fB_13 u1 u2))))) u3 (by show i < s.2.2.1 + 1; omega) (by show 0 ≤ w3 + 1 ∧ w3 + 1 ≤ s.2.2.1 + 1; omega) (SS_fr (fun a p q => u1 a (by omega)) z3)
      · -- ! too deep
        have eq := er.symm.trans (pr_not _ rfl e33)
        rw [if_pos o12] at eq
        refine sp_failT ss.2.2.1 tx (fun h2 _ _ ft => ⟨fun z => (by cases z), fun _ => ?_⟩)
        rw [eq] at kF
        exact kF (show ¬ (6 : Int) = 0 by decide) h2 (FT_t fb ft)
      · -- !
        obtain ⟨r1, er1⟩ : ∃ r1, pr K Sp V L f false (i + 1) (o + 1) ff ff = r1 := ⟨_, rfl⟩
        have eq := er.symm.trans (pr_not r1 er1 e33)
        rw [if_neg o12] at eq
        have q9 : ∀ a, ¬ a = 17 → (zup h 17 9 (o + 1)) a = h a := fun a p => zup_ne p
        refine sp_stepT tk (TX_fr tx (q9 13 (by decide)) (q9 14 (by decide)) (q9 15 (by decide)) (q9 16 (by decide))) (by omega) (by omega) (fun h22 g1 g2 g3 => ?_)
        have u17 : ∀ j, ¬ j = 9 → h22 17 j = h 17 j := fun j p => by rw [g1 17 (by decide), zup_ns p]
        have nl2 := (ss.2.2.2.2 l (by omega) (by omega)).2
        rw [u17 8 (by decide), e17.1, g1 21 (by decide), q9 21 (by decide), nl2]
        refine ⟨by omega, by omega, fun _ => ?_, fun z => (by cases z)⟩
        obtain ⟨h23, e23⟩ : ∃ h23, h23 = zup h22 21 l (N l + 1) := ⟨_, rfl⟩
        rw [← e23]
        have v : ∀ a, ¬ a = 17 → ¬ a = 13 → ¬ a = 21 → h23 a = h a := fun a p q s => by rw [e23, zup_ne s, g1 a q, zup_ne p]
        have v17 : ∀ j, ¬ j = 9 → h23 17 j = h 17 j := fun j q => by rw [e23, zup_ne (by decide), u17 j q]
        have v13 : h23 13 = h22 13 := by rw [e23, zup_ne (by decide)]
        have f23 : fB h h23 := ⟨fun a p q => v a (by omega) p (by omega), fun j p => by rw [v13, g2 j (by omega), q9 13 (by decide)]⟩
        have tx23 : TX h23 K Sp V m (i + 1) := TX_fr g3 v13 (by rw [e23, zup_ne (by decide)]) (by rw [e23, zup_ne (by decide)]) (by rw [e23, zup_ne (by decide)])
        have ss23 : SS h23 Dl l (o + 1) 1 F J (fup N l (N l + 1)) := SS_17 (fun a p q => v a (by omega) (by omega) (by omega)) (v 18 (by decide) (by decide) (by decide)) (v 19 (by decide) (by decide) (by decide)) (v17 6 (by decide)) (v17 7 (by decide)) ⟨by rw [v17 8 (by decide), e17.1], by rw [e23, zup_ne (by decide), g1 17 (by decide), zup_eq], by rw [v17 10 (by decide), e17.2.2]⟩ (by omega) ss (fun _ _ => rfl) (fun j a b => ⟨by rw [v 20 (by decide) (by decide) (by decide)]; exact (ss.2.2.2.2 j a b).1, by
          rw [e23, zup_r]
          by_cases c : j = l
          · rw [c, fup_eq, fup_eq]
          · rw [fup_ne c, fup_ne c, g1 21 (by decide), q9 21 (by decide)]
            exact (ss.2.2.2.2 j a b).2⟩)
        refine ihP (i + 1) l (o + 1) (w + 1) F J _ h23 (by omega) (fB_t fb f23) tx23 ss23 jl (by rw [fup_eq]; omega) (by omega) r1 er1 (fun n0 h' ft => ?_) (fun n0 h2 w2 f2 tx2 ip w20 ss2 => ?_)
        · rw [if_pos n0] at eq
          rw [eq] at kF
          exact kF n0 h' ft
        · rw [if_neg (show ¬ ¬ r1.1 = 0 from fun z => z n0)] at eq
          rw [fup_eq, mt_n nl.1, show o + 1 - (N l + 1) = o - N l by omega] at ss2
          rw [eq] at kC
          refine kC rfl h2 w2 f2 tx2 (by show i < r1.2.2.1; omega) w20 (SS_c ss2 (fun _ _ => rfl) (fun j a b => ⟨rfl, ?_⟩))
          by_cases c : j = l
          · rw [c, fup_eq, fup_eq]
          · rw [fup_ne c, fup_ne c, fup_ne c]
    · -- behind a part
      intro i l o w F J N h mf fb tx ss nl lo hw r er kF kC
      have i0 := tx.2.2.1
      have ki := tk.2 i i0.1 i0.2
      have l0 := ss.2.1
      have e17 := ss.1
      have prE : pr K Sp V L f false (i + 1) o (F (2 + l)) (F (15 + l)) = pr K Sp V L f false (i + 1) o ff ff := pr_E ff ff
      obtain ⟨r1, er1⟩ : ∃ r1, pr K Sp V L f false (i + 1) o ff ff = r1 := ⟨_, rfl⟩
      by_cases k124 : K i = 124
      · have eq := er.symm.trans (pr_or r1 (prE.trans er1) k124)
        refine rb_turn (by omega) (fun z => absurd (e17.2.2.symm.trans z) (by decide)) (fun _ => ?_) (Or.inl e17.2.2)
        refine eX0_readSign (bX0_readSign_0 ?_)
        rw [tx.2.2.2.2.1]
        refine ⟨ki.1, fun z => absurd k124 z, fun _ => sp_closeMeet (d := d + 1) dk ss (fun h17 g1 g2 g3 => sp_openMeet (d := d + 2) dk g3.1.1 g3.1.2.1 l0 g3.2.2.1 (fun j hj _ => g3.2.2.2.1 j hj) (fun j a b => ⟨fun _ => (g3.2.2.2.2 j a b).1, (g3.2.2.2.2 j a b).2⟩) (fun h19 y1 y2 y3 => ?_))⟩
        have tx19 : TX h19 K Sp V m i := TX_fr tx (by rw [y2, g2]) (by rw [y1.1 14 (by decide) (by decide), g1.1 14 (by decide) (by decide)]) (by rw [y1.1 15 (by decide) (by decide), g1.1 15 (by decide) (by decide)]) (by rw [y1.1 16 (by decide) (by decide), g1.1 16 (by decide) (by decide)])
        refine sp_stepT tk tx19 (by omega) (by omega) (fun h21 u1 u2 u3 => ?_)
        refine ihP (i + 1) l o (w + 1) _ _ _ h21 (by omega) (fB_t fb (fB_t g1 (fB_t y1 (fB_13 u1 u2)))) u3 (SS_fr (fun a p q => u1 a (by omega)) y3) (Or.inl fup_eq) (by rw [nl]; omega) (by omega) r1 er1 (fun n0 h' ft => ?_) (fun n0 h2 w2 f2 tx2 ip w20 ss2 => ?_)
        · rw [if_pos n0] at eq
          rw [eq] at kF
          exact kF n0 h' ft
        · rw [if_neg (show ¬ ¬ r1.1 = 0 from fun z => z n0)] at eq
          rw [fup_eq, nl, fuS_e, mt_t, show o - 0 = o by omega] at ss2
          refine ihR r1.2.2.1 l o w2 _ _ _ h2 (by omega) f2 tx2 ss2 fup_eq lo w20 r ?_ kF (fun s0 h3 w3 F' J' N' f3 tx3 ip3 kn w30 ss3 n3 eF eJ eS => kC s0 h3 w3 F' J' N' f3 tx3 (by omega) kn w30 ss3 n3 (fun j hj => ?_) (fun j a b => ?_) eS)
          · rw [eq, fuS_n (show ¬ 2 + l = 15 + l by omega), fuS_n (show ¬ 2 + l = 15 + l by omega), fuS_e, fuS_e]
          · have : ¬ j = 2 + l ∧ ¬ j = 15 + l := by unfold live at hj; omega
            rw [eF j hj, fuS_n this.2, fuS_n this.2, fuS_n this.1]
          · have q := eJ j a b
            rw [q.1, q.2, fup_ne (show ¬ j = l by omega), fup_ne (show ¬ j = l by omega)]
            exact ⟨rfl, rfl⟩
      · -- & and -
        have amp : ∀ jn : Int, (jn = 8 ∨ jn = 2) → ¬ K i = 0 ∧ ¬ K i = 1 → r = (if ¬ r1.1 = 0 then r1 else pr K Sp V L f true r1.2.2.1 o (F (2 + l)) (mt jn 0 (F (15 + l)) r1.2.2.2)) → zCv G (d + 3) mX10_step [vr 10 13] (zup (zup h 20 l jn) 17 10 1) (fun h2 => tX0_readBody_28 G (d + 4) Q t l2 l3 (bi true) (w + 1) h2) := by
          intro jn hj kn eq
          obtain ⟨h1, e1⟩ : ∃ h1, h1 = zup (zup h 20 l jn) 17 10 1 := ⟨_, rfl⟩
          rw [← e1]
          have x : ∀ a, ¬ a = 17 → ¬ a = 20 → h1 a = h a := fun a p q => by rw [e1, zup_ne p, zup_ne q]
          have x17 : ∀ j, ¬ j = 10 → h1 17 j = h 17 j := fun j p => by rw [e1, zup_ns p, zup_ne (by decide)]
          have tx1 : TX h1 K Sp V m i := TX_fr tx (x 13 (by decide) (by decide)) (x 14 (by decide) (by decide)) (x 15 (by decide) (by decide)) (x 16 (by decide) (by decide))
          have ss1 : SS h1 Dl l o 1 F (fup J l jn) N := SS_17 (fun a p q => x a (by omega) (by omega)) (x 18 (by decide) (by decide)) (x 19 (by decide) (by decide)) (x17 6 (by decide)) (x17 7 (by decide)) ⟨by rw [x17 8 (by decide), e17.1], by rw [x17 9 (by decide), e17.2.1], by rw [e1, zup_eq]⟩ (by omega) ss (fun _ _ => rfl) (fun j a b => ⟨by
            rw [e1, zup_ne (by decide), zup_r]
            by_cases c : j = l
            · rw [c, fup_eq, fup_eq]
            · rw [fup_ne c, fup_ne c]
              exact (ss.2.2.2.2 j a b).1, by rw [x 21 (by decide) (by decide)]; exact (ss.2.2.2.2 j a b).2⟩)
          refine sp_stepT tk tx1 kn.1 kn.2 (fun h21 u1 u2 u3 => ?_)
          refine ihP (i + 1) l o (w + 1) F (fup J l jn) N h21 (by omega) (fB_t fb (fB_t ⟨fun a p q => x a (by omega) (by omega), fun j p => by rw [x 13 (by decide) (by decide)]⟩ (fB_13 u1 u2))) u3 (SS_fr (fun a p q => u1 a (by omega)) ss1) (by rw [fup_eq]; exact hj) (by rw [nl]; omega) (by omega) r1 er1 (fun n0 h' ft => ?_) (fun n0 h2 w2 f2 tx2 ip w20 ss2 => ?_)
          · rw [if_pos n0] at eq
            rw [eq] at kF
            exact kF n0 h' ft
          · rw [if_neg (show ¬ ¬ r1.1 = 0 from fun z => z n0)] at eq
            rw [fup_eq, nl, show o - 0 = o by omega] at ss2
            refine ihR r1.2.2.1 l o w2 _ _ _ h2 (by omega) f2 tx2 ss2 fup_eq lo w20 r ?_ kF (fun s0 h3 w3 F' J' N' f3 tx3 ip3 kn w30 ss3 n3 eF eJ eS => kC s0 h3 w3 F' J' N' f3 tx3 (by omega) kn w30 ss3 n3 (fun j hj => ?_) (fun j a b => ?_) eS)
            · rw [eq, fuS_n (show ¬ 2 + l = 15 + l by omega), fuS_e]
            · have : ¬ j = 15 + l := by unfold live at hj; omega
              rw [eF j hj, fuS_n this]
            · have q := eJ j a b
              rw [q.1, q.2, fup_ne (show ¬ j = l by omega), fup_ne (show ¬ j = l by omega)]
              exact ⟨rfl, rfl⟩
        have sgn : (K i = 38 ∨ K i = 45) → tX0_readBody_28 G (d + 4) Q t l2 l3 1 w h := fun q => by
          refine rb_turn (by omega) (fun z => absurd (e17.2.2.symm.trans z) (by decide)) (fun _ => ?_) (Or.inl e17.2.2)
          refine eX0_readSign (bX0_readSign_0 ?_)
          rw [tx.2.2.2.2.1, e17.1]
          refine ⟨ki.1, fun _ => ⟨ki.1, fun e38 => ⟨ki.1, fun z => absurd e38 z, fun _ => ⟨by omega, amp 8 (Or.inl rfl) (by omega) ?_⟩⟩, fun n38 => ⟨ki.1, fun n45 => absurd q (by omega), fun e45 => ⟨ki.1, fun _ => ⟨by omega, amp 2 (Or.inr rfl) (by omega) ?_⟩, fun z => absurd z n38⟩⟩⟩, fun z => absurd z k124⟩
          · rw [mt_8]
            exact er.symm.trans (pr_and r1 (prE.trans er1) e38)
          · rw [mt_2]
            exact er.symm.trans (pr_sub r1 (prE.trans er1) e45)
        by_cases k38 : K i = 38
        · exact sgn (Or.inl k38)
        by_cases k45 : K i = 45
        · exact sgn (Or.inr k45)
        have eq := er.symm.trans (pr_end k124 k38 k45)
        rw [eq] at kC
        exact kC rfl h w F J N fb tx (Int.le_refl _) ⟨k124, k38, k45⟩ hw ss nl (fun _ _ => rfl) (fun _ _ _ => ⟨rfl, rfl⟩) rfl
end RC
