/-! ===== the class reads each kind of line ===== -/
theorem gM_l {L M : List M4} {i : Int} (h0 : 0 ≤ i) (h : i < L.length) : gM (L ++ M) i = gM L i := by
  unfold gM
  rw [List.getD_eq_getElem?_getD, List.getD_eq_getElem?_getD, List.getElem?_append_left (by omega)]
theorem gM_r {L : List M4} {x : M4} {i : Int} (h : i = L.length) : gM (L ++ [x]) i = x := by
  unfold gM
  rw [h, Int.toNat_natCast, List.getD_eq_getElem?_getD, List.getElem?_append_right (Nat.le_refl _), Nat.sub_self]
  rfl
theorem gS_l {L M : List nsT} {i : Int} (h0 : 0 ≤ i) (h : i < L.length) : gS (L ++ M) i = gS L i := by
  unfold gS
  rw [List.getD_eq_getElem?_getD, List.getD_eq_getElem?_getD, List.getElem?_append_left (by omega)]
theorem gS_r {L : List nsT} {x : nsT} {i : Int} (h : i = L.length) : gS (L ++ [x]) i = x := by
  unfold gS
  rw [h, Int.toNat_natCast, List.getD_eq_getElem?_getD, List.getElem?_append_right (Nat.le_refl _), Nat.sub_self]
  rfl
theorem tab_ln {t s : Int} (ht : t = 82 ∨ t = 249) (hs : 0 ≤ s ∧ s < 12) : zln (t + 3 + 2 * s + 1) = 48 := by
  have e : ∀ k < 12, zln (82 + 3 + 2 * (k : Nat) + 1) = 48 ∧ zln (249 + 3 + 2 * (k : Nat) + 1) = 48 := by decide +kernel
  have := e s.toNat (by omega)
  rw [show ((s.toNat : Nat) : Int) = s by omega] at this
  rcases ht with ht | ht
  · rw [ht]
    exact this.1
  · rw [ht]
    exact this.2
theorem edg_ln {e : Int} (he : 0 ≤ e ∧ e < 24) : zln (109 + 2 * e + 1) = 48 := by
  have q : ∀ k < 24, zln (109 + 2 * (k : Nat) + 1) = 48 := by decide +kernel
  have := q e.toNat (by omega)
  rwa [show ((e.toNat : Nat) : Int) = e by omega] at this
theorem row_dj {m n : Int} (hm : mcell m) (hn : mcell n) (ne : ¬ m = n) {a : Int} (ha : m ≤ a ∧ a ≤ m + 18) : ¬ (n ≤ a ∧ a ≤ n + 18) := by
  unfold mcell at hm hn
  omega
theorem cnt_t {s : St} (b : s.2.1 = true) : cnt s = s.2.2.1.length + 1 := by unfold cnt; rw [if_pos b]
theorem cnt_f {s : St} (b : s.2.1 = false) : cnt s = 0 := by unfold cnt; rw [if_neg (by rw [b]; decide)]
theorem nO_t {s : St} (b : s.2.1 = true) : nO s = s.2.2.1 ++ [s.2.2.2] := by unfold nO; rw [if_pos b]
theorem nO_f {s : St} (b : s.2.1 = false) : nO s = s.2.2.1 := by unfold nO; rw [if_neg (by rw [b]; decide)]
section RE
variable {G : zG} {d : Nat} {h0 h : zH} {K Sp V : Int → Int} {m i t : Int} {Dl : List Int} {s : St} {R : Bool → zH → Prop}
theorem CLs_g {h' : zH} (b : b0 t h0) (c : CLs t Dl K Sp V m h0 h i s) (g : ∀ a, ¬ (4 ≤ a ∧ a ≤ 11) → ¬ a = 13 → ¬ (t ≤ a ∧ a ≤ t + 26 ∧ ¬ a = t + 1) → ¬ (109 ≤ a ∧ a ≤ 156) → h' a = h a) : fLn t h0 h' ∧ h' 12 = h 12 ∧ wOK h' s.2.2.1 := by
  have tt := b.1
  have e12 : h' 12 = h 12 := g 12 (by omega) (by omega) (by omega) (by omega)
  refine ⟨⟨fun a p q r u => by rw [g a (by omega) (by omega) q r, c.1.1 a p q r u], fun j p => by rw [e12, c.1.2 j p]⟩, e12, wOK_fr b c.1 (by have := c.2.2.2.2.2.1.2.2.1; omega) (by rw [e12]) (g 81 (by omega) (by omega) (by omega) (by omega)) (fun a r => ?_) c.2.2.2.2.2.2.2⟩
  have := row_rg b r
  exact g a (by omega) (by omega) (by omega) (by omega)
theorem sp_lineS (tk : TK K V m) (dl : DL K V m Dl) (b : b0 t h0) (c : CLs t Dl K Sp V m h0 h i s) (k5 : K i = 5) (kF : ¬ (lnS K Sp V i s).1 = 0 → ∀ h' : zH, FL t h0 h' (lnS K Sp V i s).1 (lnS K Sp V i s).2.1 → R false h') (kC : (lnS K Sp V i s).1 = 0 → ∀ h' : zH, CLs t Dl K Sp V m h0 h' (lnS K Sp V i s).2.2.1 (lnS K Sp V i s).2.2.2 → i < (lnS K Sp V i s).2.2.1 → R true h') : zCb G (d + 6) mX8_readSet [vr 8 12] h R := by
  have tt := b.1
  have ht := (fLn_s b c.1).2.2
  have tx := c.2.1
  have n12 := c.2.2.2.2.2.1.1.1
  have im := TX_lt tk tx (by omega) (by omega)
  have i0 := tx.2.2.1
  have okk := lnS_ok (Sp := Sp) (s := s) tk ⟨i0.1, im⟩ c.2.2.2.2.2.1
  unfold lnS at kF
  refine eX8_readSet (bX8_readSet_0 ?_)
  rw [ht, c.2.2.2.1.2.1]
  refine ⟨⟨by omega, by omega⟩, fun l12 => ?_, fun g12 => sp_failC c (fun h' fl => ?_)⟩
  rotate_left
  · rw [if_pos (show 12 ≤ (s.1.length : Int) by omega)] at kF
    exact kF (show ¬ (5 : Int) = 0 by decide) h' fl
  rw [if_neg (show ¬ 12 ≤ (s.1.length : Int) by omega)] at kF
  refine sp_stepC tk b c (by omega) (by omega) (fun h3 c3 => ?_)
  have ht3 := (fLn_s b c3.1).2.2
  have tx3 := c3.2.1
  have t3 := tk.2 (i + 1) (by omega) im
  rw [tx3.2.2.2.2.1, tx3.2.2.2.2.2.2, ht3]
  refine ⟨t3.1, fun e2 => ?_, fun n2 => sp_failC c3 (fun h' fl => ?_)⟩
  rotate_left
  · rw [if_pos n2] at kF
    exact kF (show ¬ (1 : Int) = 0 by decide) h' fl
  rw [if_neg (show ¬ ¬ _ from fun z => z e2)] at kF
  have v3 := t3.2.2.1 e2
  refine sp_numberOf c3.2.2.2.1 ⟨by omega, by omega⟩ (fun no => ⟨zR_m1, fun _ => ?_, fun z => absurd rfl z⟩) (fun j j0 j1 so => ⟨⟨by omega, by omega⟩, fun z => absurd z (by omega), fun _ => sp_failC c3 (fun h' fl => ?_)⟩)
  rotate_left
  · rw [if_pos (show (lkp s.1 (V (i + 1))).isSome = true by rw [so]; rfl)] at kF
    exact kF (show ¬ (3 : Int) = 0 by decide) h' fl
  rw [if_neg (show ¬ (lkp s.1 (V (i + 1))).isSome = true by rw [no]; decide)] at kF
  refine sp_stepC tk b c3 (by omega) (by omega) (fun h8 c8 => ?_)
  have ht8 := (fLn_s b c8.1).2.2
  rw [show i + 1 + 1 = i + 2 by omega] at c8
  rw [ht8, c8.2.2.2.1.2.1, c8.2.2.2.1.2.2.2.1 _ (by omega) l12]
  refine ⟨by omega, sp_bodyC tk dl b c8 ⟨by omega, tab_ln tt (by omega)⟩ (fun n0 h' fl => ⟨fun z => (by cases z), fun _ => ?_⟩) (fun e0 h1 h14 c1 g1 bd tx14 ip ls l48 => ⟨fun _ => ?_, fun z => (by cases z)⟩)⟩
  · rw [if_pos n0] at kF
    exact kF n0 h' fl
  have ht14 : h14 12 5 = t := by rw [g1 12 (by omega) (by omega) (by omega), (fLn_s b c1.1).2.2]
  have eU : h14 t 2 = s.1.length := by rw [g1 t (by omega) (by omega) (by omega), c1.2.2.2.1.2.1]
  have e12 : ∀ x y z : Int, (zup h14 (t + 2) x y) 12 z = h14 12 z := fun x y z => by rw [zup_ne (by omega)]
  rw [ht14, eU, e12, ht14, show (zup h14 (t + 2) (s.1.length : Int) (V (i + 1))) t 2 = s.1.length by rw [zup_ne (by omega), eU]]
  refine ⟨by omega, ?_⟩
  obtain ⟨h16, e16⟩ : ∃ h16, h16 = zup (zup h14 (t + 2) s.1.length (V (i + 1))) t 2 (s.1.length + 1) := ⟨_, rfl⟩
  rw [← e16]
  have w : ∀ a, ¬ a = t → ¬ a = t + 2 → h16 a = h14 a := fun a p q => by rw [e16, zup_ne p, zup_ne q]
  have L0 : (bd2 K Sp V s.1 (i + 2)).1 = 0 → (lnS K Sp V i s).1 = 0 := fun z => by
    unfold lnS
    rw [if_neg (show ¬ 12 ≤ (s.1.length : Int) by omega), if_neg (show ¬ ¬ _ from fun z => z e2), if_neg (show ¬ (lkp s.1 (V (i + 1))).isSome = true by rw [no]; decide), if_neg (show ¬ ¬ _ from fun y => y z)]
  obtain ⟨o1, -, -, -, o5⟩ := okk (L0 e0)
  have kC := kC (L0 e0) h16
  rw [o5] at kC o1
  have cg := CLs_g b c1 (h' := h16) (fun a p q r u => by rw [w a (by omega) (by omega), g1 a (by omega) (by omega) q])
  have b16 : bdy h16 := bdy_fr (fun j _ _ => by rw [bR_k (h := h14) (by rw [w 17 (by omega) (by omega)]) (by rw [w 17 (by omega) (by omega)]) (w 18 (by omega) (by omega)) (w 19 (by omega) (by omega))]) bd
  obtain ⟨u1, u2, u3, u4, u5⟩ := c1.2.2.2.1
  refine kC ⟨cg.1, TX_fr tx14 (w 13 (by omega) (by omega)) (w 14 (by omega) (by omega)) (w 15 (by omega) (by omega)) (w 16 (by omega) (by omega)), b16, ⟨tt, ?_, ?_, fun j a e => ?_, fun j a e => ?_⟩, by rw [cg.2.1, c1.2.2.2.2.1]; rfl, o1, fun q => DR_fr (fun a p r => by rw [w a (by omega) (by omega), g1 a (by omega) (by omega) (by omega)]) (fun a p r => by rw [w a (by omega) (by omega), g1 a (by omega) (by omega) (by omega)]) (c1.2.2.2.2.2.2.1 q), cg.2.2⟩ (by show i < (bd2 K Sp V s.1 (i + 2)).2.2.1; omega)
  · show h16 t 2 = ((s.1 ++ [_]).length : Nat)
    rw [len_1, e16, zup_eq]
    omega
  · show (((s.1 ++ [_]).length : Nat) : Int) ≤ 12
    rw [len_1]
    omega
  · rw [w (t + 1) (by omega) (by omega), g1 (t + 1) (by omega) (by omega) (by omega)]
    exact u4 j a e
  · have e : j < ((s.1 ++ [(V (i + 1), (bd2 K Sp V s.1 (i + 2)).2.2.2)]).length : Nat) := e
    rw [len_1] at e
    show h16 (t + 2) j = (gS (s.1 ++ [_]) j).1 ∧ zRL (gS (s.1 ++ [_]) j).1 ∧ lsP h16 (t + 3 + 2 * j) (gS (s.1 ++ [_]) j).2 Dl ∧ h16 (t + 3 + 2 * j) 1 ≤ 48
    by_cases z : j = s.1.length
    · rw [gS_r z, z, e16, zup_ne (show ¬ t + 2 = t by omega), zup_eq, ← e16]
      exact ⟨rfl, ⟨by show -9223372036854775808 ≤ V (i + 1); omega, by show V (i + 1) < 9223372036854775808; omega⟩, lsP_fr (w _ (by omega) (by omega)) (w _ (by omega) (by omega)) ls, by rw [w _ (by omega) (by omega)]; exact l48⟩
    · obtain ⟨p1, p2, p3, p4⟩ := u5 j a (by omega)
      rw [gS_l a (by omega)]
      refine ⟨by rw [e16, zup_ne (show ¬ t + 2 = t by omega), zup_ns z, g1 (t + 2) (by omega) (by omega) (by omega), p1], p2, lsP_fr (by rw [w _ (by omega) (by omega), g1 _ (by omega) (by omega) (by omega)]) (by rw [w _ (by omega) (by omega), g1 _ (by omega) (by omega) (by omega)]) p3, by rw [w _ (by omega) (by omega), g1 _ (by omega) (by omega) (by omega)]; exact p4⟩
end RE
