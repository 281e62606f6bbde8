/-! ===== the class reads a whole text ===== -/
def s00 : St := ([], false, [], dM4)
theorem tkS_TK {bs : Int → Int} {n : Int} {K Sp V En : Int → Int} {m : Int} (h : tkS bs n K Sp V En m) : TK K V m := by
  obtain ⟨h1, h2, h3, h4, h5⟩ := h
  refine ⟨h1, fun i i0 i1 => ?_⟩
  have tk := tok_k (h2 i i0 i1).2.1
  refine ⟨?_, fun e => ?_, fun e => ?_, fun lt => (h3 i i0 lt).1, fun ne => ?_⟩
  · unfold isSg at tk
    exact ⟨by omega, by omega⟩
  · unfold isSg at tk
    omega
  · unfold isSg at tk
    omega
  · by_cases w : i = m - 1
    · rw [← w] at h4
      omega
    · omega
theorem tkS_sp {bs : Int → Int} {n : Int} {K Sp Sq V En : Int → Int} {m : Int} (e : ∀ j, 0 ≤ j → j < m → Sp j = Sq j) (h : tkS bs n K Sp V En m) : tkS bs n K Sq V En m := by
  obtain ⟨h1, h2, h3, h4, h5⟩ := h
  refine ⟨h1, fun i i0 i1 => ?_, fun i i0 i1 => ?_, h4, ?_⟩
  · rw [← e i i0 i1]
    exact h2 i i0 i1
  · rw [← e i i0 (by omega), ← e (i + 1) (by omega) i1]
    exact h3 i i0 i1
  · rw [← e 0 (by omega) (by omega)]
    exact h5
def cfD (K V : Int → Int) (k : Int) : Int := if K k = 3 then V k else if K (k + 2) = 4 then V (k + 3) + 1 else V (k + 1) + 1
def dlD (K V : Int → Int) (m : Int) : List Int := 0 :: 65536 :: (List.range (m - 1).toNat).map (fun k => cfD K V (k : Nat))
theorem dl_ok {K V : Int → Int} {m : Int} (h : 1 ≤ m ∧ m ≤ 901) : DL K V m (dlD K V m) := by
  have mem : ∀ i, 0 ≤ i → i + 1 < m → cfD K V i ∈ dlD K V m := fun i a b => by
    refine List.mem_cons_of_mem _ (List.mem_cons_of_mem _ (List.mem_map.mpr ⟨i.toNat, List.mem_range.mpr (by omega), ?_⟩))
    rw [show ((i.toNat : Nat) : Int) = i by omega]
  refine ⟨⟨?_, List.mem_cons_self, List.mem_cons_of_mem _ List.mem_cons_self⟩, fun i a b => ⟨fun e => ?_, fun e e1 => ⟨fun e2 e3 => ?_, fun e2 => ?_⟩⟩⟩
  · unfold dlD
    rw [List.length_cons, List.length_cons, List.length_map, List.length_range]
    omega
  · have := mem i a b
    unfold cfD at this
    rwa [if_pos e] at this
  · have := mem i a b
    unfold cfD at this
    rwa [if_neg (by omega), if_pos e2] at this
  · have := mem i a b
    unfold cfD at this
    rwa [if_neg (by omega), if_neg e2] at this
theorem lns_c {K Sp V : Int → Int} {f : Nat} {i : Int} {s : St} (r : Lr) (e : ln K Sp V i s = r) : lns K Sp V (f + 1) i s = if ¬ r.1 = 0 then lnF r.1 r.2.1 else if K r.2.2.1 = 59 then lns K Sp V f (r.2.2.1 + 1) r.2.2.2 else if ¬ K r.2.2.1 = 0 then lnF 1 (Sp r.2.2.1) else if r.2.2.2.2.1 = false then lnF 7 (Sp r.2.2.1) else r := by
  subst e
  rfl
/-! where a fault is told -/
def gd (x : Rs) : Prop := 0 ≤ x.2.1 ∧ x.2.1 ≤ 900
def gdL (x : Lr) : Prop := 0 ≤ x.2.1 ∧ x.2.1 ≤ 900
theorem gd_i {c : Prop} [Decidable c] {x y : Rs} (hx : gd x) (hy : gd y) : gd (if c then x else y) := by
  by_cases h : c
  · rw [if_pos h]
    exact hx
  · rw [if_neg h]
    exact hy
theorem gdL_i {c : Prop} [Decidable c] {x y : Lr} (hx : gdL x) (hy : gdL y) : gdL (if c then x else y) := by
  by_cases h : c
  · rw [if_pos h]
    exact hx
  · rw [if_neg h]
    exact hy
theorem gd_F {n s : Int} (h : 0 ≤ s ∧ s ≤ 900) : gd (rF n s) := h
theorem gd_O {i : Int} {S : Int → Bool} : gd (rO i S) := ⟨by show (0 : Int) ≤ 0; decide, by show (0 : Int) ≤ 900; decide⟩
theorem gdL_F {n s : Int} (h : 0 ≤ s ∧ s ≤ 900) : gdL (lnF n s) := h
theorem gdL_O {i : Int} {s : St} : gdL (0, 0, i, s) := ⟨by show (0 : Int) ≤ 0; decide, by show (0 : Int) ≤ 900; decide⟩
section GD
variable {K Sp V : Int → Int} {L : List nsT}
theorem rng_gd (sp : ∀ j, 0 ≤ Sp j ∧ Sp j ≤ 900) : ∀ (f : Nat) (i : Int) (S : Int → Bool), gd (rng K Sp V f i S) := by
  intro f
  induction f with
  | zero => exact fun i S => gd_F (by decide)
  | succ f ih =>
    intro i S
    unfold rng
    repeat' (first | exact gd_F (sp _) | exact gd_O | exact ih _ _ | apply gd_i)
theorem pr_gd (sp : ∀ j, 0 ≤ Sp j ∧ Sp j ≤ 900) : ∀ (f : Nat) (b : Bool) (i o : Int) (E M : Int → Bool), gd (pr K Sp V L f b i o E M) := by
  intro f
  induction f with
  | zero => exact fun b i o E M => gd_F (by decide)
  | succ f ih =>
    intro b i o E M
    cases b
    · unfold pr
      refine gd_i (gd_i (gd_F (sp _)) (gd_i (ih _ _ _ _ _) gd_O)) (gd_i (gd_i (gd_F (sp _)) (gd_i (ih _ _ _ _ _) (gd_i (ih _ _ _ _ _) (gd_i gd_O (gd_F (sp _)))))) (gd_i (rng_gd sp _ _ _) (gd_i gd_O (gd_i (gd_F (sp _)) ?_))))
      cases lkp L (V i)
      · exact gd_F (sp _)
      · exact gd_O
    · unfold pr
      exact gd_i (gd_i (ih _ _ _ _ _) (ih _ _ _ _ _)) (gd_i (gd_i (ih _ _ _ _ _) (ih _ _ _ _ _)) (gd_i (gd_i (ih _ _ _ _ _) (ih _ _ _ _ _)) gd_O))
theorem bd2_gd (sp : ∀ j, 0 ≤ Sp j ∧ Sp j ≤ 900) (i : Int) : gd (bd2 K Sp V L i) := by
  have b : gd (bod K Sp V L 902 i 0) := gd_i (pr_gd sp _ _ _ _ _ _) (pr_gd sp _ _ _ _ _ _)
  exact gd_i b (gd_i (gd_F (sp _)) b)
theorem stt_gd (sp : ∀ j, 0 ≤ Sp j ∧ Sp j ≤ 900) (n j : Int) : 0 ≤ (stt K Sp V n j).2 ∧ (stt K Sp V n j).2 ≤ 900 := by
  unfold stt
  by_cases c : ¬ K j = 3
  · rw [if_pos c]
    exact sp j
  · rw [if_neg c]
    by_cases e : n ≤ V j
    · rw [if_pos e]
      exact sp j
    · rw [if_neg e]
      exact ⟨by show (0 : Int) ≤ 0; decide, by show (0 : Int) ≤ 900; decide⟩
theorem ln_gd (sp : ∀ j, 0 ≤ Sp j ∧ Sp j ≤ 900) (i : Int) (s : St) : gdL (ln K Sp V i s) := by
  have b := fun i => bd2_gd (K := K) (V := V) (L := s.1) sp i
  have t := fun n j => stt_gd (K := K) (V := V) sp n j
  unfold ln lnS lnM lnE lnR lnD
  repeat' (first | exact gdL_F (sp _) | exact gdL_O | exact gdL_F (b _) | exact gdL_F (t _ _) | apply gdL_i)
theorem lns_gd (sp : ∀ j, 0 ≤ Sp j ∧ Sp j ≤ 900) : ∀ (f : Nat) (i : Int) (s : St), gdL (lns K Sp V f i s) := by
  intro f
  induction f with
  | zero => exact fun i s => gdL_F (by decide)
  | succ f ih =>
    intro i s
    exact gdL_i (gdL_F (ln_gd sp i s)) (gdL_i (ih _ _) (gdL_i (gdL_F (sp _)) (gdL_i (gdL_F (sp _)) (ln_gd sp i s))))
end GD
section RH
variable {G : zG} {d : Nat} {h0 h : zH} {K Sp V : Int → Int} {m i t : Int} {Dl : List Int} {s : St} {Q : Bool → zH → Prop}
theorem sp_lines (tk : TK K V m) (dl : DL K V m Dl) (b : b0 t h0) : ∀ (f : Nat) (i l4 : Int) (s : St) (h : zH), m ≤ i + f → CLs t Dl K Sp V m h0 h i s → 0 ≤ l4 ∧ l4 ≤ i → ∀ r : Lr, lns K Sp V f i s = r → (¬ r.1 = 0 → ∀ h' : zH, FL t h0 h' r.1 r.2.1 → Q false h') → (r.1 = 0 → wdA (nO r.2.2.2) → ∀ h' : zH, FL t h0 h' 8 (Sp r.2.2.1) → Q false h') → (r.1 = 0 → ∀ h' : zH, fLn t h0 h' → TB h' t r.2.2.2.1 Dl → h' 12 6 = cnt r.2.2.2 → (∀ j : Int, 0 ≤ j → j < (nO r.2.2.2).length → okM h' (h0 81 j) (gM (nO r.2.2.2) j)) → h' 13 8 = 0 → h' 13 9 = -1 → bdy h' → sOK r.2.2.2 → r.2.2.2.2.1 = true → Q true h') → tX8_readBench_32 G (d + 6) Q 1 l4 h := by
  have m9 := tk.1
  intro f
  induction f with
  | zero =>
    intro i l4 s h mf c
    exact absurd c.2.1.2.2.1 (by omega)
  | succ f ih =>
    intro i l4 s h mf c hl r er kF kW kC
    have tx := c.2.1
    have i0 := tx.2.2.1
    have ti := tk.2 i i0.1 i0.2
    obtain ⟨q, eq⟩ : ∃ q, ln K Sp V i s = q := ⟨_, rfl⟩
    rw [lns_c q eq] at er
    -- a fault in the line
    have lF : ¬ q.1 = 0 → ∀ h' : zH, FL t h0 h' q.1 q.2.1 → tX8_readBench_155 G (d + 6) Q l4 (bi false) h' := fun n0 h' fl => by
      rw [if_pos n0] at er
      rw [← er] at kF
      exact bX8_readBench_155 ⟨⟨by decide, by decide⟩, fun z => absurd rfl z, fun _ => kF n0 h' fl⟩
    -- the line is read
    have lC : q.1 = 0 → ∀ h' : zH, CLs t Dl K Sp V m h0 h' q.2.2.1 q.2.2.2 → i < q.2.2.1 → tX8_readBench_155 G (d + 6) Q l4 (bi true) h' := fun e0 h' c' ip => by
      rw [if_neg (show ¬ ¬ _ from fun z => z e0)] at er
      have tx' := c'.2.1
      have i' := tx'.2.2.1
      have t' := tk.2 _ i'.1 i'.2
      refine bX8_readBench_155 ⟨⟨by decide, by decide⟩, fun _ => ?_, fun z => absurd z (by decide)⟩
      rw [tx'.2.2.2.2.1]
      refine ⟨t'.1, fun n59 => bX8_readBench_191 (bX8_readBench_32 ⟨⟨by decide, by decide⟩, fun _ => bX8_readBench_197 ?_, fun z => absurd rfl z⟩), fun e59 => sp_stepC tk b c' (by omega) (by omega) (fun h2 c2 => bX8_readBench_191 ?_)⟩
      rotate_left
      · rw [if_pos e59] at er
        exact ih (q.2.2.1 + 1) (l4 + 1) q.2.2.2 h2 (by omega) c2 (by omega) r er kF kW kC
      rw [if_neg n59] at er
      rw [tx'.2.2.2.2.1, c'.2.2.2.2.1]
      refine ⟨t'.1, fun z0 => ?_, fun n0 => sp_failC c' (fun h2 fl => ?_)⟩
      rotate_left
      · rw [if_pos n0] at er
        rw [← er] at kF
        exact kF (show ¬ (1 : Int) = 0 by decide) h2 fl
      rw [if_neg (show ¬ ¬ _ from fun z => z z0)] at er
      have O3 := c'.2.2.2.2.2.1.2.2.1
      by_cases bf : q.2.2.2.2.1 = false
      · rw [if_pos bf] at er
        rw [cnt_f bf]
        refine ⟨⟨by decide, by decide⟩, fun z => absurd rfl z, fun _ => sp_failC c' (fun h2 fl => ?_)⟩
        rw [← er] at kF
        exact kF (show ¬ (7 : Int) = 0 by decide) h2 fl
      rw [if_neg bf] at er
      have bt := bt_of bf
      rw [cnt_t bt]
      refine ⟨⟨by omega, by omega⟩, fun _ => sp_closeC b c' (fun h2 g1 g2 g3 g4 => ?_), fun z => absurd z (by omega)⟩
      subst er
      have G : ∀ a, 13 ≤ a → a < 157 → h2 a = h' a := fun a x y => g2 a (by omega) (by omega) (fun r => by have := row_rg b r; omega)
      have tx2 : TX h2 K Sp V m q.2.2.1 := TX_fr tx' (G 13 (by decide) (by decide)) (G 14 (by decide) (by decide)) (G 15 (by decide) (by decide)) (G 16 (by decide) (by decide))
      have bd2_ : bdy h2 := bdy_fr (fun j _ _ => by rw [bR_k (h := h') (by rw [G 17 (by decide) (by decide)]) (by rw [G 17 (by decide) (by decide)]) (G 18 (by decide) (by decide)) (G 19 (by decide) (by decide))]) c'.2.2.1
      have f81 := (fLn_s b g1).2.1
      unfold wOK at g4
      rw [f81] at g4
      rcases g4 with ⟨w1, w2⟩ | ⟨w1, w2⟩
      · rw [w1]
        refine ⟨⟨by decide, by decide⟩, fun _ => bX8_readBench_256 (kC e0 h2 g1 (TB_fr (fun a x y => g2 a (by have := b.1; omega) (by have := b.1; omega) (fun r => by have := row_rg b r; have := b.1; omega)) c'.2.2.2.1) g3 w2 tx2.1.2.2.2.1 tx2.1.2.2.2.2 bd2_ c'.2.2.2.2.2.1 bt), fun z => absurd rfl z⟩
      · rw [w1]
        refine ⟨⟨by decide, by decide⟩, fun z => absurd z (by decide), fun _ => sp_failT bd2_ tx2 (fun h3 _ _ ft => ⟨fun _ => kW e0 w2 h3 (FL_t g1 ft), fun z => (by cases z)⟩)⟩
    -- the kinds
    have line : ∀ h2 : zH, CLs t Dl K Sp V m h0 h2 i s → ¬ K i = 6 → tX8_readBench_60 G (d + 6) Q l4 h2 := fun h2 c2 n6 => by
      have tx2 := c2.2.1
      refine bX8_readBench_60 ?_
      rw [tx2.2.2.2.2.1]
      unfold ln at eq
      refine ⟨ti.1, fun o => sp_failC c2 (fun h' fl => lF ?_ h' ?_), fun e5 => ?_, fun e6 => absurd e6 n6, fun e7 => ?_, fun e8 => ?_, fun e9 => ?_⟩
      · rw [if_neg (by omega), if_neg (by omega), if_neg (by omega), if_neg (by omega), if_neg (by omega)] at eq
        rw [← eq]
        exact (show ¬ (1 : Int) = 0 by decide)
      · rw [if_neg (by omega), if_neg (by omega), if_neg (by omega), if_neg (by omega), if_neg (by omega)] at eq
        rw [← eq]
        exact fl
      · rw [if_pos e5] at eq
        subst eq
        exact sp_lineS tk dl b c2 e5 lF lC
      · rw [if_neg (by omega), if_neg (by omega), if_pos e7] at eq
        subst eq
        exact sp_lineE tk dl b c2 e7 lF lC
      · rw [if_neg (by omega), if_neg (by omega), if_neg (by omega), if_pos e8] at eq
        subst eq
        exact sp_lineR tk b c2 e8 lF lC
      · rw [if_neg (by omega), if_neg (by omega), if_neg (by omega), if_neg (by omega), if_pos e9] at eq
        subst eq
        exact sp_lineD tk b c2 e9 lF lC
    refine bX8_readBench_32 ⟨⟨by decide, by decide⟩, fun z => absurd z (by decide), fun _ => ⟨⟨by omega, by omega⟩, fun z => absurd z (by omega), fun _ => ?_⟩⟩
    rw [tx.2.2.2.2.1]
    refine ⟨ti.1, fun n6 => line h c n6, fun e6 => sp_closeC b c (fun h2 g1 g2 g3 g4 => bX8_readBench_60 ?_)⟩
    have e5 : h2 13 5 = K i := by rw [g2 13 (by decide) (by decide) (fun r => by have := row_rg b r; omega), tx.2.2.2.2.1]
    rw [e5]
    refine ⟨ti.1, fun o => absurd o (by omega), fun z => absurd z (by omega), fun _ => ?_, fun z => absurd z (by omega), fun z => absurd z (by omega), fun z => absurd z (by omega)⟩
    unfold ln at eq
    rw [if_neg (by omega), if_pos e6] at eq
    subst eq
    exact sp_lineM tk b c e6 lF lC h2 g1 g2 g3 g4
theorem sp_readBench {n : Int} (hn : 0 ≤ n ∧ n ≤ 900) (hb : ∀ i, 0 ≤ i → i < n → -128 ≤ h 1 i ∧ h 1 i < 128) (b : b0 t h) (bd : bdy h) (hT : ∀ s, 0 ≤ s → s < 12 → h (t + 1) s = t + 3 + 2 * s)
    (kF : ∀ (K Sp V En : Int → Int) (m : Int), tkS (h 1) n K Sp V En m → (∀ j, 0 ≤ Sp j ∧ Sp j ≤ 900) → ¬ (lns K Sp V 902 0 s00).1 = 0 → ∀ h' : zH, FL t h h' (lns K Sp V 902 0 s00).1 (lns K Sp V 902 0 s00).2.1 → Q false h')
    (kW : ∀ (K Sp V En : Int → Int) (m : Int), tkS (h 1) n K Sp V En m → (∀ j, 0 ≤ Sp j ∧ Sp j ≤ 900) → (lns K Sp V 902 0 s00).1 = 0 → wdA (nO (lns K Sp V 902 0 s00).2.2.2) → ∀ h' : zH, FL t h h' 8 (Sp (lns K Sp V 902 0 s00).2.2.1) → Q false h')
    (kC : ∀ (K Sp V En : Int → Int) (m : Int) (Dl : List Int), tkS (h 1) n K Sp V En m → (lns K Sp V 902 0 s00).1 = 0 → ∀ h' : zH, fLn t h h' → TB h' t (lns K Sp V 902 0 s00).2.2.2.1 Dl → h' 12 6 = cnt (lns K Sp V 902 0 s00).2.2.2 → (∀ j : Int, 0 ≤ j → j < (nO (lns K Sp V 902 0 s00).2.2.2).length → okM h' (h 81 j) (gM (nO (lns K Sp V 902 0 s00).2.2.2) j)) → h' 13 8 = 0 → h' 13 9 = -1 → bdy h' → sOK (lns K Sp V 902 0 s00).2.2.2 → (lns K Sp V 902 0 s00).2.2.2.2.1 = true → Q true h') : zCb G (d + 9) mX8_readBench [vr 8 12, vr 15 1, vi n] h Q := by
  have tt := b.1
  refine eX8_readBench (bX8_readBench_0 (sp_split hn hb (fun h2 En g1 ts tx e8 e9 => ?_)))
  have e12 : h2 12 = h 12 := g1 12 (by decide)
  rw [e12, b.2.1]
  obtain ⟨h3, e3⟩ : ∃ h3, h3 = zup (zup (zup h2 t 2 0) 12 6 0) 12 7 0 := ⟨_, rfl⟩
  rw [← e3]
  have w : ∀ a, ¬ a = t → ¬ a = 12 → h3 a = h2 a := fun a p q => by rw [e3, zup_ne q, zup_ne q, zup_ne p]
  have m9 := (tkS_TK ts).1
  obtain ⟨Sp, eSp⟩ : ∃ Sp : Int → Int, Sp = fun j => if 0 ≤ j ∧ j < h2 13 3 then h2 15 j else 0 := ⟨_, rfl⟩
  have sp1 : ∀ j, 0 ≤ j → j < h2 13 3 → h2 15 j = Sp j := fun j p q => by rw [eSp]; exact (if_pos ⟨p, q⟩).symm
  have spR : ∀ j, 0 ≤ Sp j ∧ Sp j ≤ 900 := fun j => by
    rw [eSp]
    show 0 ≤ (if 0 ≤ j ∧ j < h2 13 3 then h2 15 j else 0) ∧ (if 0 ≤ j ∧ j < h2 13 3 then h2 15 j else 0) ≤ 900
    by_cases z : 0 ≤ j ∧ j < h2 13 3
    · rw [if_pos z]
      have := (ts.2.1 j z.1 z.2).1
      omega
    · rw [if_neg z]
      omega
  have ts := tkS_sp sp1 ts
  have tk := tkS_TK ts
  have nr : ∀ a, a < 157 → ¬ rowA h a := fun a p r => by have := row_rg b r; omega
  refine sp_lines (d := d + 2) tk (dl_ok m9) b 902 0 0 s00 h3 (by omega) ⟨⟨fun a p q r u => by rw [w a (by omega) (by omega), g1 a (by omega)], fun j p => by rw [e3, zup_ns (by omega), zup_ns (by omega), zup_ne (by omega), e12]⟩, ?_, bdy_fr (fun j _ _ => by rw [bR_k (h := h) (by rw [w 17 (by omega) (by omega), g1 17 (by decide)]) (by rw [w 17 (by omega) (by omega), g1 17 (by decide)]) (by rw [w 18 (by omega) (by omega), g1 18 (by decide)]) (by rw [w 19 (by omega) (by omega), g1 19 (by decide)])]) bd, ⟨tt, ?_, by show ((0 : Nat) : Int) ≤ 12; decide, fun j a q => by rw [w (t + 1) (by omega) (by omega), g1 (t + 1) (by omega), hT j a q], fun j a q => absurd q (by show ¬ j < ((0 : Nat) : Int); omega)⟩, ?_, ⟨⟨by show ((0 : Nat) : Int) ≤ 12; decide, fun x hx => absurd hx List.not_mem_nil⟩, fun _ => rfl, by show ((0 : Nat) : Int) ≤ 3; decide, fun x hx => absurd hx List.not_mem_nil, fun z => (by cases z)⟩, fun z => (by cases z), Or.inl ⟨by rw [e3, zup_eq], fun j a q => absurd q (by show ¬ j < ((0 : Nat) : Int); omega)⟩⟩ (by decide) _ rfl (kF _ _ _ En _ ts spR) (kW _ _ _ En _ ts spR) (kC _ _ _ En _ _ ts)
  · obtain ⟨x1, x2, x3, x4⟩ := tx
    have w13 := w 13 (by omega) (by decide)
    refine ⟨⟨w 14 (by omega) (by decide), fun j p q => by rw [w 15 (by omega) (by decide), sp1 j p q], w 16 (by omega) (by decide), by rw [w13, e8], by rw [w13, e9]⟩, by rw [w13], by omega, by rw [w13, x1], by rw [w13, x2], by rw [w13, x3, sp1 0 (by omega) (by omega)], by rw [w13, x4]⟩
  · rw [e3, zup_ne (by omega), zup_ne (by omega), zup_eq]
    rfl
  · rw [e3, zup_ns (by decide), zup_eq]
    rfl
end RH
