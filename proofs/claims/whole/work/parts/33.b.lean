/-! ===== the class takes the draft's blocks ===== -/
theorem tb_or1 {x k i : Int} (k0 : 0 ≤ k ∧ k < 64) (i0 : 0 ≤ i ∧ i < 64) : tb (zlor x (zlshl 1 k)) i = (decide (i = k) || tb x i) := by
  rw [tb_lor, tb_lshl k0.1 k0.2 i0.1 i0.2]
  by_cases e : i = k
  · rw [e, show k - k = 0 by omega, tb_1 (by omega)]
    simp
  · by_cases g : k ≤ i
    · rw [tb_1 (by omega), decide_eq_false (show ¬ i - k = 0 by omega), decide_eq_false e]
      simp
    · rw [decide_eq_false g, decide_eq_false e]
      simp
theorem hEH_set {h : zH} {m e N e' i : Int} (he : 0 ≤ e ∧ 0 ≤ e') (hN : 0 ≤ N ∧ N < 128) (hi : 0 ≤ i ∧ i < 128) : hEH (zup h (m + 3) (e * 2 + N / 64) (zlor (h (m + 3) (e * 2 + N / 64)) (zlshl 1 (N % 64)))) m e' i = (decide (e' = e ∧ i = N) || hEH h m e' i) := by
  unfold hEH
  rw [zup_r]
  by_cases c : i < 64
  · rw [if_pos c, if_pos c]
    by_cases w : e' * 2 = e * 2 + N / 64
    · rw [w, fup_eq, tb_or1 (by omega) (by omega)]
      by_cases y : i = N
      · rw [decide_eq_true (show i = N % 64 by omega), decide_eq_true (show e' = e ∧ i = N by omega)]
      · rw [decide_eq_false (show ¬ i = N % 64 by omega), decide_eq_false (fun z => y z.2)]
    · rw [fup_ne w, decide_eq_false (by omega)]
      rfl
  · rw [if_neg c, if_neg c]
    by_cases w : e' * 2 + 1 = e * 2 + N / 64
    · rw [w, fup_eq, tb_or1 (by omega) (by omega)]
      by_cases y : i = N
      · rw [decide_eq_true (show i - 64 = N % 64 by omega), decide_eq_true (show e' = e ∧ i = N by omega)]
      · rw [decide_eq_false (show ¬ i - 64 = N % 64 by omega), decide_eq_false (fun z => y z.2)]
    · rw [fup_ne w, decide_eq_false (by omega)]
      rfl
/-- so far: the blocks of the draft before b -/
def tkI (h : zH) (m E b : Int) (h1 : zH) : Prop := (∀ a, ¬ a = m → ¬ a = m + 3 → ¬ a = m + 6 → h1 a = h a) ∧ (∀ j, ¬ j = 11 → h1 m j = h m j) ∧ (0 ≤ h1 m 11 ∧ h1 m 11 ≤ 128 ∧ h1 m 11 ≤ b ∧ (0 < b → 1 ≤ h1 m 11)) ∧ (∀ i j, 0 ≤ i → i < j → j < h1 m 11 → h1 (m + 6) i < h1 (m + 6) j) ∧ (∀ i, 0 ≤ i → i < h1 m 11 → ∃ c, (0 ≤ c ∧ c < b) ∧ h1 (m + 6) i = h 10 c ∧ bgn h E c) ∧ (∀ c, 0 ≤ c → c < b → bgn h E c → ∃ i, (0 ≤ i ∧ i < h1 m 11) ∧ h1 (m + 6) i = h 10 c) ∧ (∀ j, 0 ≤ j → j < 320 → zRL (h1 (m + 3) j))
def tkM (m E : Int) (X : Int → Int → Bool) (h1 : zH) : Prop := ∀ e, 0 ≤ e → e < E → ∀ i, 0 ≤ i → i < 128 → hEH h1 m e i = (decide (i < h1 m 11) && X e (h1 (m + 6) i))
theorem mk_e {h h1 : zH} (e7 : h1 7 = h 7) : mk h1 = mk h := by
  funext e b
  unfold mk
  rw [e7]
theorem bgn_e {h h1 : zH} {E b : Int} (e7 : h1 7 = h 7) : bgn h1 E b ↔ bgn h E b := by
  unfold bgn
  rw [mk_e e7]
section SU
variable {G : zG} {d : Nat} {h : zH} {m n en E F : Int} {fr to ff ft : Int → Int} {X : Int → Int → Bool}
theorem sp_takeBlocks {K : Bool → zH → Prop} (mc : mcell m) (k : dfC h n en E fr to X F ff ft) (E0 : 0 ≤ E ∧ E ≤ 160) (hE : h m 9 = E) (k1 : ∀ h' : zH, tkI h m E (h 4 11) h' → tkM m E X h' → K true h') (k2 : ∀ h' : zH, (∀ a, ¬ a = m → ¬ a = m + 3 → ¬ a = m + 6 → h' a = h a) → chF E X → K false h') : zCb G (d + 2) mX4_takeBlocks [vr 4 m, vr 2 4] h K := by
  have rg := mcell_rg mc
  unfold mrg at rg
  have ln := mcell_ln mc
  have hs := k.2.1
  have n256 := hs.1
  have bc := fun b hb => bgn_chp k (b := b) hb
  have hX := fun e e0 e1 b b0 b1 => (k.2.2.1 e e0 e1).2.2 b b0 b1
  -- the inner loop
  have inner : ∀ (f : Nat) (b e : Int) (h1 h2 : zH), 0 ≤ b ∧ b < h 4 11 → 0 ≤ e ∧ e ≤ E → E - e ≤ f → tkI h m E b h1 → tkM m E X h1 → h1 m 11 < 128 → bgn h E b → (∀ a, ¬ a = m + 3 → ¬ a = m + 6 → h2 a = h1 a) → h2 (m + 6) = fup (h1 (m + 6)) (h1 m 11) (h 10 b) → (∀ j, 0 ≤ j → j < 320 → zRL (h2 (m + 3) j)) → (∀ e', 0 ≤ e' → e' < E → ∀ i, 0 ≤ i → i < 128 → hEH h2 m e' i = if i = h1 m 11 then (decide (e' < e) && mk h e' b) else hEH h1 m e' i) → (∀ h3 : zH, tkI h m E (b + 1) h3 → tkM m E X h3 → tX4_takeBlocks_15 G (d + 1) K m (b + 1) h3) → tX4_takeBlocks_64 G (d + 1) K m b e h2 := by
    intro f
    have fin : ∀ (b e : Int) (h1 h2 : zH), 0 ≤ b ∧ b < h 4 11 → E ≤ e → tkI h m E b h1 → tkM m E X h1 → h1 m 11 < 128 → bgn h E b → (∀ a, ¬ a = m + 3 → ¬ a = m + 6 → h2 a = h1 a) → h2 (m + 6) = fup (h1 (m + 6)) (h1 m 11) (h 10 b) → (∀ j, 0 ≤ j → j < 320 → zRL (h2 (m + 3) j)) → (∀ e', 0 ≤ e' → e' < E → ∀ i, 0 ≤ i → i < 128 → hEH h2 m e' i = if i = h1 m 11 then (decide (e' < e) && mk h e' b) else hEH h1 m e' i) → tkI h m E (b + 1) (zup h2 m 11 (h2 m 11 + 1)) ∧ tkM m E X (zup h2 m 11 (h2 m 11 + 1)) := by
      intro b e h1 h2 b0 e0 t1 tm n128 hb g1 g2 g3 g4
      obtain ⟨t1, t2, t3, t4, t5, t6, t7⟩ := t1
      have e11 : h2 m 11 = h1 m 11 := by rw [g1 m (by omega) (by omega)]
      rw [e11]
      have q11 : (zup h2 m 11 (h1 m 11 + 1)) m 11 = h1 m 11 + 1 := zup_eq
      have q6 : (zup h2 m 11 (h1 m 11 + 1)) (m + 6) = fup (h1 (m + 6)) (h1 m 11) (h 10 b) := by rw [zup_ne (by omega), g2]
      have q3 : (zup h2 m 11 (h1 m 11 + 1)) (m + 3) = h2 (m + 3) := by rw [zup_ne (by omega)]
      have lt : ∀ i, 0 ≤ i → i < h1 m 11 → h1 (m + 6) i < h 10 b := fun i i0 i1 => by
        obtain ⟨c, hc, ec, -⟩ := t5 i i0 i1
        rw [ec]
        exact hs.2.2.2 c b hc.1 hc.2 b0.2
      refine ⟨⟨fun a p q r => ?_, fun j p => ?_, by rw [q11]; exact ⟨by omega, by omega, by omega, fun _ => by omega⟩, ?_, ?_, ?_, by rw [q3]; exact g3⟩, ?_⟩
      · rw [zup_ne p, g1 a q r, t1 a p q r]
      · rw [zup_ns p, g1 m (by omega) (by omega), t2 j p]
      · rw [q11, q6]
        intro i j i0 i1 i2
        rw [fup_ne (show ¬ i = h1 m 11 by omega)]
        by_cases z : j = h1 m 11
        · rw [z, fup_eq]
          exact lt i i0 (by omega)
        · rw [fup_ne z]
          exact t4 i j i0 i1 (by omega)
      · rw [q11, q6]
        intro i i0 i1
        by_cases z : i = h1 m 11
        · rw [z, fup_eq]
          exact ⟨b, by omega, rfl, hb⟩
        · rw [fup_ne z]
          obtain ⟨c, hc, ec⟩ := t5 i i0 (by omega)
          exact ⟨c, by omega, ec⟩
      · rw [q11, q6]
        intro c c0 c1 hc
        by_cases z : c = b
        · rw [z]
          exact ⟨h1 m 11, by omega, fup_eq⟩
        · obtain ⟨i, hi, ei⟩ := t6 c c0 (by omega) hc
          exact ⟨i, by omega, by rw [fup_ne (by omega)]; exact ei⟩
      · intro e' a0 a1 i i0 i1
        have : hEH (zup h2 m 11 (h1 m 11 + 1)) m e' i = hEH h2 m e' i := by
          unfold hEH
          rw [q3]
        rw [this, g4 e' a0 a1 i i0 i1, q11, q6]
        by_cases z : i = h1 m 11
        · rw [if_pos z, z, fup_eq, decide_eq_true (show e' < e by omega), decide_eq_true (show h1 m 11 < h1 m 11 + 1 by omega), hX e' a0 a1 b b0.1 b0.2]
        · rw [if_neg z, fup_ne z, tm e' a0 a1 i i0 i1]
          by_cases y : i < h1 m 11
          · rw [decide_eq_true y, decide_eq_true (show i < h1 m 11 + 1 by omega)]
          · rw [decide_eq_false y, decide_eq_false (show ¬ i < h1 m 11 + 1 by omega)]
    induction f with
    | zero =>
      intro b e h1 h2 b0 e0 hf t1 tm n128 hb g1 g2 g3 g4 nx
      have f1 := fin b e h1 h2 b0 (by omega) t1 tm n128 hb g1 g2 g3 g4
      have e9 : h2 m 9 = E := by rw [g1 m (by omega) (by omega), t1.2.1 9 (by decide), hE]
      refine bX4_takeBlocks_64 ?_
      rw [e9]
      exact ⟨⟨by omega, by omega⟩, ⟨by omega, by omega⟩, fun _ => nx _ f1.1 f1.2, fun z => absurd hf (by omega)⟩
    | succ f ih =>
      intro b e h1 h2 b0 e0 hf t1 tm n128 hb g1 g2 g3 g4 nx
      have e9 : h2 m 9 = E := by rw [g1 m (by omega) (by omega), t1.2.1 9 (by decide), hE]
      refine bX4_takeBlocks_64 ?_
      rw [e9]
      refine ⟨⟨by omega, by omega⟩, ⟨by omega, by omega⟩, fun z => ?_, fun z => ?_⟩
      · have f1 := fin b e h1 h2 b0 z t1 tm n128 hb g1 g2 g3 g4
        exact nx _ f1.1 f1.2
      have e7 : h2 7 = h 7 := by rw [g1 7 (by omega) (by omega), t1.1 7 (by omega) (by omega) (by omega)]
      have n0 := t1.2.2.1
      have e11 : h2 m 11 = h1 m 11 := by rw [g1 m (by omega) (by omega)]
      refine sp_isMarked (by omega) (by omega) ⟨fun q => ?_, fun q => ?_⟩
      · rw [mk_e e7] at q
        refine ih b (e + 1) h1 h2 b0 (by omega) (by omega) t1 tm n128 hb g1 g2 g3 (fun e' a0 a1 i i0 i1 => ?_) nx
        rw [g4 e' a0 a1 i i0 i1]
        by_cases y : i = h1 m 11
        · rw [if_pos y, if_pos y]
          by_cases w : e' = e
          · rw [w, q]
            simp
          · by_cases w2 : e' < e
            · rw [decide_eq_true w2, decide_eq_true (show e' < e + 1 by omega)]
            · rw [decide_eq_false w2, decide_eq_false (show ¬ e' < e + 1 by omega)]
        · rw [if_neg y, if_neg y]
      · rw [mk_e e7] at q
        rw [e11]
        refine ⟨by omega, by omega, by omega, by omega, ih b (e + 1) h1 _ b0 (by omega) (by omega) t1 tm n128 hb (fun a p q => by rw [zup_ne p, g1 a p q]) (by rw [zup_ne (by omega), g2]) (fun j j0 j1 => ?_) (fun e' a0 a1 i i0 i1 => ?_) nx⟩
        · rw [zup_r]
          by_cases w : j = e * 2 + h1 m 11 / 64
          · rw [w, fup_eq]
            exact zlor_R _ _
          · rw [fup_ne w]
            exact g3 j j0 j1
        · rw [hEH_set (by omega) (by omega) (by omega), g4 e' a0 a1 i i0 i1]
          by_cases y : i = h1 m 11
          · rw [if_pos y, if_pos y]
            by_cases w : e' = e
            · rw [w, q, decide_eq_true (show e = e ∧ i = h1 m 11 from ⟨rfl, y⟩), decide_eq_true (show e < e + 1 by omega)]
              rfl
            · rw [decide_eq_false (show ¬ (e' = e ∧ i = h1 m 11) from fun z => w z.1)]
              by_cases w2 : e' < e
              · rw [decide_eq_true w2, decide_eq_true (show e' < e + 1 by omega)]
                rfl
              · rw [decide_eq_false w2, decide_eq_false (show ¬ e' < e + 1 by omega)]
                rfl
          · rw [if_neg y, if_neg y, decide_eq_false (fun z => y z.2)]
            rfl
  have outer : ∀ (f : Nat) (b : Int) (h1 : zH), 0 ≤ b ∧ b ≤ h 4 11 → h 4 11 - b ≤ f → tkI h m E b h1 → tkM m E X h1 → tX4_takeBlocks_15 G (d + 1) K m b h1 := by
    intro f
    induction f with
    | zero =>
      intro b h1 b0 hf t1 tm
      refine bX4_takeBlocks_15 ?_
      rw [t1.1 4 (by omega) (by omega) (by omega)]
      have e : b = h 4 11 := by omega
      exact ⟨⟨by omega, by omega⟩, ⟨by omega, by omega⟩, fun _ => k1 h1 (e ▸ t1) tm, fun z => absurd hf (by omega)⟩
    | succ f ih =>
      intro b h1 b0 hf t1 tm
      refine bX4_takeBlocks_15 ?_
      rw [t1.1 4 (by omega) (by omega) (by omega)]
      refine ⟨⟨by omega, by omega⟩, ⟨by omega, by omega⟩, fun z => ?_, fun z => ?_⟩
      · have e : b = h 4 11 := by omega
        exact k1 h1 (e ▸ t1) tm
      have e7 : h1 7 = h 7 := by rw [t1.1 7 (by omega) (by omega) (by omega)]
      have n0 := t1.2.2.1
      refine sp_beginsBlock (E := E) (by rw [t1.2.1 9 (by decide), hE]) E0 (by omega) (fun q => ?_) (fun q => ?_)
      · rw [bgn_e e7] at q
        refine ⟨fun _ => ⟨⟨by omega, by omega⟩, fun w => ⟨by omega, by omega, ?_⟩, fun w => k2 h1 t1.1 ?_⟩, fun z => (by cases z)⟩
        · rw [t1.1 10 (by omega) (by omega) (by omega)]
          refine inner E.toNat b 0 h1 _ ⟨b0.1, by omega⟩ (by omega) (by omega) t1 tm w q (fun a p1 p2 => zup_ne p2) (by rw [zup_r]) (fun j j0 j1 => by rw [zup_ne (by omega)]; exact t1.2.2.2.2.2.2 j j0 j1) (fun e' a0 a1 i i0 i1 => ?_) (fun h3 t3 tm3 => ih (b + 1) h3 (by omega) (by omega) t3 tm3)
          have : hEH (zup h1 (m + 6) (h1 m 11) (h 10 b)) m e' i = hEH h1 m e' i := by
            unfold hEH
            rw [zup_ne (by omega)]
          rw [this]
          by_cases y : i = h1 m 11
          · rw [if_pos y, tm e' a0 a1 i i0 i1, decide_eq_false (show ¬ i < h1 m 11 by omega), decide_eq_false (show ¬ e' < 0 by omega)]
            rfl
          · rw [if_neg y]
        · have n128 : h1 m 11 = 128 := by omega
          have lt : ∀ i, 0 ≤ i → i < h1 m 11 → h1 (m + 6) i < h 10 b := fun i i0 i1 => by
            obtain ⟨c, hc, ec, -⟩ := t1.2.2.2.2.1 i i0 i1
            rw [ec]
            exact hs.2.2.2 c b hc.1 hc.2 (by omega)
          refine ⟨fup (h1 (m + 6)) 128 (h 10 b), fun i i0 i1 => ?_, fun i j i0 i1 i2 => ?_⟩
          · by_cases y : i = 128
            · rw [y, fup_eq]
              exact (bc b ⟨b0.1, by omega⟩).mp q
            · rw [fup_ne y]
              obtain ⟨c, hc, ec, hcb⟩ := t1.2.2.2.2.1 i i0 (by omega)
              rw [ec]
              exact (bc c ⟨hc.1, by omega⟩).mp hcb
          · rw [fup_ne (show ¬ i = 128 by omega)]
            by_cases y : j = 128
            · rw [y, fup_eq]
              have := lt i i0 (by omega)
              omega
            · rw [fup_ne y]
              have := t1.2.2.2.1 i j i0 i1 (by omega)
              omega
      · rw [bgn_e e7] at q
        refine ⟨fun z => (by cases z), fun _ => ih (b + 1) h1 (by omega) (by omega) ?_ tm⟩
        obtain ⟨t1, t2, t3, t4, t5, t6, t7⟩ := t1
        refine ⟨t1, t2, ?_, t4, fun i i0 i1 => ?_, fun c c0 c1 hc => ?_, t7⟩
        · by_cases y : b = 0
          · exact absurd (Or.inl y) q
          · exact ⟨t3.1, t3.2.1, by omega, fun _ => t3.2.2.2 (by omega)⟩
        · obtain ⟨c, hc, ec⟩ := t5 i i0 i1
          exact ⟨c, by omega, ec⟩
        · by_cases y : c = b
          · rw [y] at hc
            exact absurd hc q
          · exact t6 c c0 (by omega) hc
  refine eX4_takeBlocks (bX4_takeBlocks_0 (sp_fillL (fun h2 f1 f2 => outer (h 4 11).toNat 0 _ (by omega) (by omega) ⟨fun a p q r => by rw [zup_ne p, f1 a q], fun j p => by rw [zup_ns p, f1 m (by omega)], by rw [zup_eq]; exact ⟨by omega, by omega, by omega, fun z => absurd z (by omega)⟩, ?_, ?_, fun c c0 c1 => absurd c1 (by omega), fun j j0 j1 => ?_⟩ (fun e e0 e1 i i0 i1 => ?_))))
  · rw [zup_eq]
    exact fun i j i0 i1 i2 => absurd i2 (by omega)
  · rw [zup_eq]
    exact fun i i0 i1 => absurd i1 (by omega)
  · rw [zup_ne (by omega), f2 j j0 (by omega)]
    exact zRL_0
  · rw [zup_eq, decide_eq_false (by omega)]
    unfold hEH
    rw [zup_ne (by omega), f2 _ (by omega) (by omega), f2 _ (by omega) (by omega)]
    by_cases c : i < 64
    · rw [if_pos c, tb_0]
      rfl
    · rw [if_neg c, tb_0]
      rfl
end SU
