/-! ===== case: at ===== -/
theorem zcmp_sg {x y : Int} (hx : zRL x) (hy : zRL y) : (0 < zcmp x y ↔ y < x) ∧ (zcmp x y < 0 ↔ x < y) ∧ (0 ≤ zcmp x y ↔ y ≤ x) := by
  obtain ⟨a, b, c⟩ := zcmp_lt hx hy
  have e := zcmp_3 (x := x) (y := y)
  rcases e with e | e | e
  · have := a.mp e
    omega
  · have := b.mp e
    omega
  · have := c.mp e
    omega
/-- in which block the word of that number goes on -/
def isKb (f : Int → Int) (nb l b : Int) : Prop := (0 ≤ b ∧ b < nb) ∧ zsum f b.toNat ≤ l ∧ l < zsum f (b.toNat + 1)
theorem isKb_u {f : Int → Int} {nb l b c : Int} (hf : ∀ i, 0 ≤ i → i < nb → 0 ≤ f i) (h : isKb f nb l b) (h2 : isKb f nb l c) : b = c := by
  obtain ⟨a1, a2, a3⟩ := h
  obtain ⟨b1, b2, b3⟩ := h2
  rcases Int.lt_trichotomy b c with z | z | z
  · have := zsum_mono (f := f) (n := b.toNat + 1) (m := c.toNat) (by omega) (fun i x y => hf i x (by omega))
    omega
  · exact z
  · have := zsum_mono (f := f) (n := c.toNat + 1) (m := b.toNat) (by omega) (fun i x y => hf i x (by omega))
    omega
def fA (D : zH) (T : Int → Int) (x : Int) (r : Nat) (s b : Int) : Int := wid D b * wy D T x r (T (s * 128 + b))
/-- the letters of the word of number k0: j of them gone through -/
def isAt (D : zH) (T : Int → Int) (x : Int) (L : Nat) (k0 : Int) : Nat → Int → Int → Int → Prop
  | 0, s, l, t => s = 0 ∧ l = k0 ∧ t = -1
  | j + 1, s, l, t => ∃ s1 l1 t1 b, isAt D T x L k0 j s1 l1 t1 ∧ isKb (fA D T x (L - 1 - j) s1) (D 0 4) l1 b ∧ s = T (s1 * 128 + b) ∧ l = (l1 - zsum (fA D T x (L - 1 - j) s1) b.toNat) % wy D T x (L - 1 - j) s ∧ t = D 7 b + (l1 - zsum (fA D T x (L - 1 - j) s1) b.toNat) / wy D T x (L - 1 - j) s
section AT
variable {D : zH} {T : Int → Int} {x n k0 : Int} {L : Nat}
theorem fA_nn (hD : mOK D) (hT : ∀ s b, 0 ≤ s → s < n → 0 ≤ b → b < D 0 4 → 0 ≤ T (s * 128 + b) ∧ T (s * 128 + b) < n) {r : Nat} (hr : r ≤ 2) {s b : Int} (s0 : 0 ≤ s) (s1 : s < n) (b0 : 0 ≤ b) (b1 : b < D 0 4) : (0 ≤ fA D T x r s b ∧ fA D T x r s b ≤ 281474976710656) ∧ (0 ≤ wy D T x r (T (s * 128 + b)) ∧ wy D T x r (T (s * 128 + b)) ≤ 4294967296) := by
  have t := hT s b s0 s1 b0 b1
  have a := wy_rg hD hT (x := x) r _ t.1 t.2
  have e : ∀ k : Nat, k ≤ 2 → (65536 : Int) ^ k ≤ 4294967296 := by decide
  have e2 := e r hr
  have w := wid_ok hD b0 b1
  have u : wy D T x r (T (s * 128 + b)) ≤ 4294967296 := by omega
  refine ⟨⟨Int.mul_nonneg (by omega) a.1, ?_⟩, a.1, u⟩
  unfold fA
  refine Int.le_trans (Int.mul_le_mul_of_nonneg_left u (by omega)) ?_
  exact Int.mul_le_mul_of_nonneg_right w.2 (by decide)
theorem isAt_u (hD : mOK D) (hT : ∀ s b, 0 ≤ s → s < n → 0 ≤ b → b < D 0 4 → 0 ≤ T (s * 128 + b) ∧ T (s * 128 + b) < n) (hL : L ≤ 3) (hn : 1 ≤ n) : ∀ {j : Nat} {s l t s' l' t' : Int}, j ≤ L → isAt D T x L k0 j s l t → isAt D T x L k0 j s' l' t' → (0 ≤ s ∧ s < n) ∧ s = s' ∧ l = l' ∧ t = t'
  | 0, s, l, t, s', l', t', _, h, h' => by
    obtain ⟨a, b, c⟩ := h
    obtain ⟨a', b', c'⟩ := h'
    refine ⟨by omega, by omega, by omega, by omega⟩
  | j + 1, s, l, t, s', l', t', hj, h, h' => by
    obtain ⟨s1, l1, t1, b, p, q, e1, e2, e3⟩ := h
    obtain ⟨s2, l2, t2, b2, p', q', e1', e2', e3'⟩ := h'
    obtain ⟨sr, y1, y2, y3⟩ := isAt_u hD hT hL hn (by omega) p p'
    subst y1 y2 y3
    have := isKb_u (fun i i0 i1 => (fA_nn (x := x) hD hT (r := L - 1 - j) (by omega) sr.1 sr.2 i0 i1).1.1) q q'
    subst this
    have t := hT s1 b sr.1 sr.2 q.1.1 q.1.2
    refine ⟨by rw [e1]; exact t, by rw [e1, e1'], ?_, ?_⟩
    · rw [e2, e2', e1, e1']
    · rw [e3, e3', e1, e1']
/-- what is left is less than there are words; a step of the way -/
theorem at_step (hD : mOK D) (hT : ∀ s b, 0 ≤ s → s < n → 0 ≤ b → b < D 0 4 → 0 ≤ T (s * 128 + b) ∧ T (s * 128 + b) < n) {r : Nat} (hr : r ≤ 2) {s b l : Int} (s0 : 0 ≤ s) (s1 : s < n) (b0 : 0 ≤ b) (b1 : b < D 0 4) (h0 : 0 ≤ l) (h1 : l < fA D T x r s b) : (0 < wy D T x r (T (s * 128 + b)) ∧ wy D T x r (T (s * 128 + b)) ≤ 4294967296) ∧ (0 ≤ l / wy D T x r (T (s * 128 + b)) ∧ l / wy D T x r (T (s * 128 + b)) < wid D b) ∧ (0 ≤ l % wy D T x r (T (s * 128 + b)) ∧ l % wy D T x r (T (s * 128 + b)) < wy D T x r (T (s * 128 + b))) := by
  obtain ⟨a1, a2⟩ := fA_nn (x := x) hD hT hr s0 s1 b0 b1
  have pos : 0 < wy D T x r (T (s * 128 + b)) := by
    rcases Int.lt_or_le 0 (wy D T x r (T (s * 128 + b))) with z | z
    · exact z
    · have e : wy D T x r (T (s * 128 + b)) = 0 := by omega
      unfold fA at h1
      rw [e, Int.mul_zero] at h1
      omega
  refine ⟨⟨pos, a2.2⟩, ⟨Int.ediv_nonneg h0 (by omega), ?_⟩, Int.emod_nonneg _ (by omega), Int.emod_lt_of_pos _ pos⟩
  exact (Int.ediv_lt_iff_lt_mul pos).mpr h1
end AT
section CX
variable {G : zG} {d : Nat} {h D : zH}
theorem sp_letterOfKth {K : Int → zH → Prop} {m i k0 : Int} {L : Nat} {H : zH} (hD : mOK D) (hr : cRep H m D) (hp : pthP H (m + 7) D) (hL : 1 ≤ L ∧ L ≤ 3) (ht : ∀ (n : Nat) (s : Int), n ≤ L → 0 ≤ s → s < H (m + 7) 0 → H 243 ((n : Int) * 40 + s) = wy D (H (m + 7 + 2)) (H (m + 7) 6) n s) (hk : 0 ≤ k0 ∧ k0 < wy D (H (m + 7 + 2)) (H (m + 7) 6) L 0) (hi : 0 ≤ i ∧ i < L) (k : ∀ s l t, isAt D (H (m + 7 + 2)) (H (m + 7) 6) L k0 (i + 1).toNat s l t → 0 ≤ t ∧ t < 65536 → K t H) : zCi G (d + 2) mX1_letterOfKth [vr 1 242, vr 4 m, vi L, vl k0, vi i] H K := by
  have nn := pP_n hp
  have hB := mO_bl hD
  have hT : ∀ s b, 0 ≤ s → s < H (m + 7) 0 → 0 ≤ b → b < D 0 4 → 0 ≤ H (m + 7 + 2) (s * 128 + b) ∧ H (m + 7 + 2) (s * 128 + b) < H (m + 7) 0 := hS_s hp hD
  have go : ∀ (f j : Nat) (s l t : Int), (j : Int) + f = i + 1 → isAt D (H (m + 7 + 2)) (H (m + 7) 6) L k0 j s l t → 0 ≤ s ∧ s < H (m + 7) 0 → 0 ≤ l ∧ l < wy D (H (m + 7 + 2)) (H (m + 7) 6) (L - j) s → (0 < j → 0 ≤ t ∧ t < 65536) → tX1_letterOfKth_14 G (d + 1) K m L i l s t ((L : Int) - 1 - j) H := by
    intro f
    induction f with
    | zero =>
      intro j s l t hj ia hs hl htt
      refine bX1_letterOfKth_14 ⟨⟨by omega, by omega⟩, ⟨by omega, by omega⟩, fun _ => ?_, fun z => absurd (show (L : Int) - 1 - j < (L : Int) - 1 - i by omega) z⟩
      have := k s l t
      rw [show (i + 1).toNat = j by omega] at this
      exact this ia (htt (by omega))
    | succ f ih =>
      intro j s l t hj ia hs hl htt
      have rr : L - 1 - j ≤ 2 := by omega
      have eL : L - j = (L - 1 - j) + 1 := by omega
      have hl2 : l < zsum (fA D (H (m + 7 + 2)) (H (m + 7) 6) (L - 1 - j) s) (D 0 4).toNat := by
        have := hl.2
        rw [eL] at this
        exact this
      have en : ((L - 1 - j : Nat) : Int) = (L : Int) - 1 - j := by omega
      have l51 : ∀ (f2 b : Nat), (b : Int) + f2 + 1 = D 0 4 → zsum (fA D (H (m + 7 + 2)) (H (m + 7) 6) (L - 1 - j) s) b ≤ l → tX1_letterOfKth_51 G (d + 1) K m L i (l - zsum (fA D (H (m + 7 + 2)) (H (m + 7) 6) (L - 1 - j) s) b) s ((L : Int) - 1 - j) b (wy D (H (m + 7 + 2)) (H (m + 7) 6) (L - 1 - j) (H (m + 7 + 2) (s * 128 + b))) H := by
        intro f2
        induction f2 with
        | zero =>
          intro b hb le
          obtain ⟨a1, a2⟩ := fA_nn (x := H (m + 7) 6) hD hT rr hs.1 hs.2 (b := b) (by omega) (by omega)
          have zn := zsum_nn (f := fA D (H (m + 7 + 2)) (H (m + 7) 6) (L - 1 - j) s) (n := b) (fun i x y => (fA_nn (x := H (m + 7) 6) hD hT rr hs.1 hs.2 x (by omega)).1.1)
          have lt : l - zsum (fA D (H (m + 7 + 2)) (H (m + 7) 6) (L - 1 - j) s) b < fA D (H (m + 7 + 2)) (H (m + 7) 6) (L - 1 - j) s b := by
            rw [show (D 0 4).toNat = b + 1 by omega] at hl2
            have : l < zsum (fA D (H (m + 7 + 2)) (H (m + 7) 6) (L - 1 - j) s) b + fA D (H (m + 7 + 2)) (H (m + 7) 6) (L - 1 - j) s b := hl2
            omega
          obtain ⟨x1, x2, x3⟩ := at_step hD hT rr hs.1 hs.2 (by omega) (by omega) (by omega) lt
          have st := hT s b hs.1 hs.2 (by omega) (by omega)
          have s7 := mO_s hD (b := b) (by omega) (by omega)
          have de := dEnd_ok hD (b := b) (by omega) (by omega)
          unfold wid at x2
          refine bX1_letterOfKth_51 ?_
          rw [hr.1.2.2.2.2]
          refine ⟨⟨by omega, by omega⟩, ⟨by omega, by omega⟩, fun _ => ⟨fun _ => ⟨by omega, by omega, ⟨by omega, by omega⟩, by omega, sp_sheafStep (by omega) (by omega) ?_⟩, fun z => absurd ((zcmp_sg ⟨by omega, by omega⟩ zRL_0).1.mpr x1.1) z⟩, fun z => absurd (show D 0 4 ≤ (b : Int) + 1 by omega) z⟩
          rw [hr.2.2.2 b (by omega) (by omega)]
          have := ih (j + 1) (H (m + 7 + 2) (s * 128 + b)) _ _ (by omega) ⟨s, l, t, b, ia, ⟨⟨by omega, by omega⟩, le, ?_⟩, rfl, rfl, rfl⟩ st ?_ (fun _ => ?_)
          · rw [show (L : Int) - 1 - ((j + 1 : Nat) : Int) = (L : Int) - 1 - j + (-1) by omega] at this
            exact this
          · show l < zsum (fA D (H (m + 7 + 2)) (H (m + 7) 6) (L - 1 - j) s) b + fA D (H (m + 7 + 2)) (H (m + 7) 6) (L - 1 - j) s b
            omega
          · rw [show L - (j + 1) = L - 1 - j by omega]
            exact x3
          · rw [Int.toNat_natCast]
            exact ⟨by omega, by omega⟩
        | succ f2 ih2 =>
          intro b hb le
          obtain ⟨a1, a2⟩ := fA_nn (x := H (m + 7) 6) hD hT rr hs.1 hs.2 (b := b) (by omega) (by omega)
          have zn := zsum_nn (f := fA D (H (m + 7 + 2)) (H (m + 7) 6) (L - 1 - j) s) (n := b) (fun i x y => (fA_nn (x := H (m + 7) 6) hD hT rr hs.1 hs.2 x (by omega)).1.1)
          have st := hT s b hs.1 hs.2 (by omega) (by omega)
          have st1 := hT s (b + 1) hs.1 hs.2 (by omega) (by omega)
          have s7 := mO_s hD (b := b) (by omega) (by omega)
          have de := dEnd_ok hD (b := b) (by omega) (by omega)
          have L3 : (65536 : Int) ^ L ≤ 281474976710656 := by
            have e : ∀ k : Nat, k ≤ 3 → (65536 : Int) ^ k ≤ 281474976710656 := by decide
            exact e L hL.2
          have lb : l < 281474976710657 := by
            have := wy_3 hD hT (x := H (m + 7) 6) (k := L - j) (by omega) hs.1 hs.2
            omega
          have fe : (dEnd D b - D 7 b) * wy D (H (m + 7 + 2)) (H (m + 7) 6) (L - 1 - j) (H (m + 7 + 2) (s * 128 + b)) = fA D (H (m + 7 + 2)) (H (m + 7) 6) (L - 1 - j) s b := rfl
          refine bX1_letterOfKth_51 ?_
          rw [hr.1.2.2.2.2]
          refine ⟨⟨by omega, by omega⟩, ⟨by omega, by omega⟩, fun z => absurd z (by omega), fun _ => sp_lengthOf hD hr (by omega) ?_⟩
          rw [fe, (zcmp_sg (x := l - zsum (fA D (H (m + 7 + 2)) (H (m + 7) 6) (L - 1 - j) s) b) ⟨by omega, by omega⟩ ⟨by omega, by omega⟩).2.1]
          refine ⟨⟨by omega, by omega⟩, fun lt => ?_, fun ge => sp_lengthOf hD hr (by omega) ⟨⟨by omega, by omega⟩, sp_sheafStep (by omega) (by omega) (sp_behindSheaf (by omega) (by omega) ?_)⟩⟩
          · obtain ⟨x1, x2, x3⟩ := at_step hD hT rr hs.1 hs.2 (by omega) (by omega) (by omega) lt
            unfold wid at x2
            refine ⟨fun _ => ⟨by omega, by omega, ⟨by omega, by omega⟩, by omega, sp_sheafStep (by omega) (by omega) ?_⟩, fun z => absurd ((zcmp_sg ⟨by omega, by omega⟩ zRL_0).1.mpr x1.1) z⟩
            rw [hr.2.2.2 b (by omega) (by omega)]
            have := ih (j + 1) (H (m + 7 + 2) (s * 128 + b)) _ _ (by omega) ⟨s, l, t, b, ia, ⟨⟨by omega, by omega⟩, le, ?_⟩, rfl, rfl, rfl⟩ st ?_ (fun _ => ?_)
            · rw [show (L : Int) - 1 - ((j + 1 : Nat) : Int) = (L : Int) - 1 - j + (-1) by omega] at this
              exact this
            · show l < zsum (fA D (H (m + 7 + 2)) (H (m + 7) 6) (L - 1 - j) s) b + fA D (H (m + 7 + 2)) (H (m + 7) 6) (L - 1 - j) s b
              omega
            · rw [show L - (j + 1) = L - 1 - j by omega]
              exact x3
            · rw [Int.toNat_natCast]
              exact ⟨by omega, by omega⟩
          · have tv := ht (L - 1 - j) _ (by omega) st1.1 st1.2
            rw [en] at tv
            rw [tv, fe]
            have nx : zsum (fA D (H (m + 7 + 2)) (H (m + 7) 6) (L - 1 - j) s) (b + 1) = zsum (fA D (H (m + 7 + 2)) (H (m + 7) 6) (L - 1 - j) s) b + fA D (H (m + 7 + 2)) (H (m + 7) 6) (L - 1 - j) s b := rfl
            have := ih2 (b + 1) (by omega) (by rw [nx]; omega)
            rw [nx, show ((b + 1 : Nat) : Int) = (b : Int) + 1 by omega] at this
            rw [show l - zsum (fA D (H (m + 7 + 2)) (H (m + 7) 6) (L - 1 - j) s) b - fA D (H (m + 7 + 2)) (H (m + 7) 6) (L - 1 - j) s b = l - (zsum (fA D (H (m + 7 + 2)) (H (m + 7) 6) (L - 1 - j) s) b + fA D (H (m + 7 + 2)) (H (m + 7) 6) (L - 1 - j) s b) by omega]
            exact this
      have st0 := hT s 0 hs.1 hs.2 (by omega) (by omega)
      refine bX1_letterOfKth_14 ⟨⟨by omega, by omega⟩, ⟨by omega, by omega⟩, fun z => absurd z (by omega), fun _ => ⟨⟨by omega, by omega⟩, fun z => absurd z (by omega), fun _ => sp_sheafStep (by omega) (by omega) (sp_behindSheaf (by omega) (by omega) ?_)⟩⟩
      have tv := ht (L - 1 - j) _ (by omega) st0.1 st0.2
      rw [en] at tv
      rw [tv]
      have := l51 (D 0 4 - 1).toNat 0 (by omega) hl.1
      rw [show zsum (fA D (H (m + 7 + 2)) (H (m + 7) 6) (L - 1 - j) s) 0 = 0 from rfl, Int.sub_zero] at this
      exact this
  have := go (i + 1).toNat 0 0 k0 (-1) (by omega) ⟨rfl, rfl, rfl⟩ (by omega) (by rw [Nat.sub_zero]; exact hk) (fun z => absurd z (by omega))
  refine eX1_letterOfKth (bX1_letterOfKth_0 ?_)
  rw [show (L : Int) - 1 - ((0 : Nat) : Int) = (L : Int) - 1 by omega] at this
  exact this
theorem sm_at88 {K : Int → zH → Prop} {m i k0 N x : Int} {B T Pa Vi De : Int → Int} {L : Nat} (hD : mOK D) (hm : 0 ≤ m ∧ m < 14) (hr : mRep h m D) (pb : bfs D N B T Pa Vi De (N * 128)) (g : mGt D h 0 N B T Pa Vi) (hL : 1 ≤ L ∧ L ≤ 3) (ht : ∀ (n : Nat) (s : Int), n ≤ 3 → 0 ≤ s → s < N → h 515 ((n : Int) * 40 + s) = wy D T x n s) (hk : 0 ≤ k0 ∧ k0 < wy D T x L 0) (hi : 0 ≤ i ∧ i < L) (k : ∀ s l t, isAt D T x L k0 (i + 1).toNat s l t → 0 ≤ t ∧ t < 65536 → K t (zup (zup h 466 1 0) 466 2 (-1))) : tX12_at_88 G (d + 2) K m L i k0 0 (-1) 0 h := by
  have nn := pb.1
  have hB := mO_bl hD
  have hT : ∀ s b, 0 ≤ s → s < N → 0 ≤ b → b < D 0 4 → 0 ≤ T (s * 128 + b) ∧ T (s * 128 + b) < N := fun s b a1 a2 a3 a4 => bfs_T pb a1 a2 a3 a4 hD
  have g7 := (mG0 g).2.2.1
  have go : ∀ (f j : Nat) (s l t : Int), (j : Int) + f = i + 1 → isAt D T x L k0 j s l t → 0 ≤ s ∧ s < N → 0 ≤ l ∧ l < wy D T x (L - j) s → (0 < j → 0 ≤ t ∧ t < 65536) → tX12_at_88 G (d + 2) K m L i l s t j h := by
    intro f
    induction f with
    | zero =>
      intro j s l t hj ia hs hl htt
      refine bX12_at_88 ⟨⟨by omega, by omega⟩, ⟨by omega, by omega⟩, fun _ => sm_good ?_, fun z => absurd (show i < (j : Int) by omega) z⟩
      have := k s l t
      rw [show (i + 1).toNat = j by omega] at this
      exact this ia (htt (by omega))
    | succ f ih =>
      intro j s l t hj ia hs hl htt
      have rr : L - 1 - j ≤ 2 := by omega
      have eL : L - j = (L - 1 - j) + 1 := by omega
      have hl2 : l < zsum (fA D T x (L - 1 - j) s) (D 0 4).toNat := by
        have := hl.2
        rw [eL] at this
        exact this
      have en : ((L - 1 - j : Nat) : Int) = (L : Int) - j - 1 := by omega
      have lb : l < 281474976710657 := by
        have := wy_3 hD hT (x := x) (k := L - j) (by omega) hs.1 hs.2
        omega
      have l98 : ∀ (f2 b : Nat), (b : Int) + f2 = D 0 4 → zsum (fA D T x (L - 1 - j) s) b ≤ l → tX12_at_98 G (d + 2) K m L i (l - zsum (fA D T x (L - 1 - j) s) b) s j b h := by
        intro f2
        induction f2 with
        | zero =>
          intro b hb le
          rw [show (D 0 4).toNat = b by omega] at hl2
          omega
        | succ f2 ih2 =>
          intro b hb le
          obtain ⟨a1, a2⟩ := fA_nn (x := x) hD hT rr hs.1 hs.2 (b := b) (by omega) (by omega)
          have zn := zsum_nn (f := fA D T x (L - 1 - j) s) (n := b) (fun i x y => (fA_nn hD hT rr hs.1 hs.2 x (by omega)).1.1)
          have st := hT s b hs.1 hs.2 (by omega) (by omega)
          have s7 := mO_s hD (b := b) (by omega) (by omega)
          have de := dEnd_ok hD (b := b) (by omega) (by omega)
          have tv := ht (L - 1 - j) _ (by omega) st.1 st.2
          rw [en] at tv
          have fe : wid D b * wy D T x (L - 1 - j) (T (s * 128 + b)) = fA D T x (L - 1 - j) s b := rfl
          refine bX12_at_98 (sm_waysBy (N := N) (T := T) hD hm hr nn.2 g7 hT (by omega) hs (by omega) ?_)
          rw [tv, fe, (zcmp_sg (x := l - zsum (fA D T x (L - 1 - j) s) b) ⟨by omega, by omega⟩ ⟨by omega, by omega⟩).2.1]
          refine ⟨fun lt => sm_goesTo (Or.inl rfl) (by omega) (by omega) ?_, fun ge => sm_waysBy (N := N) (T := T) hD hm hr nn.2 g7 hT (by omega) hs (by omega) ?_⟩
          · obtain ⟨x1, x2, x3⟩ := at_step hD hT rr hs.1 hs.2 (by omega) (by omega) (by omega) lt
            unfold wid at x2
            rw [show ((0 : Int) * 40 + s) * 128 + (b : Int) = s * 128 + b by omega, g7 s b hs.1 hs.2 (by omega) (by omega), tv, hr.2.2.2 b (by omega) (by omega)]
            refine ⟨⟨by omega, by omega⟩, ⟨by omega, by omega⟩, by omega, ⟨by omega, by omega⟩, by omega, ?_⟩
            have := ih (j + 1) (T (s * 128 + b)) _ _ (by omega) ⟨s, l, t, b, ia, ⟨⟨by omega, by omega⟩, le, ?_⟩, rfl, rfl, rfl⟩ st ?_ (fun _ => ?_)
            · rw [show ((j + 1 : Nat) : Int) = (j : Int) + 1 by omega] at this
              exact this
            · show l < zsum (fA D T x (L - 1 - j) s) b + fA D T x (L - 1 - j) s b
              omega
            · rw [show L - (j + 1) = L - 1 - j by omega]
              exact x3
            · rw [Int.toNat_natCast]
              exact ⟨by omega, by omega⟩
          · rw [tv, fe]
            have nx : zsum (fA D T x (L - 1 - j) s) (b + 1) = zsum (fA D T x (L - 1 - j) s) b + fA D T x (L - 1 - j) s b := rfl
            have := ih2 (b + 1) (by omega) (by rw [nx]; omega)
            rw [nx, show ((b + 1 : Nat) : Int) = (b : Int) + 1 by omega] at this
            rw [show l - zsum (fA D T x (L - 1 - j) s) b - fA D T x (L - 1 - j) s b = l - (zsum (fA D T x (L - 1 - j) s) b + fA D T x (L - 1 - j) s b) by omega]
            exact this
      refine bX12_at_88 ⟨⟨by omega, by omega⟩, ⟨by omega, by omega⟩, fun z => absurd z (by omega), fun _ => ?_⟩
      have := l98 (D 0 4).toNat 0 (by omega) hl.1
      rw [show zsum (fA D T x (L - 1 - j) s) 0 = 0 from rfl, Int.sub_zero] at this
      exact this
  exact go (i + 1).toNat 0 0 k0 (-1) (by omega) ⟨rfl, rfl, rfl⟩ (by omega) (by rw [Nat.sub_zero]; exact hk) (fun z => absurd z (by omega))
end CX
section CY
variable {G : zG} {d : Nat} {h : zH}
theorem c_at {m n k i : Int} (hI : Inv h) (hm : zR m) (hn : zR n) (hk : zRL k) (hi : zR i) : twI G (d + 7) mX11_at mX12_at [vi m, vi n, vl k, vi i] h := by
  refine eX11_at (bX11_at_0 (q_mach hI hm (fun q => ⟨fun _ => ⟨hn, fun q2 => sp_refused (eX12_at (bX12_at_0 (q_machM hI rfl hm (fun _ => ⟨fun _ => sm_in hn ⟨by decide, by decide⟩ ⟨by decide, by decide⟩ ⟨fun z => absurd (of_decide_eq_true z) (by omega), fun _ => sm_refused ⟨zR_m1, rfl, Inv_w hI (by omega)⟩⟩, fun z => (by cases z)⟩) (fun z => absurd q z)))), fun q2 => ⟨hn, fun q3 => ?_, fun q3 => sp_refused (eX12_at (bX12_at_0 (q_machM hI rfl hm (fun _ => ⟨fun _ => sm_in hn ⟨by decide, by decide⟩ ⟨by decide, by decide⟩ ⟨fun z => absurd (of_decide_eq_true z) (by omega), fun _ => sm_refused ⟨zR_m1, rfl, Inv_w hI (by omega)⟩⟩, fun z => (by cases z)⟩) (fun z => absurd q z))))⟩⟩, fun z => (by cases z)⟩) (fun q => ⟨fun z => (by cases z), fun _ => sp_refused (eX12_at (bX12_at_0 (q_machM hI rfl hm (fun z => absurd z q) (fun _ => ⟨fun z => (by cases z), fun _ => sm_refused ⟨zR_m1, rfl, Inv_w hI (by omega)⟩⟩))))⟩)))
  obtain ⟨m10, mc, o1, o2, o3, o4⟩ := iM_d hI q.1 q.2
  have pp := pth_p o4
  have nn := pP_n pp
  have hT : ∀ s b, 0 ≤ s → s < h (h 3 m + 7) 0 → 0 ≤ b → b < dOf h m 0 4 → 0 ≤ h (h 3 m + 7 + 2) (s * 128 + b) ∧ h (h 3 m + 7 + 2) (s * 128 + b) < h (h 3 m + 7) 0 := hS_s pp o1
  obtain ⟨L, eL⟩ : ∃ L : Nat, n = L := ⟨n.toNat, by omega⟩
  subst eL
  have w3 := wy_3 o1 hT (x := h (h 3 m + 7) 6) (k := L) (by omega) (show (0 : Int) ≤ 0 by omega) (by omega)
  refine ⟨m10, sp_fill (by unfold mcell at mc; omega) o1 o2 pp (by omega) (fun h1 f1 f2 => ?_)⟩
  have t0 := f2 L 0 (by omega) (by omega) (by omega)
  have b0 : ∀ w, bK h (zup (zup h1 0 14 w) 466 0 0) := fun w => bK_w (fun a ka => f1 a (by unfold kp at ka; omega)) (f1 466 (by decide))
  -- the model, with its table
  have two : ∀ {x w : Int}, (∀ h3 : zH, mK (zup (zup h1 0 14 w) 466 0 0) h3 → mGt (dOf h m) h3 0 (h (h 3 m + 7) 0) (h (h 3 m + 7 + 1)) (h (h 3 m + 7 + 2)) (h (h 3 m + 7 + 3)) (h (h 3 m + 7 + 4)) → (∀ (n : Nat) (s : Int), n ≤ 3 → 0 ≤ s → s < h (h 3 m + 7) 0 → h3 515 ((n : Int) * 40 + s) = wy (dOf h m) (h (h 3 m + 7 + 2)) (h (h 3 m + 7) 6) n s) → ((zcmp k 0) < 0 → zCi G (d + 6) mX12_refused [vr 12 466, vi 1] h3 (fun x7 h8 => zR x ∧ x = x7 ∧ Inv h8)) ∧ (¬ (zcmp k 0) < 0 → ((0 : Int) ≤ ((L : Int) * 40) ∧ ((L : Int) * 40) < 160) ∧ (0 ≤ (zcmp k (h3 515 ((L : Int) * 40))) → zCi G (d + 6) mX12_refused [vr 12 466, vi 1] h3 (fun x9 h10 => zR x ∧ x = x9 ∧ Inv h10)) ∧ (¬ 0 ≤ (zcmp k (h3 515 ((L : Int) * 40))) → zR i ∧ (i < 0 → zCi G (d + 6) mX12_refused [vr 12 466, vi 1] h3 (fun x11 h12 => zR x ∧ x = x11 ∧ Inv h12)) ∧ (¬ i < 0 → zR i ∧ zR (L : Int) ∧ (i < (L : Int) → tX12_at_88 G (d + 6) (fun y h4 => zR x ∧ x = y ∧ Inv h4) m L i k 0 (-1) 0 h3) ∧ (¬ i < (L : Int) → zCi G (d + 6) mX12_refused [vr 12 466, vi 1] h3 (fun x13 h14 => zR x ∧ x = x13 ∧ Inv h14)))))) → zCi G (d + 7) mX12_at [vr 12 466, vi m, vi L, vl k, vi i] (zup h1 0 14 w) (fun y h4 => zR x ∧ x = y ∧ Inv h4) := fun {x w} kk => eX12_at (bX12_at_0 (q_machM hI (f1 466 (by decide)) hm (fun _ => ⟨fun _ => sm_in hn ⟨by decide, by decide⟩ ⟨by decide, by decide⟩ ⟨fun _ => sm_counts o1 (by omega) (mRep_b (b0 w) o3) pp.2.1 pp.2.2.1 (fun h3 mk g t => kk h3 mk g t), fun z => absurd (of_decide_eq_false z) (by omega)⟩, fun z => (by cases z)⟩) (fun z => absurd q z)))
  have Ik : ∀ {w : Int} {h3 : zH}, 0 ≤ w ∧ w ≤ 5 ∧ ¬ w = 4 → mK (zup (zup h1 0 14 w) 466 0 0) h3 → Inv (zup (zup h3 466 1 w) 466 2 (-1)) := fun hw mk => Inv_k hI hw (fun a ka => f1 a (by unfold kp at ka; omega)) (f1 0 (by decide)) (f1 466 (by decide)) mk
  have tt : ∀ h3 : zH, (∀ (n : Nat) (s : Int), n ≤ 3 → 0 ≤ s → s < h (h 3 m + 7) 0 → h3 515 ((n : Int) * 40 + s) = wy (dOf h m) (h (h 3 m + 7 + 2)) (h (h 3 m + 7) 6) n s) → h3 515 ((L : Int) * 40) = wy (dOf h m) (h (h 3 m + 7 + 2)) (h (h 3 m + 7) 6) L 0 := fun h3 t => by
    have := t L 0 (by omega) (by omega) (by omega)
    rw [Int.add_zero] at this
    exact this
  have s0 := zcmp_sg hk zRL_0
  have s1 := zcmp_sg hk (y := wy (dOf h m) (h (h 3 m + 7 + 2)) (h (h 3 m + 7) 6) L 0) ⟨by omega, by omega⟩
  have L40 : (0 : Int) ≤ (L : Int) * 40 ∧ (L : Int) * 40 < 160 := by omega
  refine ⟨fun q4 => sp_refused (two (fun h3 mk g t => ⟨fun _ => sm_refused ⟨zR_m1, rfl, Ik (by omega) mk⟩, fun z => absurd q4 z⟩)), fun q4 => sp_behindSheaf (by omega) (by omega) ?_⟩
  rw [t0]
  refine ⟨fun q5 => sp_refused (two (fun h3 mk g t => ⟨fun z => absurd z q4, fun _ => ⟨L40, fun _ => sm_refused ⟨zR_m1, rfl, Ik (by omega) mk⟩, fun z => absurd q5 (by rw [tt h3 t] at z; exact z)⟩⟩)), fun q5 => sp_isIn hi hn ⟨fun q6 => ⟨m10, ?_⟩, fun q6 => sp_refused (two (fun h3 mk g t => ⟨fun z => absurd z q4, fun _ => ⟨L40, fun z => absurd z (by rw [tt h3 t]; exact q5), fun _ => ⟨hi, fun _ => sm_refused ⟨zR_m1, rfl, Ik (by omega) mk⟩, fun z => ⟨hi, hn, fun z2 => absurd (of_decide_eq_false q6) (by omega), fun _ => sm_refused ⟨zR_m1, rfl, Ik (by omega) mk⟩⟩⟩⟩⟩))⟩⟩
  have q6 := of_decide_eq_true q6
  have kk : 0 ≤ k ∧ k < wy (dOf h m) (h (h 3 m + 7 + 2)) (h (h 3 m + 7) 6) L 0 := by
    have a : ¬ k < 0 := fun z => q4 (s0.2.1.mpr z)
    have b : ¬ wy (dOf h m) (h (h 3 m + 7 + 2)) (h (h 3 m + 7) 6) L 0 ≤ k := fun z => q5 (s1.2.2.mpr z)
    omega
  have e7 := f1 (h 3 m + 7) (by unfold mcell at mc; omega)
  have e9 := f1 (h 3 m + 7 + 2) (by unfold mcell at mc; omega)
  rw [f1 3 (by decide)]
  refine sp_letterOfKth o1 (cRep_243 mc f1 o2) (pthP_243 mc f1 pp) (by omega) (by rw [e7, e9]; exact fun n s a b c => f2 n s (by omega) b c) (by rw [e7, e9]; exact kk) q6 (fun s l t ia tr => sp_granted (two (fun h3 mk g tb2 => ⟨fun z => absurd z q4, fun _ => ⟨L40, fun z => absurd z (by rw [tt h3 tb2]; exact q5), fun _ => ⟨hi, fun z => absurd z (by omega), fun _ => ⟨hi, hn, fun _ => ?_, fun z => absurd q6.2 z⟩⟩⟩⟩)))
  rw [e7, e9] at ia
  refine sm_at88 o1 (by omega) (mRep_b (bK_m (b0 0) mk) o3) pp.2.1 g (by omega) tb2 kk q6 (fun s' l' t' ia' tr' => ⟨⟨by omega, by omega⟩, ?_, Ik (by omega) mk⟩)
  exact (isAt_u o1 hT (by omega) (by omega) (by omega) ia ia').2.2.2
end CY
