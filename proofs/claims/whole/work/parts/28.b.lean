/-! ===== cases: count, place ===== -/
/-- what a letter adds to a word's place -/
def plD (D : zH) (T : Int → Int) (x : Int) (r : Nat) (s w : Int) : Int := zsum (fun b => wid D b * wy D T x r (T (s * 128 + b))) (dB D w).toNat + (w - D 7 (dB D w)) * wy D T x r (T (s * 128 + dB D w))
def plS (D : zH) (T : Int → Int) (x : Int) (w : Int → Int) (L : Nat) : Nat → Int
  | 0 => 0
  | j + 1 => plS D T x w L j + plD D T x (L - 1 - j) (wS D T w j) (w (j : Int))
theorem dB_end {D : zH} (hD : mOK D) {x : Int} (h0 : 0 ≤ x) (h1 : x < 65536) : x < dEnd D (dB D x) := by
  obtain ⟨a, b, c⟩ := dB_ok hD h0
  unfold dEnd
  by_cases z : dB D x + 1 < D 0 4
  · rw [if_pos z]
    exact c _ (by omega) z
  · rw [if_neg z]
    exact h1
theorem dB_lt {D : zH} (hD : mOK D) {x b : Int} (h0 : 0 ≤ x) (b0 : 0 ≤ b) (hb : b < dB D x) : dEnd D b ≤ x := by
  obtain ⟨a, c, -⟩ := dB_ok hD h0
  unfold dEnd
  rw [if_pos (by omega)]
  by_cases z : b + 1 = dB D x
  · rw [z]
    exact c
  · have := mO_r hD (show 0 ≤ b + 1 by omega) (show b + 1 < dB D x by omega) a.2
    omega
theorem plD_rg {D : zH} (hD : mOK D) {T : Int → Int} {x n : Int} (hT : ∀ s b, 0 ≤ s → s < n → 0 ≤ b → b < D 0 4 → 0 ≤ T (s * 128 + b) ∧ T (s * 128 + b) < n) {r : Nat} (hr : r ≤ 2) {s w : Int} (s0 : 0 ≤ s) (s1 : s < n) (w0 : 0 ≤ w) (w1 : w < 65536) : 0 ≤ plD D T x r s w ∧ plD D T x r s w ≤ 2000000000000000 := by
  obtain ⟨a, b, c⟩ := dB_ok hD w0
  have e : ∀ k : Nat, k ≤ 2 → (65536 : Int) ^ k ≤ 4294967296 := by decide
  have wr : ∀ t, 0 ≤ t → t < n → 0 ≤ wy D T x r t ∧ wy D T x r t ≤ 4294967296 := fun t t0 t1 => by
    have := wy_rg hD hT (x := x) r t t0 t1
    have := e r hr
    omega
  have p1 := wsum_all hD (f := fun b => wy D T x r (T (s * 128 + b))) (W := 4294967296) (by decide) (fun b b0 b1 => by
    have t := hT s b s0 s1 b0 b1
    exact wr _ t.1 t.2) (n := (dB D w).toNat) (by omega)
  have t := hT s (dB D w) s0 s1 a.1 a.2
  have wt := wr _ t.1 t.2
  have s7 := mO_s hD a.1 a.2
  have m1 : 0 ≤ (w - D 7 (dB D w)) * wy D T x r (T (s * 128 + dB D w)) := Int.mul_nonneg (by omega) wt.1
  have m2 : (w - D 7 (dB D w)) * wy D T x r (T (s * 128 + dB D w)) ≤ 65536 * 4294967296 := by
    refine Int.le_trans (Int.mul_le_mul_of_nonneg_left wt.2 (by omega)) ?_
    exact Int.mul_le_mul_of_nonneg_right (by omega) (by decide)
  unfold plD
  omega
section CV
variable {G : zG} {d : Nat} {h D : zH}
theorem sp_aheadOf {K : Int → zH → Prop} {m : Int} {H : zH} (hD : mOK D) (hr : cRep H m D) (hp : pthP H (m + 7) D) (hL : 0 ≤ H 0 11 ∧ H 0 11 ≤ 3) (hl : ∀ i, 0 ≤ i → i < H 0 11 → 0 ≤ H 2 i ∧ H 2 i < 65536) (ht : ∀ (n : Nat) (s : Int), (n : Int) ≤ H 0 11 → 0 ≤ s → s < H (m + 7) 0 → H 243 ((n : Int) * 40 + s) = wy D (H (m + 7 + 2)) (H (m + 7) 6) n s) (k : K (plS D (H (m + 7 + 2)) (H (m + 7) 6) (H 2) (H 0 11).toNat (H 0 11).toNat) H) : zCl G (d + 1) mX1_aheadOf [vr 1 242, vr 4 m, vr 13 2, vi (H 0 11)] H K := by
  have nn := pP_n hp
  have hB := mO_bl hD
  have pb := hp.2.1
  have hT : ∀ s b, 0 ≤ s → s < H (m + 7) 0 → 0 ≤ b → b < D 0 4 → 0 ≤ H (m + 7 + 2) (s * 128 + b) ∧ H (m + 7 + 2) (s * 128 + b) < H (m + 7) 0 := hS_s hp hD
  have go : ∀ (f j : Nat), (j : Int) + f = H 0 11 → tX1_aheadOf_9 G d K m 2 (H 0 11) (plS D (H (m + 7 + 2)) (H (m + 7) 6) (H 2) (H 0 11).toNat j) (wS D (H (m + 7 + 2)) (H 2) j) j H := by
    intro f
    induction f with
    | zero =>
      intro j hj
      rw [show (H 0 11).toNat = j by omega] at k
      rw [show (H 0 11).toNat = j by omega]
      exact bX1_aheadOf_9 ⟨⟨by omega, by omega⟩, ⟨by omega, by omega⟩, fun _ => k, fun z => absurd z (by omega)⟩
    | succ f ih =>
      intro j hj
      have lv := hl j (by omega) (by omega)
      have a := wS_ok (w := H 2) pb hD j (fun i x y => (hl i x (by omega)).1)
      obtain ⟨b1, b2, b3⟩ := dB_ok hD lv.1
      have be := dB_end hD lv.1 lv.2
      have l35 : ∀ (f2 b : Nat), (b : Int) + f2 = dB D (H 2 j) → tX1_aheadOf_35 G d K m 2 (H 0 11) (plS D (H (m + 7 + 2)) (H (m + 7) 6) (H 2) (H 0 11).toNat j + zsum (fun b => wid D b * wy D (H (m + 7 + 2)) (H (m + 7) 6) ((H 0 11).toNat - 1 - j) (H (m + 7 + 2) (wS D (H (m + 7 + 2)) (H 2) j * 128 + b))) b) (wS D (H (m + 7 + 2)) (H 2) j) j (dB D (H 2 j)) b H := by
        intro f2
        induction f2 with
        | zero =>
          intro b hb
          have eb : (b : Int) = dB D (H 2 j) := by omega
          have st := hT (wS D (H (m + 7 + 2)) (H 2) j) b a.1 a.2 (by omega) (by omega)
          have s7 := mO_s hD (b := b) (by omega) (by omega)
          have de := dEnd_ok hD b1.1 b1.2
          refine bX1_aheadOf_35 ⟨⟨by omega, by omega⟩, ⟨by omega, by omega⟩, fun z => absurd z (by omega), fun _ => sp_endOf hD hr (by omega) ?_⟩
          rw [hr.2.2.2 b (by omega) (by omega), zl_2, eb, Int.min_eq_right (by omega)]
          rw [eb] at st s7
          refine ⟨by omega, ⟨by omega, by omega⟩, ⟨by omega, by omega⟩, by omega, ⟨by omega, by omega⟩, sp_sheafStep (by omega) (by omega) (sp_behindSheaf (by omega) (by omega) ?_)⟩
          have tv := ht ((H 0 11).toNat - 1 - j) _ (by omega) st.1 st.2
          rw [show ((((H 0 11).toNat - 1 - j : Nat)) : Int) = H 0 11 - 1 - j by omega] at tv
          rw [tv]
          refine bX1_aheadOf_35 ⟨⟨by omega, by omega⟩, ⟨by omega, by omega⟩, fun _ => sp_sheafStep (by omega) (by omega) ?_, fun z => absurd (show dB D (H 2 j) < dB D (H 2 j) + 1 by omega) z⟩
          have := ih (j + 1) (by omega)
          rw [show ((j + 1 : Nat) : Int) = (j : Int) + 1 by omega] at this
          have e1 : plS D (H (m + 7 + 2)) (H (m + 7) 6) (H 2) (H 0 11).toNat (j + 1) = plS D (H (m + 7 + 2)) (H (m + 7) 6) (H 2) (H 0 11).toNat j + zsum (fun b => wid D b * wy D (H (m + 7 + 2)) (H (m + 7) 6) ((H 0 11).toNat - 1 - j) (H (m + 7 + 2) (wS D (H (m + 7 + 2)) (H 2) j * 128 + b))) b + (H 2 j - D 7 (dB D (H 2 j))) * wy D (H (m + 7 + 2)) (H (m + 7) 6) ((H 0 11).toNat - 1 - j) (H (m + 7 + 2) (wS D (H (m + 7 + 2)) (H 2) j * 128 + dB D (H 2 j))) := by
            show plS D (H (m + 7 + 2)) (H (m + 7) 6) (H 2) (H 0 11).toNat j + plD D (H (m + 7 + 2)) (H (m + 7) 6) ((H 0 11).toNat - 1 - j) (wS D (H (m + 7 + 2)) (H 2) j) (H 2 j) = _
            unfold plD
            rw [show (dB D (H 2 j)).toNat = b by omega]
            exact (Int.add_assoc _ _ _).symm
          rw [e1] at this
          exact this
        | succ f2 ih2 =>
          intro b hb
          have st := hT (wS D (H (m + 7 + 2)) (H 2) j) b a.1 a.2 (by omega) (by omega)
          have s7 := mO_s hD (b := b) (by omega) (by omega)
          have de := dEnd_ok hD (b := b) (by omega) (by omega)
          have le := dB_lt hD (b := b) lv.1 (by omega) (by omega)
          refine bX1_aheadOf_35 ⟨⟨by omega, by omega⟩, ⟨by omega, by omega⟩, fun z => absurd z (by omega), fun _ => sp_endOf hD hr (by omega) ?_⟩
          rw [hr.2.2.2 b (by omega) (by omega), zl_2, Int.min_eq_left le]
          refine ⟨by omega, ⟨by omega, by omega⟩, ⟨by omega, by omega⟩, by omega, ⟨by omega, by omega⟩, sp_sheafStep (by omega) (by omega) (sp_behindSheaf (by omega) (by omega) ?_)⟩
          have tv := ht ((H 0 11).toNat - 1 - j) _ (by omega) st.1 st.2
          rw [show ((((H 0 11).toNat - 1 - j : Nat)) : Int) = H 0 11 - 1 - j by omega] at tv
          rw [tv, Int.add_assoc]
          have := ih2 (b + 1) (by omega)
          rw [show ((b + 1 : Nat) : Int) = (b : Int) + 1 by omega] at this
          exact this
      refine bX1_aheadOf_9 ⟨⟨by omega, by omega⟩, ⟨by omega, by omega⟩, fun z => absurd z (by omega), fun _ => ?_⟩
      rw [zl_2]
      refine ⟨⟨by omega, by omega⟩, fun z => absurd z (by omega), fun _ => ⟨by omega, sp_blockOf hD hr ⟨by omega, by omega⟩ ?_⟩⟩
      have := l35 (dB D (H 2 j)).toNat 0 (by omega)
      rw [show zsum (fun b => wid D b * wy D (H (m + 7 + 2)) (H (m + 7) 6) ((H 0 11).toNat - 1 - j) (H (m + 7 + 2) (wS D (H (m + 7 + 2)) (H 2) j * 128 + b))) 0 = 0 from rfl, Int.add_zero] at this
      exact this
  exact eX1_aheadOf (bX1_aheadOf_0 (go (H 0 11).toNat 0 (by omega)))
/-- the model's place -/
theorem sm_place48 {K : Int → zH → Prop} {i N x L : Int} {B T Pa Vi De w : Int → Int} (hD : mOK D) (hi : 0 ≤ i ∧ i < 14) (hr : mRep h i D) (pb : bfs D N B T Pa Vi De (N * 128)) (g : mGt D h 0 N B T Pa Vi) (e77 : h 466 77 = L) (hL : 0 ≤ L ∧ L ≤ 3) (hl : ∀ j, 0 ≤ j → j < L → (0 ≤ w j ∧ w j < 65536) ∧ h 514 j = w j) (ht : ∀ (n : Nat) (s : Int), n ≤ 3 → 0 ≤ s → s < N → h 515 ((n : Int) * 40 + s) = wy D T x n s) (k : K (plS D T x w L.toNat L.toNat) (zup (zup h 466 1 0) 466 2 (-1))) : tX12_place_48 G (d + 2) K i 0 0 0 h := by
  have nn := pb.1
  have hB := mO_bl hD
  have hT : ∀ s b, 0 ≤ s → s < N → 0 ≤ b → b < D 0 4 → 0 ≤ T (s * 128 + b) ∧ T (s * 128 + b) < N := fun s b a1 a2 a3 a4 => bfs_T pb a1 a2 a3 a4 hD
  have g7 := (mG0 g).2.2.1
  have go : ∀ (f j : Nat), (j : Int) + f = L → tX12_place_48 G (d + 2) K i (plS D T x w L.toNat j) (wS D T w j) j h := by
    intro f
    induction f with
    | zero =>
      intro j hj
      refine bX12_place_48 ?_
      rw [e77]
      rw [show L.toNat = j by omega] at k
      rw [show L.toNat = j by omega]
      exact ⟨⟨by omega, by omega⟩, ⟨by omega, by omega⟩, fun _ => sm_goodLong k, fun z => absurd z (by omega)⟩
    | succ f ih =>
      intro j hj
      have lv := hl j (by omega) (by omega)
      have a := wS_ok (w := w) pb hD j (fun i x y => (hl i x (by omega)).1.1)
      obtain ⟨b1, b2, b3⟩ := dB_ok hD lv.1.1
      have l83 : ∀ (f2 b : Nat), (b : Int) + f2 = dB D (w j) → tX12_place_83 G (d + 2) K i (plS D T x w L.toNat j + zsum (fun b => wid D b * wy D T x (L.toNat - 1 - j) (T (wS D T w j * 128 + b))) b) (wS D T w j) j (L - j) (dB D (w j)) b h := by
        intro f2
        induction f2 with
        | zero =>
          intro b hb
          have eb : (b : Int) = dB D (w j) := by omega
          have st := hT (wS D T w j) (dB D (w j)) a.1 a.2 b1.1 b1.2
          have s7 := mO_s hD b1.1 b1.2
          refine bX12_place_83 ⟨⟨by omega, by omega⟩, ⟨by omega, by omega⟩, fun _ => sm_goesTo (Or.inl rfl) (by omega) (by omega) ?_, fun z => absurd (show dB D (w j) ≤ (b : Int) by omega) z⟩
          rw [show ((0 : Int) * 40 + wS D T w j) * 128 + dB D (w j) = wS D T w j * 128 + dB D (w j) by omega, g7 _ _ a.1 a.2 b1.1 b1.2, lv.2, hr.2.2.2 _ b1.1 b1.2]
          have tv := ht (L.toNat - 1 - j) _ (by omega) st.1 st.2
          rw [show (((L.toNat - 1 - j : Nat)) : Int) = L - j - 1 by omega] at tv
          rw [tv]
          refine ⟨by omega, ⟨by omega, by omega⟩, ⟨by omega, by omega⟩, ⟨by omega, by omega⟩, ?_⟩
          have := ih (j + 1) (by omega)
          rw [show ((j + 1 : Nat) : Int) = (j : Int) + 1 by omega] at this
          have e1 : plS D T x w L.toNat (j + 1) = plS D T x w L.toNat j + zsum (fun b => wid D b * wy D T x (L.toNat - 1 - j) (T (wS D T w j * 128 + b))) b + (w j - D 7 (dB D (w j))) * wy D T x (L.toNat - 1 - j) (T (wS D T w j * 128 + dB D (w j))) := by
            show plS D T x w L.toNat j + plD D T x (L.toNat - 1 - j) (wS D T w j) (w j) = _
            unfold plD
            rw [show (dB D (w j)).toNat = b by omega]
            exact (Int.add_assoc _ _ _).symm
          rw [e1] at this
          exact this
        | succ f2 ih2 =>
          intro b hb
          have st := hT (wS D T w j) b a.1 a.2 (by omega) (by omega)
          refine bX12_place_83 ⟨⟨by omega, by omega⟩, ⟨by omega, by omega⟩, fun z => absurd z (by omega), fun _ => sm_waysBy (N := N) (T := T) hD hi hr nn.2 g7 hT (by omega) a (by omega) ?_⟩
          have tv := ht (L.toNat - 1 - j) _ (by omega) st.1 st.2
          rw [show (((L.toNat - 1 - j : Nat)) : Int) = L - j - 1 by omega] at tv
          rw [tv, Int.add_assoc]
          have := ih2 (b + 1) (by omega)
          rw [show ((b + 1 : Nat) : Int) = (b : Int) + 1 by omega] at this
          exact this
      refine bX12_place_48 ?_
      rw [e77, lv.2]
      refine ⟨⟨by omega, by omega⟩, ⟨by omega, by omega⟩, fun z => absurd z (by omega), fun _ => ⟨by omega, sm_blockAt hD hi hr ⟨by omega, by omega⟩ lv.1.1 ?_⟩⟩
      have := l83 (dB D (w j)).toNat 0 (by omega)
      rw [show zsum (fun b => wid D b * wy D T x (L.toNat - 1 - j) (T (wS D T w j * 128 + b))) 0 = 0 from rfl, Int.add_zero] at this
      exact this
  exact go L.toNat 0 (by omega)
theorem plS_rg {N x : Int} {B T Pa Vi De w : Int → Int} (hD : mOK D) (pb : bfs D N B T Pa Vi De (N * 128)) {L : Nat} (hL : L ≤ 3) (hw : ∀ i, 0 ≤ i → i < (L : Int) → 0 ≤ w i ∧ w i < 65536) : ∀ j : Nat, j ≤ L → 0 ≤ plS D T x w L j ∧ plS D T x w L j ≤ 2000000000000000 * j
  | 0, _ => ⟨Int.le_refl _, by show (0 : Int) ≤ _; omega⟩
  | j + 1, hj => by
    obtain ⟨a, b⟩ := plS_rg (x := x) hD pb hL hw j (by omega)
    have ws := wS_ok (w := w) pb hD j (fun i x y => (hw i x (by omega)).1)
    have lv := hw j (by omega) (by omega)
    have c := plD_rg hD (T := T) (x := x) (n := N) (fun s b a1 a2 a3 a4 => bfs_T pb a1 a2 a3 a4 hD) (r := L - 1 - j) (by omega) ws.1 ws.2 lv.1 lv.2
    show 0 ≤ plS D T x w L j + plD D T x (L - 1 - j) (wS D T w j) (w j) ∧ plS D T x w L j + plD D T x (L - 1 - j) (wS D T w j) (w j) ≤ 2000000000000000 * ((j + 1 : Nat) : Int)
    omega
end CV
section CW
variable {G : zG} {d : Nat} {h : zH}
theorem cRep_243 {h1 : zH} {m : Int} {D : zH} (mc : mcell m) (f : ∀ a, ¬ a = 243 → h1 a = h a) (k : cRep h m D) : cRep h1 m D := cRep_fr (fun a x y => f a (by unfold mcell at mc; omega)) k
theorem pthP_243 {h1 : zH} {m : Int} {D : zH} (mc : mcell m) (f : ∀ a, ¬ a = 243 → h1 a = h a) (k : pthP h (m + 7) D) : pthP h1 (m + 7) D := by
  unfold mcell at mc
  unfold pthP
  rw [f (m + 7) (by omega), f (m + 7 + 1) (by omega), f (m + 7 + 2) (by omega), f (m + 7 + 3) (by omega), f (m + 7 + 4) (by omega), f (m + 7 + 5) (by omega), f (m + 7 + 8) (by omega), f (m + 7 + 9) (by omega), f (m + 7 + 10) (by omega)]
  exact k
theorem c_count {m n : Int} (hI : Inv h) (hm : zR m) (hn : zR n) : twL G (d + 7) mX11_count mX12_count [vi m, vi n] h := by
  refine eX11_count (bX11_count_0 (q_mach hI hm (fun q => ⟨fun _ => ?_, fun z => (by cases z)⟩) (fun q => ⟨fun z => (by cases z), fun _ => sp_refused ⟨zR_m1, eX12_count (bX12_count_0 (q_machM hI rfl hm (fun z => absurd z q) (fun _ => ⟨fun z => (by cases z), fun _ => sm_refused ⟨zR_m1, ⟨by decide, by decide⟩, rfl, Inv_w hI (by omega)⟩⟩)))⟩⟩)))
  obtain ⟨m10, mc, o1, o2, o3, o4⟩ := iM_d hI q.1 q.2
  have pp := pth_p o4
  have nn := pP_n pp
  have hT : ∀ s b, 0 ≤ s → s < h (h 3 m + 7) 0 → 0 ≤ b → b < dOf h m 0 4 → 0 ≤ h (h 3 m + 7 + 2) (s * 128 + b) ∧ h (h 3 m + 7 + 2) (s * 128 + b) < h (h 3 m + 7) 0 := hS_s pp o1
  refine sp_isIn hn ⟨by decide, by decide⟩ ⟨fun q2 => ⟨m10, ?_⟩, fun q2 => sp_refused ⟨zR_m1, eX12_count (bX12_count_0 (q_machM hI rfl hm (fun _ => ⟨fun _ => sm_in hn ⟨by decide, by decide⟩ ⟨by decide, by decide⟩ ⟨fun z => absurd (of_decide_eq_true z) (by have := of_decide_eq_false q2; omega), fun _ => sm_refused ⟨zR_m1, ⟨by decide, by decide⟩, rfl, Inv_w hI (by omega)⟩⟩, fun z => (by cases z)⟩) (fun z => absurd q z)))⟩⟩
  have q2 := of_decide_eq_true q2
  refine sp_fill (by unfold mcell at mc; omega) o1 o2 pp (by omega) (fun h1 f1 f2 => sp_behindSheaf (by omega) (by omega) (sp_grantedLong ?_))
  have e0 := f2 n.toNat 0 (by omega) (by omega) (by omega)
  rw [show ((n.toNat : Nat) : Int) = n by omega] at e0
  rw [e0]
  have b0 : bK h (zup (zup h1 0 14 0) 466 0 0) := bK_w (fun a ka => f1 a (by unfold kp at ka; omega)) (f1 466 (by decide))
  refine eX12_count (bX12_count_0 (q_machM hI (f1 466 (by decide)) hm (fun _ => ⟨fun _ => sm_in hn ⟨by decide, by decide⟩ ⟨by decide, by decide⟩ ⟨fun _ => ?_, fun z => absurd (of_decide_eq_false z) (by omega)⟩, fun z => (by cases z)⟩) (fun z => absurd q z)))
  refine sm_counts o1 (by omega) (mRep_b b0 o3) pp.2.1 pp.2.2.1 (fun h3 mk g t => ⟨by omega, sm_goodLong ⟨?_, ?_, Inv_k hI (by omega) (fun a ka => f1 a (by unfold kp at ka; omega)) (f1 0 (by decide)) (f1 466 (by decide)) mk⟩⟩)
  · have := wy_3 o1 hT (x := h (h 3 m + 7) 6) (k := n.toNat) (by omega) (show (0 : Int) ≤ 0 by omega) (by omega)
    exact ⟨by omega, by omega⟩
  · have := t n.toNat 0 (by omega) (by omega) (by omega)
    rw [show ((n.toNat : Nat) : Int) * 40 + 0 = n * 40 by omega] at this
    exact this.symm
theorem c_place {m : Int} (hI : Inv h) (hm : zR m) : twL G (d + 7) mX11_place mX12_place [vi m] h := by
  obtain ⟨w1, w2, w3⟩ := iW_get hI
  refine eX11_place (bX11_place_0 (q_mach hI hm (fun q => ⟨fun _ => ⟨⟨by omega, by omega⟩, fun q2 => ?_, fun q2 => sp_refused ⟨zR_m1, eX12_place (bX12_place_0 (q_machM hI rfl hm (fun _ => ⟨fun _ => ?_, fun z => (by cases z)⟩) (fun z => absurd q z)))⟩⟩, fun z => (by cases z)⟩) (fun q => ⟨fun z => (by cases z), fun _ => sp_refused ⟨zR_m1, eX12_place (bX12_place_0 (q_machM hI rfl hm (fun z => absurd z q) (fun _ => ⟨fun z => (by cases z), fun _ => sm_refused ⟨zR_m1, ⟨by decide, by decide⟩, rfl, Inv_w hI (by omega)⟩⟩)))⟩⟩)))
  · obtain ⟨m10, mc, o1, o2, o3, o4⟩ := iM_d hI q.1 q.2
    have pp := pth_p o4
    have nn := pP_n pp
    refine ⟨m10, sp_fill (by unfold mcell at mc; omega) o1 o2 pp (by omega) (fun h1 f1 f2 => ⟨m10, ?_⟩)⟩
    rw [f1 3 (by decide)]
    have e7 := f1 (h 3 m + 7) (by unfold mcell at mc; omega)
    have e9 := f1 (h 3 m + 7 + 2) (by unfold mcell at mc; omega)
    have e0 := f1 0 (by decide)
    have e2 := f1 2 (by decide)
    refine sp_aheadOf o1 (cRep_243 mc f1 o2) (pthP_243 mc f1 pp) (by rw [e0]; omega) (by rw [e0, e2]; exact w2) (by rw [e0, e7, e9]; exact f2) (sp_grantedLong ?_)
    rw [e0, e2, e7, e9]
    have b0 : bK h (zup (zup h1 0 14 0) 466 0 0) := bK_w (fun a ka => f1 a (by unfold kp at ka; omega)) (f1 466 (by decide))
    have e77 := (w3 _ b0).1
    refine eX12_place (bX12_place_0 (q_machM hI (f1 466 (by decide)) hm (fun _ => ⟨fun _ => ?_, fun z => (by cases z)⟩) (fun z => absurd q z)))
    rw [e77]
    refine ⟨⟨by omega, by omega⟩, fun _ => sm_counts o1 (by omega) (mRep_b b0 o3) pp.2.1 pp.2.2.1 (fun h3 mk g t => ?_), fun z => absurd q2 z⟩
    have b3 := bK_m b0 mk
    refine sm_place48 o1 (by omega) (mRep_b b3 o3) pp.2.1 g (w3 _ b3).1 (by omega) (w3 _ b3).2 t ⟨?_, rfl, Inv_k hI (by omega) (fun a ka => f1 a (by unfold kp at ka; omega)) e0 (f1 466 (by decide)) mk⟩
    have := plS_rg (x := h (h 3 m + 7) 6) (w := h 2) o1 pp.2.1 (L := (h 0 11).toNat) (by omega) (fun i x y => w2 i x (by omega)) (h 0 11).toNat (by omega)
    exact ⟨by omega, by omega⟩
  · have e77 := (w3 (zup (zup h 0 14 5) 466 0 0) (bK_w (fun _ _ => rfl) rfl)).1
    rw [e77]
    exact ⟨⟨by omega, by omega⟩, fun z => absurd z q2, fun _ => sm_refused ⟨zR_m1, ⟨by decide, by decide⟩, rfl, Inv_w hI (by omega)⟩⟩
end CW
