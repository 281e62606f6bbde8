/-! ===== the model reads ranges and names ===== -/
def TBm (h : zH) (L : List nsT) : Prop := h 466 23 = L.length ∧ (L.length : Int) ≤ 12 ∧ ∀ s : Int, 0 ≤ s → s < L.length → h 474 s = (gS L s).1 ∧ zRL (gS L s).1 ∧ (0 ≤ h 471 (12 + s) ∧ h 471 (12 + s) ≤ 24) ∧ rgs (fun k => h 472 ((12 + s) * 24 + k)) (fun k => h 473 ((12 + s) * 24 + k)) 0 (h 471 (12 + s)) (gS L s).2
theorem TBm_B {T : Int} {h h' : zH} {L : List nsT} (f : mB T h h') (t : TBm h L) : TBm h' L := by
  unfold TBm
  rw [f.2.1 23 (by decide) (by decide) (by decide), f.1 474 (by decide) (by decide), f.1 471 (by decide) (by decide), f.1 472 (by decide) (by decide), f.1 473 (by decide) (by decide)]
  exact t
theorem mB_rB {T T' : Int} {h h' : zH} (l : T ≤ T') (r : rB T' h h') : mB T h h' := ⟨fun a _ q => r.1 a q, fun j _ _ _ => by rw [r.1 466 (by decide)], fun w p => r.2 w (by omega)⟩
theorem mB_13 {T x : Int} {h : zH} : mB T h (zup h 466 13 x) := ⟨fun a p _ => zup_ne p, fun j _ q _ => zup_ns q, fun w _ => by rw [zup_ne (by decide)]⟩
theorem mB_14 {T x : Int} {h : zH} : mB T h (zup h 466 14 x) := ⟨fun a p _ => zup_ne p, fun j _ _ q => zup_ns q, fun w _ => by rw [zup_ne (by decide)]⟩
/-- a fault stands -/
def FS (h : zH) (n s : Int) : Prop := h 466 10 = n ∧ h 466 8 = s ∧ h 466 7 = 0 ∧ (0 < n ∧ n ≤ 8)
theorem MF_S {T : Int} {h h' : zH} {n s : Int} (a : MF T h h' n s) : FS h' n s := a.2
theorem FS_n {h : zH} {n s : Int} (a : FS h n s) : 0 < h 466 10 ∧ h 466 10 ≤ 8 := by rw [a.1]; exact a.2.2.2
theorem FS_fr {h h' : zH} {n s : Int} (e : ∀ j, 7 ≤ j → j ≤ 10 → h' 466 j = h 466 j) (a : FS h n s) : FS h' n s := by
  unfold FS
  rw [e 10 (by decide) (by decide), e 8 (by decide) (by decide), e 7 (by decide) (by decide)]
  exact a
section MC
variable {G : zG} {d : Nat} {h : zH} {bs : Int → Int} {n : Int} {K Sp V En : Int → Int} {m i T : Int} {L : List nsT}
theorem MT_fr {h' : zH} (t : MT bs n K Sp V En m h i) (e : ∀ j, 5 ≤ j → j ≤ 11 → h' 466 j = h 466 j) (e2 : h' 467 = h 467) : MT bs n K Sp V En m h' i := by
  obtain ⟨t1, t2, t3, t4⟩ := t
  refine ⟨by rw [e 10 (by decide) (by decide), t1], ⟨by rw [e 5 (by decide) (by decide)]; exact t2.1, t2.2.1, by rw [e2]; exact t2.2.2⟩, ?_, t4⟩
  unfold mT
  rw [e 8 (by decide) (by decide), e 7 (by decide) (by decide), e 6 (by decide) (by decide), e 11 (by decide) (by decide), e 9 (by decide) (by decide)]
  exact t3
theorem MT_r {h' : zH} (t : MT bs n K Sp V En m h i) (r : rB T h h') : MT bs n K Sp V En m h' i := MT_fr t (fun j _ _ => by rw [r.1 466 (by decide)]) (r.1 467 (by decide))
theorem sm_named {Q : Int → zH → Prop} (tb : TBm h L) {v : Int} (h11 : h 466 11 = v) (hv : zRL v) (k1 : lkp L v = none → Q (-1) h) (k2 : ∀ j : Int, 0 ≤ j → j < L.length → lkp L v = some (gS L j).2 → Q j h) : zCi G d mX12_named [vr 12 466] h Q := by
  obtain ⟨t2, t3, t5⟩ := tb
  have go : ∀ (f : Nat) (j : Int), 0 ≤ j → j + f = L.length → (∀ x : Int, 0 ≤ x → x < j → ¬ (gS L x).1 = v) → tX12_named_2 G d Q j h := by
    intro f
    induction f with
    | zero =>
      intro j j0 jf no
      refine bX12_named_2 ?_
      rw [t2]
      exact ⟨⟨by omega, by omega⟩, ⟨by omega, by omega⟩, fun _ => k1 (lkp_none (fun x a b => no x a (by omega))), fun z => absurd (by omega) z⟩
    | succ f ih =>
      intro j j0 jf no
      obtain ⟨p1, p2, -⟩ := t5 j j0 (by omega)
      have z := (zcmp_lt p2 hv).2.1
      refine bX12_named_2 ?_
      rw [t2, p1, h11]
      refine ⟨⟨by omega, by omega⟩, ⟨by omega, by omega⟩, fun z => absurd z (by omega), fun _ => ⟨by omega, fun ne => ih (j + 1) (by omega) (by omega) (fun x a b => ?_), fun eq => k2 j j0 (by omega) (lkp_some j0 (by omega) (z.mp eq) no)⟩⟩
      by_cases w : x = j
      · rw [w]
        exact fun q => ne (z.mpr q)
      · exact no x a (by omega)
  exact eX12_named (bX12_named_0 (go L.length 0 (by omega) (by omega) (fun x a b => absurd b (by omega))))
theorem sm_named_f {Q : Int → zH → Prop} (tb : TBm h L) (k : ∀ x, -1 ≤ x → x < 12 → Q x h) : zCi G d mX12_named [vr 12 466] h Q := by
  obtain ⟨t2, t3, t5⟩ := tb
  have go : ∀ (f : Nat) (j : Int), 0 ≤ j → j + f = L.length → tX12_named_2 G d Q j h := by
    intro f
    induction f with
    | zero =>
      intro j j0 jf
      refine bX12_named_2 ?_
      rw [t2]
      exact ⟨⟨by omega, by omega⟩, ⟨by omega, by omega⟩, fun _ => k (-1) (by omega) (by omega), fun z => absurd (by omega) z⟩
    | succ f ih =>
      intro j j0 jf
      refine bX12_named_2 ?_
      rw [t2]
      exact ⟨⟨by omega, by omega⟩, ⟨by omega, by omega⟩, fun z => absurd z (by omega), fun _ => ⟨by omega, fun ne => ih (j + 1) (by omega) (by omega), fun eq => k j (by omega) (by omega)⟩⟩
  exact eX12_named (bX12_named_0 (go L.length 0 (by omega) (by omega)))
theorem tb_all0 : ∀ k, 0 ≤ k → k < 64 → tb 0 k = false := fun k _ _ => tb_0 k
theorem tb_all1 : ∀ k, 0 ≤ k → k < 64 → tb (-1) k = true := fun k a b => tb_m1 a b
/-- behind a fault: a named set lays one more -/
theorem sm_readNamed_f {Q : zH → Prop} {w s : Int} (tb : TBm h L) (f : FS h w s) (hT : 0 ≤ T ∧ T ≤ 27) (h13 : h 466 13 = T) (k : ∀ h' : zH, MF T h h' w s → h' 466 13 = T + 1 → Q h') : zCv G (d + 2) mX12_readNamed [vr 12 466] h Q := by
  refine eX12_readNamed (bX12_readNamed_0 (sm_lays tb_all0 hT h13 (fun h1 r1 b1 => ?_)))
  obtain ⟨h2, e2⟩ : ∃ h2, h2 = zup h1 466 13 (T + 1) := ⟨_, rfl⟩
  rw [← e2]
  have fr : mB T h h2 := mB_t (mB_rB (Int.le_refl _) r1) (by rw [e2]; exact mB_13)
  have f2 : FS h2 w s := FS_fr (fun j p q => by rw [e2, zup_ns (by omega), r1.1 466 (by decide)]) f
  have hf := FS_n f2
  have tb2 := TBm_B fr tb
  have kk := k h2 ⟨fr, f2⟩ (by rw [e2, zup_eq])
  exact sm_isName_f hf ⟨fun z => (by cases z), fun _ => sm_wrong_f hf (sm_named_f tb2 (fun x x0 x1 => ⟨⟨by omega, by omega⟩, fun _ => ⟨⟨by omega, by omega⟩, fun z => absurd z (by omega), fun _ => kk⟩, fun _ => sm_wrong_f hf ⟨⟨by omega, by omega⟩, fun z => absurd z (by omega), fun _ => kk⟩⟩))⟩
theorem sm_readPart_f {Q : zH → Prop} {w s : Int} (tb : TBm h L) (f : FS h w s) (hT : 0 ≤ T ∧ T ≤ 27) (h13 : h 466 13 = T) (k : ∀ h' : zH, MF T h h' w s → h' 466 13 = T + 1 → Q h') : zCv G (d + 3) mX12_readPart [vr 12 466] h Q := by
  have hf := FS_n f
  exact eX12_readPart (bX12_readPart_0 (sm_is_f hf ⟨fun _ => sm_is_f hf ⟨fun _ => sm_passes_f hf ⟨fun _ => sm_isWord_f hf ⟨fun _ => sm_readNamed_f tb f hT h13 k, fun z => (by cases z)⟩, fun z => (by cases z)⟩, fun z => (by cases z)⟩, fun z => (by cases z)⟩))
theorem sm_readMeet_f {Q : zH → Prop} {w s : Int} (tb : TBm h L) (f : FS h w s) (hT : 0 ≤ T ∧ T ≤ 27) (h13 : h 466 13 = T) (k : ∀ h' : zH, MF T h h' w s → h' 466 13 = T + 1 → Q h') : zCv G (d + 4) mX12_readMeet [vr 12 466] h Q :=
  eX12_readMeet (bX12_readMeet_0 (sm_readPart_f tb f hT h13 (fun h' mf e => bX12_readMeet_4 (sm_is_f (FS_n mf.2) ⟨fun z => (by cases z), fun _ => sm_is_f (FS_n mf.2) ⟨fun _ => k h' mf e, fun z => (by cases z)⟩⟩))))
theorem sm_readBody_f {Q : zH → Prop} {w s : Int} (tb : TBm h L) (f : FS h w s) (hT : 0 ≤ T ∧ T ≤ 27) (h13 : h 466 13 = T) (k : ∀ h' : zH, MF T h h' w s → h' 466 13 = T + 1 → Q h') : zCv G (d + 5) mX12_readBody [vr 12 466] h Q :=
  eX12_readBody (bX12_readBody_0 (sm_readMeet_f tb f hT h13 (fun h' mf e => bX12_readBody_4 (sm_passes_f (FS_n mf.2) ⟨fun _ => k h' mf e, fun z => (by cases z)⟩))))
/-- a set by its name -/
theorem sm_readNamed {Q : zH → Prop} {f : Nat} {o : Int} (ts : tkS bs n K Sp V En m) (tb : TBm h L) (t : MT bs n K Sp V En m h i) (n1 : ¬ K i = 33) (n2 : ¬ K i = 40) (n3 : ¬ K i = 91) (n4 : ¬ K i = 10) (hT : 0 ≤ T ∧ T ≤ 27) (h13 : h 466 13 = T) (kF : ∀ w, (0 < w ∧ w ≤ 8) → pr K Sp V L (f + 1) false i o ff ff = rF w (Sp i) → ∀ h' : zH, MF T h h' w (Sp i) → h' 466 13 = T + 1 → Q h') (kC : ∀ S, pr K Sp V L (f + 1) false i o ff ff = rO (i + 1) S → ∀ h' : zH, mB T h h' → MT bs n K Sp V En m h' (i + 1) → h' 466 13 = T + 1 → h' 466 14 = h 466 14 → bSt h' T S → Q h') : zCv G (d + 8) mX12_readNamed [vr 12 466] h Q := by
  refine eX12_readNamed (bX12_readNamed_0 (sm_lays tb_all0 hT h13 (fun h1 r1 b1 => ?_)))
  obtain ⟨h2, e2⟩ : ∃ h2, h2 = zup h1 466 13 (T + 1) := ⟨_, rfl⟩
  rw [← e2]
  have fr : mB T h h2 := mB_t (mB_rB (Int.le_refl _) r1) (by rw [e2]; exact mB_13)
  have t2 : MT bs n K Sp V En m h2 i := MT_fr t (fun j p q => by rw [e2, zup_ns (by omega), r1.1 466 (by decide)]) (by rw [e2, zup_ne (by decide), r1.1 467 (by decide)])
  have tb2 := TBm_B fr tb
  have e13 : h2 466 13 = T + 1 := by rw [e2, zup_eq]
  have e14 : h2 466 14 = h 466 14 := by rw [e2, zup_ns (by decide), r1.1 466 (by decide)]
  have bs2 : bSt h2 T (fun _ => false) := bSt_fr (fun w _ _ => by rw [e2, zup_ne (by decide)]) b1
  have q := MT_k ts t2
  refine sm_isName ts t2 (fun k2 => ⟨fun _ => ?_, fun z => (by cases z)⟩) (fun k2 => ⟨fun z => (by cases z), fun _ => ?_⟩)
  · have hv : h2 466 11 = V i ∧ 0 ≤ V i ∧ V i ≤ 34359738368 := by omega
    refine sm_named tb2 hv.1 ⟨by omega, by omega⟩ (fun no => ⟨zR_m1, fun z => absurd rfl z, fun _ => sm_wrongT (T := T) t2 (by decide) (fun h' g1 g2 g3 => ?_)⟩) (fun j j0 j1 so => ⟨⟨by have := tb.2.1; omega, by have := tb.2.1; omega⟩, fun _ => ?_, fun z => absurd z (by omega)⟩)
    · have hf := FS_n g3.2
      exact ⟨⟨by omega, by omega⟩, fun z => absurd z (by omega), fun _ => kF 2 (by decide) (pr_nm0 k2 no) h' (MF_t fr g3) (by rw [g2 13 (by decide) (by decide) (by decide), e13])⟩
    · rw [t2.1]
      refine ⟨⟨by decide, by decide⟩, fun _ => ?_, fun z => absurd (by decide) z⟩
      obtain ⟨-, -, c1, c2⟩ := tb2.2.2 j j0 j1
      have l12 := tb.2.1
      have go : ∀ (g : Nat) (w : Int) (h3 : zH) (S' : Int → Bool), 0 ≤ w → w + g = h2 471 (12 + j) → rB T h2 h3 → bSt h3 T S' → (∀ z, 0 ≤ z → z < 65536 → (S' z = true ↔ ∃ k, (0 ≤ k ∧ k < w) ∧ h2 472 ((12 + j) * 24 + k) ≤ z ∧ z ≤ h2 473 ((12 + j) * 24 + k))) → tX12_readNamed_42 G (d + 7) Q j w h3 := by
        intro g
        induction g with
        | zero =>
          intro w h3 S' w0 wf r3 b3 e3
          refine bX12_readNamed_42 ?_
          rw [r3.1 471 (by decide)]
          refine ⟨by omega, ⟨by omega, by omega⟩, ⟨by omega, by omega⟩, fun _ => sm_nextT ts (MT_r t2 r3) (by omega) (by omega) (fun h4 f4 _ t4 => ?_), fun z => absurd (by omega) z⟩
          refine kC _ (pr_nm1 k2 so) h4 (mB_t fr (mB_t (mB_rB (Int.le_refl _) r3) (mB_n f4))) t4 (by rw [f4.2 13 (by decide) (by decide), r3.1 466 (by decide), e13]) (by rw [f4.2 14 (by decide) (by decide), r3.1 466 (by decide), e14]) (bSt_fr (fun w _ _ => by rw [f4.1 468 (by decide)]) (bSt_f (fun z z0 z1 => ?_) b3))
          have a1 := e3 z z0 z1
          have a2 := c2.2.2 z z0 z1
          rw [show w = h2 471 (12 + j) by omega] at a1
          have : S' z = true ↔ (gS L j).2 z = true := a1.trans a2.symm
          cases x : S' z <;> cases y : (gS L j).2 z
          · rfl
          · rw [x, y] at this
            exact absurd (this.mpr rfl) (by decide)
          · rw [x, y] at this
            exact absurd (this.mp rfl) (by decide)
          · rfl
        | succ g ih =>
          intro w h3 S' w0 wf r3 b3 e3
          have cw := c2.1 w w0 (by omega)
          have cw : 0 ≤ h2 472 ((12 + j) * 24 + w) ∧ h2 472 ((12 + j) * 24 + w) ≤ h2 473 ((12 + j) * 24 + w) ∧ h2 473 ((12 + j) * 24 + w) < 65536 := cw
          refine bX12_readNamed_42 ?_
          rw [r3.1 471 (by decide), r3.1 472 (by decide), r3.1 473 (by decide)]
          refine ⟨by omega, ⟨by omega, by omega⟩, ⟨by omega, by omega⟩, fun z => absurd z (by omega), fun _ => ⟨by omega, by omega, sm_laysRange cw hT (by rw [r3.1 466 (by decide), e13]) b3 (fun h4 r4 b4 => ih (w + 1) h4 _ (by omega) (by omega) (rB_t r3 r4) b4 (fun z z0 z1 => ?_))⟩⟩
          unfold uR
          rw [Bool.or_eq_true, decide_eq_true_iff, e3 z z0 z1]
          constructor
          · rintro (⟨k, k0, k1⟩ | q)
            · exact ⟨k, by omega, k1⟩
            · exact ⟨w, by omega, q⟩
          · rintro ⟨k, k0, k1⟩
            by_cases e : k = w
            · rw [e] at k1
              exact Or.inr k1
            · exact Or.inl ⟨k, by omega, k1⟩
      exact go (h2 471 (12 + j)).toNat 0 h2 (fun _ => false) (by omega) (by omega) (rB_r T h2) bs2 (fun z _ _ => ⟨fun q => (by cases q), fun ⟨k, k0, _⟩ => absurd k0 (by omega)⟩)
  · refine sm_wrongT (T := T) t2 (by decide) (fun h' g1 g2 g3 => ?_)
    have hf := FS_n g3.2
    have tb3 := TBm_B g3.1 tb2
    have kk := kF 1 (by decide) (pr_bad n1 n2 n3 n4 k2) h' (MF_t fr g3) (by rw [g2 13 (by decide) (by decide) (by decide), e13])
    exact sm_named_f tb3 (fun x x0 x1 => ⟨⟨by omega, by omega⟩, fun _ => ⟨⟨by omega, by omega⟩, fun z => absurd z (by omega), fun _ => kk⟩, fun _ => sm_wrong_f hf ⟨⟨by omega, by omega⟩, fun z => absurd z (by omega), fun _ => kk⟩⟩)
end MC
