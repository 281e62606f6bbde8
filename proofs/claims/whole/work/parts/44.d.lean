/-! ===== the model reads ranges ===== -/
section MD
variable {G : zG} {d : Nat} {h : zH} {bs : Int → Int} {n : Int} {K Sp V En : Int → Int} {m i T : Int} {L : List nsT}
theorem sm_readRanges {Q : zH → Prop} {f : Nat} (ts : tkS bs n K Sp V En m) (k9 : K i = 91) (t : MT bs n K Sp V En m h (i + 1)) (mf : m ≤ i + f + 1) (hT : 0 ≤ T ∧ T ≤ 27) (h13 : h 466 13 = T) (kF : ¬ (rng K Sp V f i (fun _ => false)).1 = 0 → ∀ h' : zH, MF T h h' (rng K Sp V f i (fun _ => false)).1 (rng K Sp V f i (fun _ => false)).2.1 → h' 466 13 = T + 1 → Q h') (kC : (rng K Sp V f i (fun _ => false)).1 = 0 → ∀ h' : zH, mB T h h' → MT bs n K Sp V En m h' (rng K Sp V f i (fun _ => false)).2.2.1 → i < (rng K Sp V f i (fun _ => false)).2.2.1 → h' 466 13 = T + 1 → h' 466 14 = h 466 14 → bSt h' T (rng K Sp V f i (fun _ => false)).2.2.2 → Q h') : zCv G (d + 5) mX12_readRanges [vr 12 466] h Q := by
  obtain ⟨R, eR⟩ : ∃ R, R = rng K Sp V f i (fun _ => false) := ⟨_, rfl⟩
  rw [← eR] at kF kC
  have tk := tkS_TK ts
  have fault : ∀ (h4 : zH) (w s : Int), mB T h h4 → FS h4 w s → h4 466 13 = T + 1 → rF w s = R → tX12_readRanges_9 G (d + 4) Q h4 := fun h4 w s fr fs e13 eq => by
    have hf := FS_n fs
    rw [← eq] at kF
    exact bX12_readRanges_9 (sm_passes_f hf ⟨fun _ => sm_must_f hf (kF (show ¬ w = 0 by have := fs.2.2.2; omega) h4 ⟨fr, fs⟩ e13), fun z => (by cases z)⟩)
  have go : ∀ (f : Nat) (j : Int) (S : Int → Bool) (h1 : zH), m ≤ j + f + 1 → (K j = 91 ∨ K j = 44) → i ≤ j → mB T h h1 → MT bs n K Sp V En m h1 (j + 1) → h1 466 13 = T + 1 → h1 466 14 = h 466 14 → bSt h1 T S → rng K Sp V f j S = R → zCv G (d + 4) mX12_readRange [vr 12 466] h1 (fun h4 => tX12_readRanges_9 G (d + 4) Q h4) := by
    intro f
    induction f with
    | zero =>
      intro j S h1 mf kj ij fr t1
      exact absurd t1.2.2.2.2 (by omega)
    | succ f ih =>
      intro j S h1 mf kj ij fr t1 e13 e14 b1 eq
      have j0 := t1.2.2.2
      rw [rng_c] at eq
      -- behind the range
      have tail : ∀ (p a b : Int) (h6 : zH), mB T h h6 → MT bs n K Sp V En m h6 p → j + 1 < p → h6 466 13 = T + 1 → h6 466 14 = h 466 14 → bSt h6 T S → 0 ≤ a ∧ a ≤ b ∧ b < 65536 → (if K p = 93 then rO (p + 1) (uR S a b) else if K p = 44 then rng K Sp V f p (uR S a b) else rF 1 (Sp p)) = R → zCv G (d + 3) mX12_laysRange [vr 12 466, vi a, vi b] h6 (fun h4 => tX12_readRanges_9 G (d + 4) Q h4) := by
        intro p a b h6 fr6 t6 jp g13 g14 b6 ab eq
        refine sm_laysRange ab hT g13 b6 (fun h7 r7 b7 => ?_)
        have fr7 := mB_t fr6 (mB_rB (Int.le_refl _) r7)
        have t7 := MT_r t6 r7
        have u13 : h7 466 13 = T + 1 := by rw [r7.1 466 (by decide), g13]
        have u14 : h7 466 14 = h 466 14 := by rw [r7.1 466 (by decide), g14]
        refine bX12_readRanges_9 (sm_passes ts t7 (by decide) (fun e44 h8 f8 t8 => ⟨fun z => (by cases z), fun _ => ?_⟩) (fun n44 => ⟨fun _ => sm_must (T := T) ts t7 (by decide) (fun e93 h8 f8 t8 => ?_) (fun n93 h8 g1 g2 g3 => ?_), fun z => (by cases z)⟩))
        · rw [if_neg (by omega), if_pos e44] at eq
          exact ih p _ h8 (by omega) (Or.inr e44) (by omega) (mB_t fr7 (mB_n f8)) t8 (by rw [f8.2 13 (by decide) (by decide), u13]) (by rw [f8.2 14 (by decide) (by decide), u14]) (bSt_fr (fun w _ _ => by rw [f8.1 468 (by decide)]) b7) eq
        · rw [if_pos e93] at eq
          rw [← eq] at kC
          exact kC rfl h8 (mB_t fr7 (mB_n f8)) t8 (by show i < p + 1; omega) (by rw [f8.2 13 (by decide) (by decide), u13]) (by rw [f8.2 14 (by decide) (by decide), u14]) (bSt_fr (fun w _ _ => by rw [f8.1 468 (by decide)]) b7)
        · rw [if_neg n93, if_neg n44] at eq
          rw [← eq] at kF
          exact kF (show ¬ (1 : Int) = 0 by decide) h8 (MF_t fr7 g3) (by rw [g2 13 (by decide) (by decide) (by decide), u13])
      refine eX12_readRange (bX12_readRange_0 (sm_whole (T := T) (by decide) ts t1 (fun e3 v0 v1 h2 f2 t2 => ?_) (fun w hw h2 g1 g2 g3 => ?_)))
      · rw [if_neg (show ¬ ¬ K (j + 1) = 3 from fun z => z e3), if_neg (by omega)] at eq
        rw [show j + 1 + 1 = j + 2 by omega] at t2
        have fr2 := mB_t fr (mB_n f2)
        have u13 : h2 466 13 = T + 1 := by rw [f2.2 13 (by decide) (by decide), e13]
        have u14 : h2 466 14 = h 466 14 := by rw [f2.2 14 (by decide) (by decide), e14]
        have b2 : bSt h2 T S := bSt_fr (fun w _ _ => by rw [f2.1 468 (by decide)]) b1
        have q := MT_k ts t2
        rw [t2.1]
        refine ⟨⟨by decide, by decide⟩, fun z => absurd rfl z, fun _ => ⟨⟨by omega, by omega⟩, fun n4 => ⟨⟨by decide, by decide⟩, fun z => absurd rfl z, fun _ => ?_⟩, fun e4 => ?_⟩⟩
        · rw [if_neg (show ¬ K (j + 2) = 4 by omega)] at eq
          exact tail (j + 2) _ _ h2 fr2 t2 (by omega) u13 u14 b2 (by omega) (by rw [show j + 2 + 1 = j + 3 by omega]; exact eq)
        · rw [if_pos (show K (j + 2) = 4 by omega)] at eq
          refine sm_nextT ts t2 (by omega) (by omega) (fun h8 f8 _ t8 => ?_)
          rw [show j + 2 + 1 = j + 3 by omega] at t8
          have fr8 := mB_t fr2 (mB_n f8)
          have w13 : h8 466 13 = T + 1 := by rw [f8.2 13 (by decide) (by decide), u13]
          have w14 : h8 466 14 = h 466 14 := by rw [f8.2 14 (by decide) (by decide), u14]
          have b8 : bSt h8 T S := bSt_fr (fun w _ _ => by rw [f8.1 468 (by decide)]) b2
          refine sm_whole (T := T) (by omega) ts t8 (fun e33 v30 v31 h10 f10 t10 => ?_) (fun w hw h10 g1 g2 g3 => ?_)
          · rw [if_neg (show ¬ ¬ K (j + 3) = 3 from fun z => z e33), if_neg (by omega)] at eq
            rw [show j + 3 + 1 = j + 4 by omega] at t10
            rw [t10.1]
            refine ⟨⟨by decide, by decide⟩, fun z => absurd rfl z, fun _ => tail (j + 4) _ _ h10 (mB_t fr8 (mB_n f10)) t10 (by omega) (by rw [f10.2 13 (by decide) (by decide), w13]) (by rw [f10.2 14 (by decide) (by decide), w14]) (bSt_fr (fun w _ _ => by rw [f10.1 468 (by decide)]) b8) (by omega) (by rw [show j + 4 + 1 = j + 5 by omega]; exact eq)⟩
          · have hf := FS_n g3.2
            refine ⟨⟨by omega, by omega⟩, fun _ => fault h10 w (Sp (j + 3)) (mB_t fr8 g3.1) g3.2 (by rw [g2 13 (by decide) (by decide) (by decide), w13]) ?_, fun z => absurd z (by omega)⟩
            rcases hw with ⟨hw, w1⟩ | ⟨hw, w1, w2⟩
            · rw [if_pos hw] at eq
              rw [w1]
              exact eq
            · rw [if_neg (show ¬ ¬ K (j + 3) = 3 from fun z => z hw), if_pos (by omega)] at eq
              rw [w1]
              exact eq
      · have hf := FS_n g3.2
        have fin := fault h2 w (Sp (j + 1)) (mB_t fr g3.1) g3.2 (by rw [g2 13 (by decide) (by decide) (by decide), e13]) (by
          rcases hw with ⟨hw, w1⟩ | ⟨hw, w1, w2⟩
          · rw [if_pos hw] at eq
            rw [w1]
            exact eq
          · have := (tk.2 (j + 1) j0.1 j0.2).2.1 hw
            rw [if_neg (show ¬ ¬ K (j + 1) = 3 from fun z => z hw), if_pos (by omega)] at eq
            rw [w1]
            exact eq)
        exact ⟨⟨by omega, by omega⟩, fun _ => ⟨⟨by omega, by omega⟩, fun _ => fin, fun z => absurd z (by omega)⟩, fun z => absurd z (by omega)⟩
  refine eX12_readRanges (bX12_readRanges_0 (sm_lays tb_all0 hT h13 (fun h1 r1 b1 => ?_)))
  refine go f i (fun _ => false) _ mf (Or.inl k9) (by omega) (mB_t (mB_rB (Int.le_refl _) r1) mB_13) (MT_fr t (fun j p q => by rw [zup_ns (by omega), r1.1 466 (by decide)]) (by rw [zup_ne (by decide), r1.1 467 (by decide)])) zup_eq (by rw [zup_ns (by decide), r1.1 466 (by decide)]) (bSt_fr (fun w _ _ => by rw [zup_ne (by decide)]) b1) eR.symm
end MD
