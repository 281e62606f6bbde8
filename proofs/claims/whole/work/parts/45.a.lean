/-! ===== the model's lines ===== -/
def fM (h0 h : zH) : Prop := (∀ a, ¬ a = 466 → ¬ (468 ≤ a ∧ a ≤ 485) → h a = h0 a) ∧ (∀ j, ¬ (6 ≤ j ∧ j ≤ 11) → ¬ j = 13 → ¬ j = 14 → ¬ j = 17 → ¬ j = 23 → ¬ j = 35 → h 466 j = h0 466 j) ∧ (∀ j, j < 12 → h 471 j = h0 471 j) ∧ (∀ j, j < 288 → h 472 j = h0 472 j ∧ h 473 j = h0 473 j) ∧ (0 ≤ h0 466 35 ∧ h0 466 35 ≤ 4 → 0 ≤ h 466 35 ∧ h 466 35 ≤ 4)
theorem fM_r (h : zH) : fM h h := ⟨fun _ _ _ => rfl, fun _ _ _ _ _ _ _ => rfl, fun _ _ => rfl, fun _ _ => ⟨rfl, rfl⟩, fun z => z⟩
theorem fM_t {h1 h2 h3 : zH} (a : fM h1 h2) (b : fM h2 h3) : fM h1 h3 := ⟨fun x p q => (b.1 x p q).trans (a.1 x p q), fun j p q r s t u => (b.2.1 j p q r s t u).trans (a.2.1 j p q r s t u), fun j p => (b.2.2.1 j p).trans (a.2.2.1 j p), fun j p => ⟨(b.2.2.2.1 j p).1.trans (a.2.2.2.1 j p).1, (b.2.2.2.1 j p).2.trans (a.2.2.2.1 j p).2⟩, fun z => b.2.2.2.2 (a.2.2.2.2 z)⟩
theorem fM_R {h h' : zH} (f : mR h h') : fM h h' := ⟨fun a p q => f.1 a p (by omega), fun j p q r s _ _ => f.2 j p q r s, fun j _ => by rw [f.1 471 (by decide) (by decide)], fun j _ => by rw [f.1 472 (by decide) (by decide), f.1 473 (by decide) (by decide)]; exact ⟨rfl, rfl⟩, fun z => by rw [f.2 35 (by decide) (by decide) (by decide) (by decide)]; exact z⟩
theorem mR_n {h h' : zH} (f : nF h h') : mR h h' := mR_B (T := 0) (mB_n f)
def mMx (h : zH) (j : Int) (c : M4) : Prop := (h 475 j = c.1 ∧ h 485 j = c.2.1 ∧ h 476 j = c.2.2.1.length ∧ h 477 j = c.2.2.2.length) ∧ (∀ e : Int, 0 ≤ e → e < c.2.2.1.length → h 478 (j * 24 + e) = (gE c.2.2.1 e).1 ∧ h 479 (j * 24 + e) = (gE c.2.2.1 e).2.1 ∧ (0 ≤ h 480 (j * 24 + e) ∧ h 480 (j * 24 + e) ≤ 24) ∧ rgs (fun k => h 481 ((j * 24 + e) * 24 + k)) (fun k => h 482 ((j * 24 + e) * 24 + k)) 0 (h 480 (j * 24 + e)) (gE c.2.2.1 e).2.2) ∧ ∀ q : Int, 0 ≤ q → q < c.2.2.2.length → h 483 (j * 8 + q) = (gF c.2.2.2 q).1 ∧ h 484 (j * 8 + q) = (gF c.2.2.2 q).2
theorem mMx_fr {h h' : zH} {j : Int} {c : M4} (e : ∀ a, 475 ≤ a → a ≤ 485 → h' a = h a) (k : mMx h j c) : mMx h' j c := by
  unfold mMx
  rw [e 475 (by decide) (by decide), e 485 (by decide) (by decide), e 476 (by decide) (by decide), e 477 (by decide) (by decide), e 478 (by decide) (by decide), e 479 (by decide) (by decide), e 480 (by decide) (by decide), e 481 (by decide) (by decide), e 482 (by decide) (by decide), e 483 (by decide) (by decide), e 484 (by decide) (by decide)]
  exact k
/-- the model's machines: the older ones and the latest -/
def mMs (h : zH) (s : St) : Prop := (∀ j : Int, 0 ≤ j → j < s.2.2.1.length → mMx h j (gM s.2.2.1 j)) ∧ (s.2.1 = true → mMx h s.2.2.1.length s.2.2.2)
theorem mMs_fr {h h' : zH} {s : St} (e : ∀ a, 475 ≤ a → a ≤ 485 → h' a = h a) (k : mMs h s) : mMs h' s := ⟨fun j a b => mMx_fr e (k.1 j a b), fun b => mMx_fr e (k.2 b)⟩
def MLs (bs : Int → Int) (n : Int) (K Sp V En : Int → Int) (m : Int) (h0 h : zH) (i : Int) (s : St) : Prop := fM h0 h ∧ MT bs n K Sp V En m h i ∧ TBm h s.1 ∧ h 466 35 = cnt s ∧ mMs h s ∧ sOK s
def MFL (h0 h' : zH) (n s : Int) : Prop := fM h0 h' ∧ FS h' n s
theorem TBm_R {h h' : zH} {L : List nsT} (f : mR h h') (t : TBm h L) : TBm h' L := by
  unfold TBm
  rw [f.2 23 (by decide) (by decide) (by decide) (by decide), f.1 474 (by decide) (by decide), f.1 471 (by decide) (by decide), f.1 472 (by decide) (by decide), f.1 473 (by decide) (by decide)]
  exact t
theorem zl47 : zln 471 = 24 ∧ zln 472 = 576 ∧ zln 473 = 576 ∧ zln 480 = 96 ∧ zln 481 = 2304 ∧ zln 482 = 2304 := by decide +kernel
section ML
variable {G : zG} {d : Nat} {h0 h : zH} {bs : Int → Int} {n : Int} {K Sp V En : Int → Int} {m i : Int} {s : St} {L : List nsT} {Q : zH → Prop}
theorem MLs_R {h' : zH} {i' : Int} (c : MLs bs n K Sp V En m h0 h i s) (f : mR h h') (t : MT bs n K Sp V En m h' i') : MLs bs n K Sp V En m h0 h' i' s :=
  ⟨fM_t c.1 (fM_R f), t, TBm_R f c.2.2.1, by rw [f.2 35 (by decide) (by decide) (by decide) (by decide), c.2.2.2.1], mMs_fr (fun a p q => f.1 a (by omega) (by omega)) c.2.2.2.2.1, c.2.2.2.2.2⟩
theorem sm_nextL (ts : tkS bs n K Sp V En m) (c : MLs bs n K Sp V En m h0 h i s) (k0 : ¬ K i = 0) (k1 : ¬ K i = 1) (k : ∀ h' : zH, MLs bs n K Sp V En m h0 h' (i + 1) s → Q h') : zCv G (d + 2) mX12_next [vr 12 466] h Q :=
  sm_nextT ts c.2.1 k0 k1 (fun h' f _ t => k h' (MLs_R c (mR_n f) t))
theorem sm_wrongL {w : Int} (c : MLs bs n K Sp V En m h0 h i s) (hw : 0 < w ∧ w ≤ 8) (k : ∀ h' : zH, MFL h0 h' w (Sp i) → TBm h' s.1 → h' 466 35 = h 466 35 → Q h') : zCv G (d + 1) mX12_wrong [vr 12 466, vi w] h Q :=
  sm_wrongT (T := 0) c.2.1 hw (fun h' g1 g2 g3 => k h' ⟨fM_t c.1 (fM_R (mR_B g3.1)), g3.2⟩ (TBm_B g3.1 c.2.2.1) (g2 35 (by decide) (by decide) (by decide)))
theorem sm_readSet_f {w x : Int} (tb : TBm h L) (f : FS h w x) (k : ∀ h' : zH, mR h h' → FS h' w x → Q h') : zCv G (d + 6) mX12_readSet [vr 12 466] h Q := by
  refine eX12_readSet (bX12_readSet_0 ?_)
  obtain ⟨h1, e1⟩ : ∃ h1, h1 = zup (zup (zup h 466 13 0) 466 14 0) 466 17 0 := ⟨_, rfl⟩
  rw [← e1]
  have o1 : ∀ a, ¬ a = 466 → h1 a = h a := fun a p => by rw [e1, zup_ne p, zup_ne p, zup_ne p]
  have o2 : ∀ j, ¬ j = 13 → ¬ j = 14 → ¬ j = 17 → h1 466 j = h 466 j := fun j p q r => by rw [e1, zup_ns r, zup_ns q, zup_ns p]
  have fr1 : mR h h1 := ⟨fun a p _ => o1 a p, fun j _ q r s => o2 j q r s⟩
  refine sm_readBody_f (T := 0) (TBm_R fr1 tb) (FS_fr (fun j p q => o2 j (by omega) (by omega) (by omega)) f) (by decide) (by rw [e1, zup_ns (by decide), zup_ns (by decide), zup_eq]) (fun h2 mf _ => ?_)
  have hf := FS_n mf.2
  exact ⟨⟨by omega, by omega⟩, fun z => absurd z (by omega), fun _ => k h2 (mR_t fr1 (mR_B mf.1)) mf.2⟩
theorem sm_keepsRanges {at_ A B C c : Int} (hA : ¬ A = 466 ∧ ¬ A = 469 ∧ ¬ A = 470 ∧ ¬ A = B ∧ ¬ A = C) (hB : ¬ B = 466 ∧ ¬ B = 469 ∧ ¬ B = 470 ∧ ¬ B = C) (hC : ¬ C = 466 ∧ ¬ C = 469 ∧ ¬ C = 470) (ha : 0 ≤ at_ ∧ at_ < zln A) (hb : at_ * 24 + 24 ≤ zln B ∧ at_ * 24 + 24 ≤ zln C) (hc : h 466 17 = c) (c0 : 0 ≤ c ∧ c ≤ 24) (k : ∀ h' : zH, (∀ a, ¬ a = A → ¬ a = B → ¬ a = C → h' a = h a) → h' A = fup (h A) at_ c → (∀ j, ¬ (at_ * 24 ≤ j ∧ j < at_ * 24 + c) → h' B j = h B j ∧ h' C j = h C j) → (∀ q, 0 ≤ q → q < c → h' B (at_ * 24 + q) = h 469 q ∧ h' C (at_ * 24 + q) = h 470 q) → Q h') : zCv G d mX12_keepsRanges [vr 12 466, vi at_, vr 13 A, vr 13 B, vr 13 C] h Q := by
  have go : ∀ (f : Nat) (q : Int) (h1 : zH), 0 ≤ q → q + f = c → (∀ a, ¬ a = A → ¬ a = B → ¬ a = C → h1 a = h a) → h1 A = fup (h A) at_ c → (∀ j, ¬ (at_ * 24 ≤ j ∧ j < at_ * 24 + q) → h1 B j = h B j ∧ h1 C j = h C j) → (∀ p, 0 ≤ p → p < q → h1 B (at_ * 24 + p) = h 469 p ∧ h1 C (at_ * 24 + p) = h 470 p) → tX12_keepsRanges_10 G d Q at_ B C q h1 := by
    intro f
    induction f with
    | zero =>
      intro q h1 q0 qf g1 g2 g3 g4
      refine bX12_keepsRanges_10 ?_
      rw [g1 466 (by omega) (by omega) (by omega), hc]
      have e : q = c := by omega
      rw [e] at g3 g4
      exact ⟨⟨by omega, by omega⟩, ⟨by omega, by omega⟩, fun _ => k h1 g1 g2 g3 g4, fun z => absurd (by omega) z⟩
    | succ f ih =>
      intro q h1 q0 qf g1 g2 g3 g4
      refine bX12_keepsRanges_10 ?_
      rw [g1 466 (by omega) (by omega) (by omega), hc, g1 469 (by omega) (by omega) (by omega), zup_ne (show ¬ 470 = B by omega), g1 470 (by omega) (by omega) (by omega)]
      refine ⟨⟨by omega, by omega⟩, ⟨by omega, by omega⟩, fun z => absurd z (by omega), fun _ => ⟨by omega, by omega, by omega, by omega, ih (q + 1) _ (by omega) (by omega) (fun a x y z => by rw [zup_ne z, zup_ne y, g1 a x y z]) (by rw [zup_ne (by omega), zup_ne (by omega), g2]) (fun j p => ?_) (fun p p0 p1 => ?_)⟩⟩
      · rw [zup_ne (show ¬ B = C by omega), zup_ns (by omega), zup_ns (by omega), zup_ne (show ¬ C = B by omega)]
        exact g3 j (by omega)
      · rw [zup_ne (show ¬ B = C by omega)]
        by_cases e : p = q
        · rw [e, zup_eq, zup_eq]
          exact ⟨rfl, rfl⟩
        · rw [zup_ns (by omega), zup_ns (by omega), zup_ne (show ¬ C = B by omega)]
          exact g4 p p0 (by omega)
  refine eX12_keepsRanges (bX12_keepsRanges_0 ⟨ha, ?_⟩)
  rw [hc]
  refine go c.toNat 0 _ (by omega) (by omega) (fun a x _ _ => zup_ne x) zup_r (fun j _ => ⟨by rw [zup_ne (by omega)], by rw [zup_ne (by omega)]⟩) (fun p p0 p1 => absurd p1 (by omega))
theorem sm_lineS (ts : tkS bs n K Sp V En m) (c : MLs bs n K Sp V En m h0 h i s) (k5 : K i = 5) (kF : ¬ (lnS K Sp V i s).1 = 0 → ∀ h' : zH, MFL h0 h' (lnS K Sp V i s).1 (lnS K Sp V i s).2.1 → Q h') (kC : (lnS K Sp V i s).1 = 0 → ∀ h' : zH, MLs bs n K Sp V En m h0 h' (lnS K Sp V i s).2.2.1 (lnS K Sp V i s).2.2.2 → i < (lnS K Sp V i s).2.2.1 → Q h') : zCv G (d + 61) mX12_readSetLine [vr 12 466] h Q := by
  have tk := tkS_TK ts
  have i0 := c.2.1.2.2.2
  have o := c.2.2.2.2.2
  have im : i + 1 < m := ((tk.2 i i0.1 i0.2).2.2.2).mpr (by omega)
  have okk := lnS_ok (Sp := Sp) (s := s) tk ⟨i0.1, im⟩ o
  have n12 := o.1.1
  -- behind a fault
  have f50 : ∀ (h2 : zH) (w x : Int), MFL h0 h2 w x → TBm h2 s.1 → (∀ h' : zH, MFL h0 h' w x → Q h') → tX12_readSetLine_50 G (d + 60) Q h2 := fun h2 w x mf tb kk => by
    have hf := FS_n mf.2
    refine bX12_readSetLine_50 (sm_next_f (d := d + 58) hf (sm_readSet_f (d := d + 54) tb mf.2 (fun h3 fr f3 => ?_)))
    have hf3 := FS_n f3
    exact ⟨⟨by omega, by omega⟩, fun z => absurd z (by omega), fun _ => kk h3 ⟨fM_t mf.1 (fM_R fr), f3⟩⟩
  have f30 : ∀ (h2 : zH) (w x : Int), MFL h0 h2 w x → TBm h2 s.1 → (∀ h' : zH, MFL h0 h' w x → Q h') → tX12_readSetLine_30 G (d + 60) Q h2 := fun h2 w x mf tb kk => by
    have hf := FS_n mf.2
    exact bX12_readSetLine_30 ⟨⟨by omega, by omega⟩, fun _ => f50 h2 w x mf tb kk, fun z => absurd z (by omega)⟩
  have lF : ∀ x : Lr, lnS K Sp V i s = x → (¬ x.1 = 0 → ∀ h' : zH, MFL h0 h' x.1 x.2.1 → Q h') := fun x e => by rw [← e]; exact kF
  unfold lnS at lF
  refine eX12_readSetLine (bX12_readSetLine_0 ?_)
  rw [c.2.2.1.1]
  refine ⟨⟨by omega, by omega⟩, fun l12 => ?_, fun e12 => sm_wrongL c (by decide) (fun h2 mf tb _ => ?_)⟩
  rotate_left
  · rw [if_pos (show 12 ≤ (s.1.length : Int) by omega)] at lF
    have hf := FS_n mf.2
    exact bX12_readSetLine_14 (sm_next_f (d := d + 58) hf (sm_isName_f hf ⟨fun z => (by cases z), fun _ => sm_wrong_f hf (f30 h2 _ _ mf tb (lF _ rfl (show ¬ (5 : Int) = 0 by decide)))⟩))
  rw [if_neg (show ¬ 12 ≤ (s.1.length : Int) by omega)] at lF
  refine bX12_readSetLine_14 (sm_nextL (d := d + 58) ts c (by omega) (by omega) (fun h2 c2 => sm_isName (d := d + 53) ts c2.2.1 (fun e2 => ⟨fun _ => ?_, fun z => (by cases z)⟩) (fun n2 => ⟨fun z => (by cases z), fun _ => sm_wrongL c2 (by decide) (fun h3 mf tb _ => ?_)⟩)))
  rotate_left
  · rw [if_pos n2] at lF
    exact f30 h3 _ _ mf tb (lF _ rfl (show ¬ (1 : Int) = 0 by decide))
  rw [if_neg (show ¬ ¬ _ from fun z => z e2)] at lF
  have q := MT_k ts c2.2.1
  have hv : h2 466 11 = V (i + 1) ∧ 0 ≤ V (i + 1) ∧ V (i + 1) ≤ 34359738368 := by omega
  refine bX12_readSetLine_30 ?_
  rw [c2.2.1.1]
  refine ⟨⟨by decide, by decide⟩, fun z => absurd rfl z, fun _ => sm_named c2.2.2.1 hv.1 ⟨by omega, by omega⟩ (fun no => ⟨zR_m1, fun _ => ?_, fun z => absurd rfl z⟩) (fun j j0 j1 so => ⟨⟨by omega, by omega⟩, fun z => absurd z (by omega), fun _ => sm_wrongL c2 (by decide) (fun h3 mf tb _ => ?_)⟩)⟩
  rotate_left
  · rw [if_pos (show (lkp s.1 (V (i + 1))).isSome = true by rw [so]; rfl)] at lF
    exact f50 h3 _ _ mf tb (lF _ rfl (show ¬ (3 : Int) = 0 by decide))
  rw [if_neg (show ¬ (lkp s.1 (V (i + 1))).isSome = true by rw [no]; decide)] at lF
  refine bX12_readSetLine_50 ?_
  rw [hv.1]
  refine sm_nextL (d := d + 58) ts c2 (by omega) (by omega) (fun h3 c3 => ?_)
  rw [show i + 1 + 1 = i + 2 by omega] at c3
  refine sm_readSet (d := d) ts c3.2.2.1 c3.2.1 (fun n0 h4 mf => ?_) (fun e0 h4 fr t4 ip c24 rg => ?_)
  · rw [if_pos n0] at lF
    have hf := FS_n mf.2
    exact ⟨⟨by omega, by omega⟩, fun z => absurd z (by omega), fun _ => lF _ rfl n0 h4 ⟨fM_t c3.1 (fM_R mf.1), mf.2⟩⟩
  have c4 := MLs_R c3 fr t4
  have L0 : (lnS K Sp V i s).1 = 0 := by
    unfold lnS
    rw [if_neg (show ¬ 12 ≤ (s.1.length : Int) by omega), if_neg (show ¬ ¬ _ from fun z => z e2), if_neg (show ¬ (lkp s.1 (V (i + 1))).isSome = true by rw [no]; decide), if_neg (show ¬ ¬ _ from fun y => y e0)]
  obtain ⟨o1, -, -, -, o5⟩ := okk L0
  have kC := kC L0
  rw [o5] at kC o1
  rw [t4.1, c4.2.2.1.1]
  obtain ⟨z1, z2, z3, -⟩ := zl47
  refine ⟨⟨by decide, by decide⟩, fun _ => sm_keepsRanges (by decide) (by decide) (by decide) (by rw [z1]; omega) (by rw [z2, z3]; omega) rfl c24 (fun h6 g1 g2 g3 g4 => ?_), fun z => absurd (by decide) z⟩
  have e23 : h6 466 23 = s.1.length := by rw [g1 466 (by decide) (by decide) (by decide), c4.2.2.1.1]
  rw [e23]
  refine ⟨by omega, ?_⟩
  obtain ⟨h7, e7⟩ : ∃ h7, h7 = zup (zup h6 474 (s.1.length : Int) (V (i + 1))) 466 23 (s.1.length + 1) := ⟨_, rfl⟩
  rw [← e7]
  have w : ∀ a, ¬ a = 466 → ¬ a = 474 → h7 a = h6 a := fun a p q => by rw [e7, zup_ne p, zup_ne q]
  have w466 : ∀ j, ¬ j = 23 → h7 466 j = h4 466 j := fun j p => by rw [e7, zup_ns p, zup_ne (by decide), g1 466 (by decide) (by decide) (by decide)]
  have W : ∀ a, ¬ a = 466 → ¬ (471 ≤ a ∧ a ≤ 474) → h7 a = h4 a := fun a p q => by rw [w a p (by omega), g1 a (by omega) (by omega) (by omega)]
  refine kC h7 ⟨fM_t c4.1 ⟨fun a p q => W a p (by omega), fun j p q r s t u => w466 j t, fun j p => ?_, fun j p => ?_, fun z => by rw [w466 35 (by decide)]; exact z⟩, MT_fr t4 (fun j p q => w466 j (by omega)) (W 467 (by decide) (by decide)), ⟨?_, ?_, fun j a e => ?_⟩, by rw [w466 35 (by decide), c4.2.2.2.1]; rfl, mMs_fr (fun a p q => W a (by omega) (by omega)) c4.2.2.2.2.1, o1⟩ (by show i < (bd2 K Sp V s.1 (i + 2)).2.2.1; omega)
  · rw [w 471 (by decide) (by decide), g2, fup_ne (by omega)]
  · rw [w 472 (by decide) (by decide), w 473 (by decide) (by decide)]
    exact g3 j (by omega)
  · show h7 466 23 = ((s.1 ++ [_]).length : Nat)
    rw [len_1, e7, zup_eq]
    omega
  · show (((s.1 ++ [_]).length : Nat) : Int) ≤ 12
    rw [len_1]
    omega
  · have e : j < ((s.1 ++ [(V (i + 1), (bd2 K Sp V s.1 (i + 2)).2.2.2)]).length : Nat) := e
    rw [len_1] at e
    show h7 474 j = (gS (s.1 ++ [_]) j).1 ∧ zRL (gS (s.1 ++ [_]) j).1 ∧ (0 ≤ h7 471 (12 + j) ∧ h7 471 (12 + j) ≤ 24) ∧ rgs (fun k => h7 472 ((12 + j) * 24 + k)) (fun k => h7 473 ((12 + j) * 24 + k)) 0 (h7 471 (12 + j)) (gS (s.1 ++ [_]) j).2
    have r471 : h7 471 = fup (h4 471) (12 + (s.1.length : Int)) (h4 466 17) := by rw [w 471 (by decide) (by decide), g2]
    by_cases z : j = s.1.length
    · rw [gS_r z, z, r471, fup_eq, w 472 (by decide) (by decide), w 473 (by decide) (by decide)]
      refine ⟨by rw [e7, zup_ne (by decide), zup_eq], ⟨by show -9223372036854775808 ≤ V (i + 1); omega, by show V (i + 1) < 9223372036854775808; omega⟩, c24, ?_⟩
      obtain ⟨q1, q2, q3⟩ := rg
      refine ⟨fun k a e => ?_, fun k a e => ?_, fun y a e => ?_⟩
      · show 0 ≤ h6 472 _ ∧ h6 472 _ ≤ h6 473 _ ∧ h6 473 _ < 65536
        rw [(g4 k a e).1, (g4 k a e).2]
        exact q1 k a e
      · show h6 473 _ + 1 < h6 472 _
        rw [(g4 k a (by omega)).2, (g4 (k + 1) (by omega) e).1]
        exact q2 k a e
      · rw [q3 y a e]
        constructor
        · rintro ⟨k, k0, k1⟩
          refine ⟨k, k0, ?_⟩
          show h6 472 _ ≤ y ∧ y ≤ h6 473 _
          rw [(g4 k k0.1 k0.2).1, (g4 k k0.1 k0.2).2]
          exact k1
        · rintro ⟨k, k0, k1⟩
          have k1 : h6 472 ((12 + (s.1.length : Int)) * 24 + k) ≤ y ∧ y ≤ h6 473 ((12 + (s.1.length : Int)) * 24 + k) := k1
          rw [(g4 k k0.1 k0.2).1, (g4 k k0.1 k0.2).2] at k1
          exact ⟨k, k0, k1⟩
    · obtain ⟨p1, p2, p3, p4⟩ := c4.2.2.1.2.2 j a (by omega)
      rw [gS_l a (by omega), r471, fup_ne (show ¬ 12 + j = 12 + (s.1.length : Int) by omega)]
      refine ⟨by rw [e7, zup_ne (by decide), zup_ns z, g1 474 (by decide) (by decide) (by decide), p1], p2, p3, ?_⟩
      have e2 : ∀ k, 0 ≤ k → k < h4 471 (12 + j) → h7 472 ((12 + j) * 24 + k) = h4 472 ((12 + j) * 24 + k) ∧ h7 473 ((12 + j) * 24 + k) = h4 473 ((12 + j) * 24 + k) := fun k k0 k1 => by
        rw [w 472 (by decide) (by decide), w 473 (by decide) (by decide)]
        exact g3 _ (by omega)
      obtain ⟨q1, q2, q3⟩ := p4
      refine ⟨fun k a e => ?_, fun k a e => ?_, fun y a e => ?_⟩
      · show 0 ≤ h7 472 _ ∧ h7 472 _ ≤ h7 473 _ ∧ h7 473 _ < 65536
        rw [(e2 k a e).1, (e2 k a e).2]
        exact q1 k a e
      · show h7 473 _ + 1 < h7 472 _
        rw [(e2 k a (by omega)).2, (e2 (k + 1) (by omega) e).1]
        exact q2 k a e
      · rw [q3 y a e]
        constructor
        · rintro ⟨k, k0, k1⟩
          refine ⟨k, k0, ?_⟩
          show h7 472 _ ≤ y ∧ y ≤ h7 473 _
          rw [(e2 k k0.1 k0.2).1, (e2 k k0.1 k0.2).2]
          exact k1
        · rintro ⟨k, k0, k1⟩
          have k1 : h7 472 ((12 + j) * 24 + k) ≤ y ∧ y ≤ h7 473 ((12 + j) * 24 + k) := k1
          rw [(e2 k k0.1 k0.2).1, (e2 k k0.1 k0.2).2] at k1
          exact ⟨k, k0, k1⟩
end ML
