/-! ===== the model's free steps and ends; a line ===== -/
section MO
variable {G : zG} {d : Nat} {h0 h : zH} {bs : Int → Int} {n : Int} {K Sp V En : Int → Int} {m i : Int} {s : St} {L : List nsT} {Q : zH → Prop}
theorem sm_free_f1 {P : Int → zH → Prop} {w x : Int} (f : FS h w x) (k : Q h) : zCi G (d + 60) mX12_readState [vr 12 466] h (fun x7 h8 => zR (h8 466 10) ∧ ((h8 466 10) ≤ 0 → P x7 h8) ∧ (¬ (h8 466 10) ≤ 0 → Q h8)) :=
  sm_readState_f (d := d + 57) f (by
    have hf := FS_n f
    exact ⟨⟨by omega, by omega⟩, fun z => absurd z (by omega), fun _ => k⟩)
theorem sm_free_f {P : Int → Int → zH → Prop} {w x : Int} (f : FS h w x) (k : Q h) : zCv G (d + 60) mX12_next [vr 12 466] h (fun h4 => zCi G (d + 60) mX12_readState [vr 12 466] h4 (fun x5 h6 => zCi G (d + 60) mX12_readState [vr 12 466] h6 (fun x7 h8 => zR (h8 466 10) ∧ ((h8 466 10) ≤ 0 → P x5 x7 h8) ∧ (¬ (h8 466 10) ≤ 0 → Q h8)))) :=
  sm_next_f (d := d + 58) (FS_n f) (sm_readState_f (d := d + 57) f (sm_free_f1 (P := P 0) f k))
theorem sm_lineR (ts : tkS bs n K Sp V En m) (c : MLs bs n K Sp V En m h0 h i s) (k8 : K i = 8) (kF : ¬ (lnR K Sp V i s).1 = 0 → ∀ h' : zH, MFL h0 h' (lnR K Sp V i s).1 (lnR K Sp V i s).2.1 → Q h') (kC : (lnR K Sp V i s).1 = 0 → ∀ h' : zH, MLs bs n K Sp V En m h0 h' (lnR K Sp V i s).2.2.1 (lnR K Sp V i s).2.2.2 → i < (lnR K Sp V i s).2.2.1 → Q h') : zCv G (d + 61) mX12_readFree [vr 12 466] h Q := by
  have tk := tkS_TK ts
  have i0 := c.2.1.2.2.2
  have o := c.2.2.2.2.2
  have O3 := o.2.2.1
  have im : i + 1 < m := ((tk.2 i i0.1 i0.2).2.2.2).mpr (by omega)
  have okk := lnR_ok (Sp := Sp) (s := s) tk ⟨i0.1, im⟩ (fun k3 => by have := st_lt tk (j := i + 1) ⟨by omega, im⟩ k3; omega) o
  have lF : ∀ x : Lr, lnR K Sp V i s = x → (¬ x.1 = 0 → ∀ h' : zH, MFL h0 h' x.1 x.2.1 → Q h') := fun x e => by rw [← e]; exact kF
  unfold lnR at lF
  refine eX12_readFree (bX12_readFree_0 (sm_latest (d := d + 58) c (fun bt => ?_) (fun bf h2 mf tb => ?_)))
  rotate_left
  · have hf := FS_n mf.2
    rw [if_pos bf] at lF
    exact ⟨⟨by omega, by omega⟩, fun _ => sm_free_f mf.2 (lF _ rfl (show ¬ (7 : Int) = 0 by decide) h2 mf), fun z => absurd z (by omega)⟩
  have c1 : ¬ s.2.1 = false := by rw [bt]; decide
  have mx := c.2.2.2.2.1.2 bt
  have po := o.2.2.2.2 bt
  have L8 := po.2.2.2.1
  rw [if_neg c1] at lF
  rw [c.2.1.1, mx.1.2.2.2]
  refine ⟨⟨by decide, by decide⟩, fun z => absurd rfl z, fun _ => ⟨by omega, ⟨by omega, by omega⟩, fun l8 => ?_, fun e8 => sm_wrongL c (by decide) (fun h2 mf tb _ => ?_)⟩⟩
  rotate_left
  · rw [if_pos (show 8 ≤ (s.2.2.2.2.2.2.length : Int) by omega)] at lF
    exact sm_free_f mf.2 (lF _ rfl (show ¬ (5 : Int) = 0 by decide) h2 mf)
  rw [if_neg (show ¬ 8 ≤ (s.2.2.2.2.2.2.length : Int) by omega)] at lF
  refine sm_nextL (d := d + 58) ts c (by omega) (by omega) (fun h2 c2 => sm_readState (d := d + 57) ts c2 bt (fun e1 k1 h4 c4 => ?_) (fun n1 h3 mf tb => ?_))
  rotate_left
  · rw [if_pos n1] at lF
    exact sm_free_f1 mf.2 (lF _ rfl n1 h3 mf)
  rw [if_neg (show ¬ ¬ _ from fun z => z e1)] at lF
  rw [show i + 1 + 1 = i + 2 by omega] at c4
  refine sm_readState (d := d + 57) ts c4 bt (fun e2 k2 h6 c6 => ?_) (fun n2 h3 mf tb => ?_)
  rotate_left
  · rw [if_pos n2] at lF
    have hf := FS_n mf.2
    exact ⟨⟨by omega, by omega⟩, fun z => absurd z (by omega), fun _ => lF _ rfl n2 h3 mf⟩
  rw [show i + 2 + 1 = i + 3 by omega] at c6
  have L0 : (lnR K Sp V i s).1 = 0 := by
    unfold lnR
    rw [if_neg c1, if_neg (show ¬ 8 ≤ (s.2.2.2.2.2.2.length : Int) by omega), if_neg (show ¬ ¬ _ from fun z => z e1), if_neg (show ¬ ¬ _ from fun z => z e2)]
  obtain ⟨o1, -, -, -, -, o5⟩ := okk L0
  have kC := kC L0
  rw [o5] at kC o1
  have mx6 := c6.2.2.2.2.1.2 bt
  have e477 := mx6.1.2.2.2
  obtain ⟨J, eJ⟩ : ∃ J : Int, J = s.2.2.1.length := ⟨_, rfl⟩
  obtain ⟨E, eE⟩ : ∃ E : Int, E = s.2.2.2.2.2.2.length := ⟨_, rfl⟩
  rw [← eJ, ← eE] at e477
  rw [← eJ, c6.2.1.1, e477]
  refine ⟨⟨by decide, by decide⟩, fun _ => ⟨by omega, by omega, by omega, by omega, by omega, by omega, ?_⟩, fun z => absurd (by decide) z⟩
  obtain ⟨h9, e9⟩ : ∃ h9, h9 = zup (zup (zup h6 483 (J * 8 + E) (V (i + 1))) 484 (J * 8 + E) (V (i + 2))) 477 J (E + 1) := ⟨_, rfl⟩
  rw [← e9]
  have W : ∀ a, ¬ a = 477 → ¬ a = 483 → ¬ a = 484 → h9 a = h6 a := fun a p q r => by rw [e9, zup_ne p, zup_ne r, zup_ne q]
  have w466 := W 466 (by decide) (by decide) (by decide)
  have r483 : h9 483 = fup (h6 483) (J * 8 + E) (V (i + 1)) := by rw [e9, zup_ne (by decide), zup_ne (by decide), zup_r]
  have r484 : h9 484 = fup (h6 484) (J * 8 + E) (V (i + 2)) := by rw [e9, zup_ne (by decide), zup_r, zup_ne (by decide)]
  have r477 : h9 477 = fup (h6 477) J (E + 1) := by rw [e9, zup_r, zup_ne (by decide), zup_ne (by decide)]
  have tb9 : TBm h9 s.1 := by
    unfold TBm
    rw [w466, W 474 (by decide) (by decide) (by decide), W 471 (by decide) (by decide) (by decide), W 472 (by decide) (by decide) (by decide), W 473 (by decide) (by decide) (by decide)]
    exact c6.2.2.1
  have edg : ∀ (j : Int) (c' : M4), (∀ e : Int, 0 ≤ e → e < c'.2.2.1.length → h6 478 (j * 24 + e) = (gE c'.2.2.1 e).1 ∧ h6 479 (j * 24 + e) = (gE c'.2.2.1 e).2.1 ∧ (0 ≤ h6 480 (j * 24 + e) ∧ h6 480 (j * 24 + e) ≤ 24) ∧ rgs (fun k => h6 481 ((j * 24 + e) * 24 + k)) (fun k => h6 482 ((j * 24 + e) * 24 + k)) 0 (h6 480 (j * 24 + e)) (gE c'.2.2.1 e).2.2) → (∀ e : Int, 0 ≤ e → e < c'.2.2.1.length → h9 478 (j * 24 + e) = (gE c'.2.2.1 e).1 ∧ h9 479 (j * 24 + e) = (gE c'.2.2.1 e).2.1 ∧ (0 ≤ h9 480 (j * 24 + e) ∧ h9 480 (j * 24 + e) ≤ 24) ∧ rgs (fun k => h9 481 ((j * 24 + e) * 24 + k)) (fun k => h9 482 ((j * 24 + e) * 24 + k)) 0 (h9 480 (j * 24 + e)) (gE c'.2.2.1 e).2.2) := fun j c' x => by
    rw [W 478 (by decide) (by decide) (by decide), W 479 (by decide) (by decide) (by decide), W 480 (by decide) (by decide) (by decide), W 481 (by decide) (by decide) (by decide), W 482 (by decide) (by decide) (by decide)]
    exact x
  refine kC h9 ⟨fM_t c6.1 ⟨fun a p q => W a (by omega) (by omega) (by omega), fun j p q r s t u => by rw [w466], fun j p => by rw [W 471 (by decide) (by decide) (by decide)], fun j p => by rw [W 472 (by decide) (by decide) (by decide), W 473 (by decide) (by decide) (by decide)]; exact ⟨rfl, rfl⟩, fun z => by rw [w466]; exact z⟩, MT_fr c6.2.1 (fun j p q => by rw [w466]) (W 467 (by decide) (by decide) (by decide)), tb9, ?_, mMs_up c6.2.2.2.2.1 bt (fun j a b old => ?_) ?_ _ rfl rfl, o1⟩ (by show i < i + 3; omega)
  · show h9 466 35 = cnt (s.1, true, s.2.2.1, _)
    rw [w466, c6.2.2.2.1, cnt_t bt, cnt_t rfl]
  · have po' := o.2.2.2.1 (gM s.2.2.1 j) (by
      unfold gM
      rw [List.getD_eq_getElem?_getD, List.getElem?_eq_getElem (by omega)]
      exact List.getElem_mem _)
    have l8' := po'.2.2.2.1
    obtain ⟨q1, q2, q3⟩ := old
    refine ⟨⟨by rw [W 475 (by decide) (by decide) (by decide)]; exact q1.1, by rw [W 485 (by decide) (by decide) (by decide)]; exact q1.2.1, by rw [W 476 (by decide) (by decide) (by decide)]; exact q1.2.2.1, by rw [r477, fup_ne (by omega)]; exact q1.2.2.2⟩, edg j _ q2, fun e a' b' => ?_⟩
    rw [r483, r484, fup_ne (by omega), fup_ne (by omega)]
    exact q3 e a' b'
  · obtain ⟨q1, q2, q3⟩ := mx6
    rw [← eJ] at q1 q2 q3 ⊢
    refine ⟨⟨by rw [W 475 (by decide) (by decide) (by decide)]; exact q1.1, by rw [W 485 (by decide) (by decide) (by decide)]; exact q1.2.1, by rw [W 476 (by decide) (by decide) (by decide)]; exact q1.2.2.1, ?_⟩, edg J _ q2, fun e a' b' => ?_⟩
    · show h9 477 J = ((s.2.2.2.2.2.2 ++ [_]).length : Nat)
      rw [r477, fup_eq, len_1]
      omega
    · have b' : e < ((s.2.2.2.2.2.2 ++ [(V (i + 1), V (i + 2))]).length : Nat) := b'
      rw [len_1] at b'
      show h9 483 (J * 8 + e) = (gF (s.2.2.2.2.2.2 ++ [_]) e).1 ∧ h9 484 (J * 8 + e) = (gF (s.2.2.2.2.2.2 ++ [_]) e).2
      by_cases z : e = E
      · rw [gF_r (show e = (s.2.2.2.2.2.2.length : Int) by omega), z, r483, r484, fup_eq, fup_eq]
        exact ⟨rfl, rfl⟩
      · rw [gF_l a' (by omega), r483, r484, fup_ne (by omega), fup_ne (by omega)]
        exact q3 e a' (by omega)
theorem sm_lineD (ts : tkS bs n K Sp V En m) (c : MLs bs n K Sp V En m h0 h i s) (k9 : K i = 9) (kF : ¬ (lnD K Sp V i s).1 = 0 → ∀ h' : zH, MFL h0 h' (lnD K Sp V i s).1 (lnD K Sp V i s).2.1 → Q h') (kC : (lnD K Sp V i s).1 = 0 → ∀ h' : zH, MLs bs n K Sp V En m h0 h' (lnD K Sp V i s).2.2.1 (lnD K Sp V i s).2.2.2 → i < (lnD K Sp V i s).2.2.1 → Q h') : zCv G (d + 61) mX12_readEnd [vr 12 466] h Q := by
  have tk := tkS_TK ts
  have i0 := c.2.1.2.2.2
  have o := c.2.2.2.2.2
  have O3 := o.2.2.1
  have im : i + 1 < m := ((tk.2 i i0.1 i0.2).2.2.2).mpr (by omega)
  have okk := lnD_ok (Sp := Sp) (s := s) tk ⟨i0.1, im⟩ o
  have lF : ∀ x : Lr, lnD K Sp V i s = x → (¬ x.1 = 0 → ∀ h' : zH, MFL h0 h' x.1 x.2.1 → Q h') := fun x e => by rw [← e]; exact kF
  unfold lnD at lF
  have fl : ∀ (h6 : zH) (w x : Int) (P : zH → Prop), MFL h0 h6 w x → Q h6 → zCv G (d + 60) mX12_next [vr 12 466] h6 (fun h8 => zR (h8 466 10) ∧ (¬ (h8 466 10) = 0 → Q h8) ∧ ((h8 466 10) = 0 → P h8)) := fun h6 w x P mf q => by
    have hf := FS_n mf.2
    exact sm_next_f (d := d + 58) hf ⟨⟨by omega, by omega⟩, fun _ => q, fun z => absurd z (by omega)⟩
  refine eX12_readEnd (bX12_readEnd_0 (sm_latest (d := d + 58) c (fun bt => ?_) (fun bf h2 mf tb => ?_)))
  rotate_left
  · have hf := FS_n mf.2
    rw [if_pos bf] at lF
    exact sm_next_f (d := d + 58) hf (sm_state_f (d := d + 58) mf.2 ⟨⟨by omega, by omega⟩, fun _ => fl h2 _ _ _ mf (lF _ rfl (show ¬ (7 : Int) = 0 by decide) h2 mf), fun z => absurd z (by omega)⟩)
  have c1 : ¬ s.2.1 = false := by rw [bt]; decide
  rw [if_neg c1] at lF
  refine sm_nextL (d := d + 58) ts c (by omega) (by omega) (fun h2 c2 => sm_state (d := d + 58) ts c2 bt (fun e1 k1 => ?_) (fun n1 h3 mf tb => ?_))
  rotate_left
  · rw [if_pos n1] at lF
    have hf := FS_n mf.2
    exact ⟨⟨by omega, by omega⟩, fun _ => fl h3 _ _ _ mf (lF _ rfl n1 h3 mf), fun z => absurd z (by omega)⟩
  rw [if_neg (show ¬ ¬ _ from fun z => z e1)] at lF
  have mx2 := c2.2.2.2.2.1.2 bt
  have w1 := ln_V tk (show 0 ≤ i + 1 by omega) im k1
  have st := stt_0 e1
  have n12 := (o.2.2.2.2 bt).1
  rw [c2.2.1.1, mx2.1.2.1]
  refine ⟨⟨by decide, by decide⟩, fun z => absurd rfl z, fun _ => ⟨by omega, sm_bit (by omega) ⟨fun b0 => ?_, fun b1 => sm_wrongL c2 (by decide) (fun h3 mf tb _ => ?_)⟩⟩⟩
  rotate_left
  · rw [if_pos b1] at lF
    exact fl h3 _ _ _ mf (lF _ rfl (show ¬ (3 : Int) = 0 by decide) h3 mf)
  refine sm_nextL (d := d + 58) ts c2 (by omega) (by omega) (fun h4 c4 => ?_)
  rw [show i + 1 + 1 = i + 2 by omega] at c4
  have L0 : (lnD K Sp V i s).1 = 0 := by
    unfold lnD
    rw [if_neg c1, if_neg (show ¬ ¬ _ from fun z => z e1), if_neg (by rw [b0]; decide)]
  obtain ⟨o1, -, -, -, o5⟩ := okk L0
  have kC := kC L0
  rw [o5] at kC o1
  have mx4 := c4.2.2.2.2.1.2 bt
  obtain ⟨J, eJ⟩ : ∃ J : Int, J = s.2.2.1.length := ⟨_, rfl⟩
  rw [c4.2.1.1, mx4.1.2.1, ← eJ]
  refine ⟨⟨by decide, by decide⟩, fun z => absurd rfl z, fun _ => ⟨by omega, by omega, ?_⟩⟩
  obtain ⟨h9, e9⟩ : ∃ h9, h9 = zup h4 485 J (zlor s.2.2.2.2.1 (zlshl 1 (V (i + 1)))) := ⟨_, rfl⟩
  rw [← e9]
  have W : ∀ a, ¬ a = 485 → h9 a = h4 a := fun a p => by rw [e9, zup_ne p]
  have w466 := W 466 (by decide)
  have r485 : h9 485 = fup (h4 485) J (zlor s.2.2.2.2.1 (zlshl 1 (V (i + 1)))) := by rw [e9, zup_r]
  have tb9 : TBm h9 s.1 := by
    unfold TBm
    rw [w466, W 474 (by decide), W 471 (by decide), W 472 (by decide), W 473 (by decide)]
    exact c4.2.2.1
  refine kC h9 ⟨fM_t c4.1 ⟨fun a p q => W a (by omega), fun j p q r s t u => by rw [w466], fun j p => by rw [W 471 (by decide)], fun j p => by rw [W 472 (by decide), W 473 (by decide)]; exact ⟨rfl, rfl⟩, fun z => by rw [w466]; exact z⟩, MT_fr c4.2.1 (fun j p q => by rw [w466]) (W 467 (by decide)), tb9, ?_, mMs_up c4.2.2.2.2.1 bt (fun j a b old => ?_) ?_ _ rfl rfl, o1⟩ (by show i < i + 2; omega)
  · show h9 466 35 = cnt (s.1, true, s.2.2.1, _)
    rw [w466, c4.2.2.2.1, cnt_t bt, cnt_t rfl]
  · unfold mMx at old ⊢
    rw [W 475 (by decide), W 476 (by decide), W 477 (by decide), W 478 (by decide), W 479 (by decide), W 480 (by decide), W 481 (by decide), W 482 (by decide), W 483 (by decide), W 484 (by decide), r485, fup_ne (by omega)]
    exact old
  · rw [← eJ] at mx4 ⊢
    obtain ⟨⟨q1, -, q2, q3⟩, q4, q5⟩ := mx4
    refine ⟨⟨?_, ?_, ?_, ?_⟩, ?_, ?_⟩
    · rw [W 475 (by decide)]
      exact q1
    · rw [r485, fup_eq]
    · rw [W 476 (by decide)]
      exact q2
    · rw [W 477 (by decide)]
      exact q3
    · rw [W 478 (by decide), W 479 (by decide), W 480 (by decide), W 481 (by decide), W 482 (by decide)]
      exact q4
    · rw [W 483 (by decide), W 484 (by decide)]
      exact q5
theorem sm_line (ts : tkS bs n K Sp V En m) (c : MLs bs n K Sp V En m h0 h i s) (kF : ¬ (ln K Sp V i s).1 = 0 → ∀ h' : zH, MFL h0 h' (ln K Sp V i s).1 (ln K Sp V i s).2.1 → Q h') (kC : (ln K Sp V i s).1 = 0 → ∀ h' : zH, MLs bs n K Sp V En m h0 h' (ln K Sp V i s).2.2.1 (ln K Sp V i s).2.2.2 → i < (ln K Sp V i s).2.2.1 → Q h') : zCv G (d + 62) mX12_readLine [vr 12 466] h Q := by
  unfold ln at kF kC
  refine eX12_readLine (bX12_readLine_0 (sm_isWord (d := d + 55) (w := 0) (by decide) ts c.2.1 (fun e => ⟨fun z => (by cases z), fun _ => ?_⟩) (fun n0 => ⟨fun _ => ?_, fun z => (by cases z)⟩)))
  · have e5 : K i = 5 := by omega
    rw [if_pos e5] at kF kC
    exact sm_lineS ts c e5 kF kC
  rw [if_neg (show ¬ K i = 5 by omega)] at kF kC
  refine sm_isWord (d := d + 55) (w := 1) (by decide) ts c.2.1 (fun e => ⟨fun z => (by cases z), fun _ => ?_⟩) (fun n1 => ⟨fun _ => ?_, fun z => (by cases z)⟩)
  · have e6 : K i = 6 := by omega
    rw [if_pos e6] at kF kC
    exact sm_lineM (d := d + 57) ts c e6 kF kC
  rw [if_neg (show ¬ K i = 6 by omega)] at kF kC
  refine sm_isWord (d := d + 55) (w := 2) (by decide) ts c.2.1 (fun e => ⟨fun z => (by cases z), fun _ => ?_⟩) (fun n2 => ⟨fun _ => ?_, fun z => (by cases z)⟩)
  · have e7 : K i = 7 := by omega
    rw [if_pos e7] at kF kC
    exact sm_lineE ts c e7 kF kC
  rw [if_neg (show ¬ K i = 7 by omega)] at kF kC
  refine sm_isWord (d := d + 55) (w := 3) (by decide) ts c.2.1 (fun e => ⟨fun z => (by cases z), fun _ => ?_⟩) (fun n3 => ⟨fun _ => ?_, fun z => (by cases z)⟩)
  · have e8 : K i = 8 := by omega
    rw [if_pos e8] at kF kC
    exact sm_lineR ts c e8 kF kC
  rw [if_neg (show ¬ K i = 8 by omega)] at kF kC
  refine sm_isWord (d := d + 55) (w := 4) (by decide) ts c.2.1 (fun e => ⟨fun z => (by cases z), fun _ => ?_⟩) (fun n4 => ⟨fun _ => ?_, fun z => (by cases z)⟩)
  · have e9 : K i = 9 := by omega
    rw [if_pos e9] at kF kC
    exact sm_lineD ts c e9 kF kC
  rw [if_neg (show ¬ K i = 9 by omega)] at kF kC
  exact sm_wrongL c (by decide) (fun h2 mf _ _ => kF (show ¬ (1 : Int) = 0 by decide) h2 mf)
/-- all lines; behind them the machines are built -/
theorem sm_lines (ts : tkS bs n K Sp V En m) (h35 : 0 ≤ h0 466 35 ∧ h0 466 35 ≤ 4) : ∀ (f : Nat) (i : Int) (s : St) (h : zH), m ≤ i + f → MLs bs n K Sp V En m h0 h i s → ∀ r : Lr, lns K Sp V f i s = r → (¬ r.1 = 0 → ∀ h' : zH, MFL h0 h' r.1 r.2.1 → Q h') → (r.1 = 0 → ∀ h' : zH, MLs bs n K Sp V En m h0 h' r.2.2.1 r.2.2.2 → K r.2.2.1 = 0 → r.2.2.2.2.1 = true → tX12_readAll_48 G (d + 62) Q 0 h') → zCv G (d + 62) mX12_readLine [vr 12 466] h (fun h2 => tX12_readAll_4 G (d + 62) Q h2) := by
  -- behind a fault
  have fl48 : ∀ (h2 : zH) (w x : Int), MFL h0 h2 w x → Q h2 → tX12_readAll_48 G (d + 62) Q 0 h2 := fun h2 w x mf q => by
    have hf := FS_n mf.2
    have h3 := mf.1.2.2.2.2 h35
    exact bX12_readAll_48 ⟨⟨by decide, by decide⟩, ⟨by omega, by omega⟩, fun _ => q, fun _ => ⟨⟨by omega, by omega⟩, fun _ => q, fun z => absurd z (by omega)⟩⟩
  have fl35 : ∀ (h2 : zH) (w x : Int), MFL h0 h2 w x → Q h2 → zR (h2 466 35) ∧ (¬ (h2 466 35) = 0 → tX12_readAll_48 G (d + 62) Q 0 h2) ∧ ((h2 466 35) = 0 → zCv G (d + 62) mX12_wrong [vr 12 466, vi 7] h2 (fun h8 => tX12_readAll_48 G (d + 62) Q 0 h8)) := fun h2 w x mf q => by
    have hf := FS_n mf.2
    have h3 := mf.1.2.2.2.2 h35
    exact ⟨⟨by omega, by omega⟩, fun _ => fl48 h2 w x mf q, fun _ => sm_wrong_f (d := d + 61) hf (fl48 h2 w x mf q)⟩
  have fl4 : ∀ (h2 : zH) (w x : Int), MFL h0 h2 w x → Q h2 → tX12_readAll_4 G (d + 62) Q h2 := fun h2 w x mf q => by
    have hf := FS_n mf.2
    refine bX12_readAll_4 (sm_passes_f (d := d + 61) hf ⟨fun _ => ?_, fun z => (by cases z)⟩)
    rw [mf.2.2.2.1]
    exact ⟨⟨by decide, by decide⟩, fun z => absurd z (by decide), fun _ => sm_wrong_f (d := d + 61) hf (fl35 h2 w x mf q)⟩
  intro f
  induction f with
  | zero =>
    intro i s h mf c
    exact absurd c.2.1.2.2.2.2 (by omega)
  | succ f ih =>
    intro i s h mf c r er kF kC
    obtain ⟨q, eq⟩ : ∃ q, ln K Sp V i s = q := ⟨_, rfl⟩
    rw [lns_c q eq] at er
    refine sm_line ts c (fun n0 h2 mf2 => ?_) (fun e0 h2 c2 ip => ?_)
    · rw [eq] at n0 mf2
      rw [if_pos n0] at er
      rw [← er] at kF
      exact fl4 h2 _ _ mf2 (kF n0 h2 mf2)
    · rw [eq] at e0 c2 ip
      rw [if_neg (show ¬ ¬ _ from fun z => z e0)] at er
      have o := c2.2.2.2.2.2
      have cr := cnt_rg o
      have kk := MT_k ts c2.2.1
      refine bX12_readAll_4 (sm_passes (d := d + 59) ts c2.2.1 (by decide) (fun e59 h3 f3 t3 => ⟨fun z => (by cases z), fun _ => ?_⟩) (fun n59 => ⟨fun _ => ?_, fun z => (by cases z)⟩))
      · rw [if_pos e59] at er
        exact ih (q.2.2.1 + 1) q.2.2.2 h3 (by omega) (MLs_R c2 (mR_n f3) t3) r er kF kC
      rw [if_neg n59] at er
      rw [c2.2.2.2.1]
      refine ⟨⟨by omega, by omega⟩, fun e1 => ?_, fun n1 => sm_wrongL (d := d + 61) c2 (by decide) (fun h3 mf3 _ _ => ?_)⟩
      rotate_left
      · rw [if_pos (show ¬ K q.2.2.1 = 0 by omega)] at er
        rw [← er] at kF
        exact fl35 h3 _ _ mf3 (kF (show ¬ (1 : Int) = 0 by decide) h3 mf3)
      have k0 : K q.2.2.1 = 0 := by omega
      rw [if_neg (show ¬ ¬ _ from fun z => z k0)] at er
      by_cases bf : q.2.2.2.2.1 = false
      · rw [if_pos bf] at er
        rw [cnt_f bf]
        refine ⟨⟨by decide, by decide⟩, fun z => absurd rfl z, fun _ => sm_wrongL (d := d + 61) c2 (by decide) (fun h3 mf3 _ _ => ?_)⟩
        rw [← er] at kF
        exact fl48 h3 _ _ mf3 (kF (show ¬ (7 : Int) = 0 by decide) h3 mf3)
      rw [if_neg bf] at er
      have bt := bt_of bf
      rw [cnt_t bt]
      subst er
      exact ⟨⟨by have := o.2.2.1; omega, by have := o.2.2.1; omega⟩, fun _ => kC e0 h2 c2 k0 bt, fun z => absurd z (by omega)⟩
end MO
