/-! ===== the model's edges, free steps, ends ===== -/
section MN
variable {G : zG} {d : Nat} {h0 h : zH} {bs : Int → Int} {n : Int} {K Sp V En : Int → Int} {m i : Int} {s : St} {L : List nsT} {Q : zH → Prop}
/-- behind a fault, a line of an edge comes to nothing -/
theorem sm_edge_f1 {P : Int → zH → Prop} {w x : Int} (tb : TBm h L) (f : FS h w x) (k : ∀ h' : zH, mR h h' → FS h' w x → Q h') : zCi G (d + 60) mX12_readState [vr 12 466] h (fun x7 h8 => zCv G (d + 60) mX12_readSet [vr 12 466] h8 (fun h10 => zR (h10 466 10) ∧ ((h10 466 10) ≤ 0 → P x7 h10) ∧ (¬ (h10 466 10) ≤ 0 → Q h10))) :=
  sm_readState_f (d := d + 57) f (sm_readSet_f (d := d + 54) tb f (fun h' fr f' => by
    have hf := FS_n f'
    exact ⟨⟨by omega, by omega⟩, fun z => absurd z (by omega), fun _ => k h' fr f'⟩))
theorem sm_edge_f {P : Int → Int → zH → Prop} {w x : Int} (tb : TBm h L) (f : FS h w x) (k : ∀ h' : zH, mR h h' → FS h' w x → Q h') : zCv G (d + 60) mX12_next [vr 12 466] h (fun h4 => zCi G (d + 60) mX12_readState [vr 12 466] h4 (fun x5 h6 => zCi G (d + 60) mX12_readState [vr 12 466] h6 (fun x7 h8 => zCv G (d + 60) mX12_readSet [vr 12 466] h8 (fun h10 => zR (h10 466 10) ∧ ((h10 466 10) ≤ 0 → P x5 x7 h10) ∧ (¬ (h10 466 10) ≤ 0 → Q h10))))) :=
  sm_next_f (d := d + 58) (FS_n f) (sm_readState_f (d := d + 57) f (sm_edge_f1 (P := P 0) tb f k))
/-- the latest machine's line is written -/
theorem mMs_up {h' : zH} {c' : M4} (k : mMs h s) (bt : s.2.1 = true) (old : ∀ j : Int, 0 ≤ j → j < s.2.2.1.length → mMx h j (gM s.2.2.1 j) → mMx h' j (gM s.2.2.1 j)) (new : mMx h' s.2.2.1.length c') (s' : St) (e1 : s'.2.2.1 = s.2.2.1) (e2 : s'.2.2.2 = c') : mMs h' s' := by
  unfold mMs
  rw [e1, e2]
  exact ⟨fun j a b => old j a b (k.1 j a b), fun _ => new⟩
theorem sm_lineE (ts : tkS bs n K Sp V En m) (c : MLs bs n K Sp V En m h0 h i s) (k7 : K i = 7) (kF : ¬ (lnE K Sp V i s).1 = 0 → ∀ h' : zH, MFL h0 h' (lnE K Sp V i s).1 (lnE K Sp V i s).2.1 → Q h') (kC : (lnE K Sp V i s).1 = 0 → ∀ h' : zH, MLs bs n K Sp V En m h0 h' (lnE K Sp V i s).2.2.1 (lnE K Sp V i s).2.2.2 → i < (lnE K Sp V i s).2.2.1 → Q h') : zCv G (d + 61) mX12_readEdge [vr 12 466] h Q := by
  have tk := tkS_TK ts
  have i0 := c.2.1.2.2.2
  have o := c.2.2.2.2.2
  have O3 := o.2.2.1
  have im : i + 1 < m := ((tk.2 i i0.1 i0.2).2.2.2).mpr (by omega)
  have okk := lnE_ok (Sp := Sp) (s := s) tk ⟨i0.1, im⟩ (fun k3 => by have := st_lt tk (j := i + 1) ⟨by omega, im⟩ k3; omega) o
  have lF : ∀ x : Lr, lnE K Sp V i s = x → (¬ x.1 = 0 → ∀ h' : zH, MFL h0 h' x.1 x.2.1 → Q h') := fun x e => by rw [← e]; exact kF
  unfold lnE at lF
  refine eX12_readEdge (bX12_readEdge_0 (sm_latest (d := d + 58) c (fun bt => ?_) (fun bf h2 mf tb => ?_)))
  rotate_left
  · have hf := FS_n mf.2
    rw [if_pos bf] at lF
    exact ⟨⟨by omega, by omega⟩, fun _ => sm_edge_f tb mf.2 (fun h' fr f' => lF _ rfl (show ¬ (7 : Int) = 0 by decide) h' ⟨fM_t mf.1 (fM_R fr), f'⟩), fun z => absurd z (by omega)⟩
  have c1 : ¬ s.2.1 = false := by rw [bt]; decide
  have mx := c.2.2.2.2.1.2 bt
  have po := o.2.2.2.2 bt
  have L24 := po.2.2.1
  rw [if_neg c1] at lF
  rw [c.2.1.1, mx.1.2.2.1]
  refine ⟨⟨by decide, by decide⟩, fun z => absurd rfl z, fun _ => ⟨by omega, ⟨by omega, by omega⟩, fun l24 => ?_, fun e24 => sm_wrongL c (by decide) (fun h2 mf tb _ => ?_)⟩⟩
  rotate_left
  · rw [if_pos (show 24 ≤ (s.2.2.2.2.2.1.length : Int) by omega)] at lF
    exact sm_edge_f tb mf.2 (fun h' fr f' => lF _ rfl (show ¬ (5 : Int) = 0 by decide) h' ⟨fM_t mf.1 (fM_R fr), f'⟩)
  rw [if_neg (show ¬ 24 ≤ (s.2.2.2.2.2.1.length : Int) by omega)] at lF
  refine sm_nextL (d := d + 58) ts c (by omega) (by omega) (fun h2 c2 => sm_readState (d := d + 57) ts c2 bt (fun e1 k1 h4 c4 => ?_) (fun n1 h3 mf tb => ?_))
  rotate_left
  · rw [if_pos n1] at lF
    exact sm_edge_f1 tb mf.2 (fun h' fr f' => lF _ rfl n1 h' ⟨fM_t mf.1 (fM_R fr), f'⟩)
  rw [if_neg (show ¬ ¬ _ from fun z => z e1)] at lF
  rw [show i + 1 + 1 = i + 2 by omega] at c4
  refine sm_readState (d := d + 57) ts c4 bt (fun e2 k2 h6 c6 => ?_) (fun n2 h3 mf tb => ?_)
  rotate_left
  · rw [if_pos n2] at lF
    refine sm_readSet_f (d := d + 54) tb mf.2 (fun h' fr f' => ?_)
    have hf := FS_n f'
    exact ⟨⟨by omega, by omega⟩, fun z => absurd z (by omega), fun _ => lF _ rfl n2 h' ⟨fM_t mf.1 (fM_R fr), f'⟩⟩
  rw [if_neg (show ¬ ¬ _ from fun z => z e2)] at lF
  rw [show i + 2 + 1 = i + 3 by omega] at c6
  refine sm_readSet (d := d) ts c6.2.2.1 c6.2.1 (fun n0 h8 mf => ?_) (fun e0 h8 fr t8 ip c24 rg => ?_)
  · rw [if_pos n0] at lF
    have hf := FS_n mf.2
    exact ⟨⟨by omega, by omega⟩, fun z => absurd z (by omega), fun _ => lF _ rfl n0 h8 ⟨fM_t c6.1 (fM_R mf.1), mf.2⟩⟩
  have c8 := MLs_R c6 fr t8
  have L0 : (lnE K Sp V i s).1 = 0 := by
    unfold lnE
    rw [if_neg c1, if_neg (show ¬ 24 ≤ (s.2.2.2.2.2.1.length : Int) by omega), if_neg (show ¬ ¬ _ from fun z => z e1), if_neg (show ¬ ¬ _ from fun z => z e2), if_neg (show ¬ ¬ _ from fun z => z e0)]
  obtain ⟨o1, -, -, -, -, -, o5⟩ := okk L0
  have kC := kC L0
  rw [o5] at kC o1
  obtain ⟨-, -, -, z1, z2, z3⟩ := zl47
  have mx8 := c8.2.2.2.2.1.2 bt
  have e476 := mx8.1.2.2.1
  obtain ⟨J, eJ⟩ : ∃ J : Int, J = s.2.2.1.length := ⟨_, rfl⟩
  obtain ⟨E, eE⟩ : ∃ E : Int, E = s.2.2.2.2.2.1.length := ⟨_, rfl⟩
  rw [← eJ, ← eE] at e476
  rw [← eJ, t8.1, e476]
  refine ⟨⟨by decide, by decide⟩, fun _ => ⟨by omega, by omega, by omega, ?_⟩, fun z => absurd (by decide) z⟩
  obtain ⟨h9, e9⟩ : ∃ h9, h9 = zup (zup h8 478 (J * 24 + E) (V (i + 1))) 479 (J * 24 + E) (V (i + 2)) := ⟨_, rfl⟩
  rw [← e9]
  have w9 : ∀ a, ¬ a = 478 → ¬ a = 479 → h9 a = h8 a := fun a p q => by rw [e9, zup_ne q, zup_ne p]
  refine sm_keepsRanges (by decide) (by decide) (by decide) (by rw [z1]; omega) (by rw [z2, z3]; omega) rfl (by rw [w9 466 (by decide) (by decide)]; exact c24) (fun h10 g1 g2 g3 g4 => ?_)
  rw [w9 466 (by decide) (by decide)] at g2 g3 g4
  have e4 : h10 476 J = E := by rw [g1 476 (by decide) (by decide) (by decide), w9 476 (by decide) (by decide), e476]
  rw [e4]
  refine ⟨by omega, by omega, ?_⟩
  obtain ⟨h11, e11⟩ : ∃ h11, h11 = zup h10 476 J (E + 1) := ⟨_, rfl⟩
  rw [← e11]
  have w : ∀ a, ¬ a = 476 → h11 a = h10 a := fun a p => by rw [e11, zup_ne p]
  have W : ∀ a, ¬ a = 476 → ¬ (478 ≤ a ∧ a ≤ 482) → h11 a = h8 a := fun a p q => by rw [w a p, g1 a (by omega) (by omega) (by omega), w9 a (by omega) (by omega)]
  have r478 : h11 478 = fup (h8 478) (J * 24 + E) (V (i + 1)) := by rw [w 478 (by decide), g1 478 (by decide) (by decide) (by decide), e9, zup_ne (by decide), zup_r]
  have r479 : h11 479 = fup (h8 479) (J * 24 + E) (V (i + 2)) := by rw [w 479 (by decide), g1 479 (by decide) (by decide) (by decide), e9, zup_r, zup_ne (by decide)]
  have r480 : h11 480 = fup (h8 480) (J * 24 + E) (h8 466 17) := by rw [w 480 (by decide), g2, w9 480 (by decide) (by decide)]
  have r481 : ∀ j, ¬ ((J * 24 + E) * 24 ≤ j ∧ j < (J * 24 + E) * 24 + h8 466 17) → h11 481 j = h8 481 j ∧ h11 482 j = h8 482 j := fun j p => by
    rw [w 481 (by decide), w 482 (by decide), (g3 j p).1, (g3 j p).2, w9 481 (by decide) (by decide), w9 482 (by decide) (by decide)]
    exact ⟨rfl, rfl⟩
  have r482 : ∀ q, 0 ≤ q → q < h8 466 17 → h11 481 ((J * 24 + E) * 24 + q) = h8 469 q ∧ h11 482 ((J * 24 + E) * 24 + q) = h8 470 q := fun q a b => by
    rw [w 481 (by decide), w 482 (by decide), (g4 q a b).1, (g4 q a b).2, w9 469 (by decide) (by decide), w9 470 (by decide) (by decide)]
    exact ⟨rfl, rfl⟩
  have tb11 : TBm h11 s.1 := by
    unfold TBm
    rw [W 466 (by decide) (by decide), W 474 (by decide) (by decide), W 471 (by decide) (by decide), W 472 (by decide) (by decide), W 473 (by decide) (by decide)]
    exact c8.2.2.1
  -- an edge that stood
  have edge : ∀ (j e : Int) (F : Int → Bool), 0 ≤ e ∧ e < 24 → ¬ (j = J ∧ e = E) → 0 ≤ j ∧ j < 4 → (0 ≤ h8 480 (j * 24 + e) ∧ h8 480 (j * 24 + e) ≤ 24) → rgs (fun k => h8 481 ((j * 24 + e) * 24 + k)) (fun k => h8 482 ((j * 24 + e) * 24 + k)) 0 (h8 480 (j * 24 + e)) F → h11 478 (j * 24 + e) = h8 478 (j * 24 + e) ∧ h11 479 (j * 24 + e) = h8 479 (j * 24 + e) ∧ h11 480 (j * 24 + e) = h8 480 (j * 24 + e) ∧ rgs (fun k => h11 481 ((j * 24 + e) * 24 + k)) (fun k => h11 482 ((j * 24 + e) * 24 + k)) 0 (h8 480 (j * 24 + e)) F := fun j e F he ne hj c2 r => by
    have ne2 : ¬ j * 24 + e = J * 24 + E := by omega
    refine ⟨by rw [r478, fup_ne ne2], by rw [r479, fup_ne ne2], by rw [r480, fup_ne ne2], rgs_cg (fun k a b => ?_) r⟩
    exact r481 _ (by omega)
  refine kC h11 ⟨fM_t c8.1 ⟨fun a p q => W a (by omega) (by omega), fun j p q r s t u => by rw [W 466 (by decide) (by decide)], fun j p => by rw [W 471 (by decide) (by decide)], fun j p => by rw [W 472 (by decide) (by decide), W 473 (by decide) (by decide)]; exact ⟨rfl, rfl⟩, fun z => by rw [W 466 (by decide) (by decide)]; exact z⟩, MT_fr t8 (fun j p q => by rw [W 466 (by decide) (by decide)]) (W 467 (by decide) (by decide)), tb11, ?_, mMs_up c8.2.2.2.2.1 bt (fun j a b old => ?_) ?_ _ rfl rfl, o1⟩ (by show i < (bd2 K Sp V s.1 (i + 3)).2.2.1; omega)
  · show h11 466 35 = cnt (s.1, true, s.2.2.1, _)
    rw [W 466 (by decide) (by decide), c8.2.2.2.1, cnt_t bt, cnt_t rfl]
  · have po' := o.2.2.2.1 (gM s.2.2.1 j) (by
      unfold gM
      rw [List.getD_eq_getElem?_getD, List.getElem?_eq_getElem (by omega)]
      exact List.getElem_mem _)
    have l24' := po'.2.2.1
    obtain ⟨q1, q2, q3⟩ := old
    refine ⟨⟨by rw [W 475 (by decide) (by decide)]; exact q1.1, by rw [W 485 (by decide) (by decide)]; exact q1.2.1, by rw [e11, zup_ns (by omega), g1 476 (by decide) (by decide) (by decide), w9 476 (by decide) (by decide)]; exact q1.2.2.1, by rw [W 477 (by decide) (by decide)]; exact q1.2.2.2⟩, fun e a' b' => ?_, fun e a' b' => by rw [W 483 (by decide) (by decide), W 484 (by decide) (by decide)]; exact q3 e a' b'⟩
    obtain ⟨u1, u2, u3, u4⟩ := q2 e a' b'
    obtain ⟨v1, v2, v3, v4⟩ := edge j e _ (by omega) (by omega) (by omega) u3 u4
    rw [v1, v2, v3]
    exact ⟨u1, u2, u3, v4⟩
  · obtain ⟨q1, q2, q3⟩ := mx8
    rw [← eJ] at q1 q2 q3 ⊢
    refine ⟨⟨by rw [W 475 (by decide) (by decide)]; exact q1.1, by rw [W 485 (by decide) (by decide)]; exact q1.2.1, ?_, by rw [W 477 (by decide) (by decide)]; exact q1.2.2.2⟩, fun e a' b' => ?_, fun e a' b' => by rw [W 483 (by decide) (by decide), W 484 (by decide) (by decide)]; exact q3 e a' b'⟩
    · show h11 476 J = ((s.2.2.2.2.2.1 ++ [_]).length : Nat)
      rw [e11, zup_eq, len_1]
      omega
    · have b' : e < ((s.2.2.2.2.2.1 ++ [(V (i + 1), V (i + 2), (bd2 K Sp V s.1 (i + 3)).2.2.2)]).length : Nat) := b'
      rw [len_1] at b'
      show h11 478 (J * 24 + e) = (gE (s.2.2.2.2.2.1 ++ [_]) e).1 ∧ h11 479 (J * 24 + e) = (gE (s.2.2.2.2.2.1 ++ [_]) e).2.1 ∧ (0 ≤ h11 480 (J * 24 + e) ∧ h11 480 (J * 24 + e) ≤ 24) ∧ rgs (fun k => h11 481 ((J * 24 + e) * 24 + k)) (fun k => h11 482 ((J * 24 + e) * 24 + k)) 0 (h11 480 (J * 24 + e)) (gE (s.2.2.2.2.2.1 ++ [_]) e).2.2
      by_cases z : e = E
      · rw [gE_r (show e = (s.2.2.2.2.2.1.length : Int) by omega), z, r478, r479, r480, fup_eq, fup_eq, fup_eq]
        refine ⟨rfl, rfl, c24, rgs_cg (fun k a b => r482 k a b) rg⟩
      · obtain ⟨u1, u2, u3, u4⟩ := q2 e a' (by omega)
        obtain ⟨v1, v2, v3, v4⟩ := edge J e _ (by omega) (by omega) (by omega) u3 u4
        rw [gE_l a' (by omega), v1, v2, v3]
        exact ⟨u1, u2, u3, v4⟩
end MN
