/-! ===== the model's lines of machines ===== -/
theorem rgs_cg {lo hi lo' hi' : Int → Int} {c : Int} {f : Int → Bool} (e : ∀ k, 0 ≤ k → k < c → lo' k = lo k ∧ hi' k = hi k) (r : rgs lo hi 0 c f) : rgs lo' hi' 0 c f := by
  obtain ⟨q1, q2, q3⟩ := r
  refine ⟨fun k a b => ?_, fun k a b => ?_, fun z a b => ?_⟩
  · rw [(e k a b).1, (e k a b).2]
    exact q1 k a b
  · rw [(e k a (by omega)).2, (e (k + 1) (by omega) b).1]
    exact q2 k a b
  · rw [q3 z a b]
    constructor
    · rintro ⟨k, k0, k1⟩
      exact ⟨k, k0, by rw [(e k k0.1 k0.2).1, (e k k0.1 k0.2).2]; exact k1⟩
    · rintro ⟨k, k0, k1⟩
      rw [(e k k0.1 k0.2).1, (e k k0.1 k0.2).2] at k1
      exact ⟨k, k0, k1⟩
section MM
variable {G : zG} {d : Nat} {h0 h : zH} {bs : Int → Int} {n : Int} {K Sp V En : Int → Int} {m i : Int} {s : St} {L : List nsT} {Q : zH → Prop}
theorem cnt_rg (o : sOK s) : 0 ≤ cnt s ∧ cnt s ≤ 4 := by
  have := o.2.2.1
  unfold cnt
  by_cases q : s.2.1 = true
  · rw [if_pos q]; omega
  · rw [if_neg q]; omega
theorem nO_len (o : sOK s) : ((nO s).length : Int) = cnt s := by
  unfold cnt nO
  by_cases q : s.2.1 = true
  · rw [if_pos q, if_pos q, len_1]
    omega
  · rw [if_neg q, if_neg q, o.2.1 (by cases r : s.2.1 <;> first | rfl | exact absurd r q)]
    rfl
theorem mMs_nO (o : sOK s) (k : mMs h s) : ∀ j : Int, 0 ≤ j → j < cnt s → mMx h j (gM (nO s) j) := fun j a b => by
  cases q : s.2.1
  · rw [cnt_f q] at b
    omega
  · rw [cnt_t q] at b
    rw [nO_t q]
    by_cases w : j = s.2.2.1.length
    · rw [gM_r w, w]
      exact k.2 q
    · rw [gM_l a (by omega)]
      exact k.1 j a (by omega)
theorem sm_lineM (ts : tkS bs n K Sp V En m) (c : MLs bs n K Sp V En m h0 h i s) (k6 : K i = 6) (kF : ¬ (lnM K Sp V i s).1 = 0 → ∀ h' : zH, MFL h0 h' (lnM K Sp V i s).1 (lnM K Sp V i s).2.1 → Q h') (kC : (lnM K Sp V i s).1 = 0 → ∀ h' : zH, MLs bs n K Sp V En m h0 h' (lnM K Sp V i s).2.2.1 (lnM K Sp V i s).2.2.2 → i < (lnM K Sp V i s).2.2.1 → Q h') : zCv G (d + 4) mX12_readMachine [vr 12 466] h Q := by
  have tk := tkS_TK ts
  have i0 := c.2.1.2.2.2
  have o := c.2.2.2.2.2
  have im : i + 1 < m := ((tk.2 i i0.1 i0.2).2.2.2).mpr (by omega)
  have okk := lnM_ok (Sp := Sp) (s := s) tk ⟨i0.1, im⟩ o
  have cr := cnt_rg o
  have lF : ∀ x : Lr, lnM K Sp V i s = x → (¬ x.1 = 0 → ∀ h' : zH, MFL h0 h' x.1 x.2.1 → Q h') := fun x e => by rw [← e]; exact kF
  unfold lnM at lF
  refine eX12_readMachine (bX12_readMachine_0 ?_)
  rw [c.2.2.2.1]
  refine ⟨⟨by omega, by omega⟩, fun l4 => ?_, fun e4 => sm_wrongL c (by decide) (fun h2 mf tb _ => ?_)⟩
  rotate_left
  · rw [if_pos (show 4 ≤ cnt s by omega)] at lF
    have hf := FS_n mf.2
    refine sm_next_f hf (sm_whole_f hf mf.2.2.2.1 ⟨⟨by omega, by omega⟩, fun z => absurd z (by omega), fun _ => lF _ rfl (show ¬ (5 : Int) = 0 by decide) h2 mf⟩)
  rw [if_neg (show ¬ 4 ≤ cnt s by omega)] at lF
  refine sm_nextL ts c (by omega) (by omega) (fun h2 c2 => sm_whole (T := 0) (by decide) ts c2.2.1 (fun e3 v0 v1 h4 f4 t4 => ?_) (fun w hw h4 g1 g2 g3 => ?_))
  rotate_left
  · have hf := FS_n g3.2
    refine ⟨⟨by omega, by omega⟩, fun z => absurd z (by omega), fun _ => ?_⟩
    have mf : MFL h0 h4 w (Sp (i + 1)) := ⟨fM_t c2.1 (fM_R (mR_B g3.1)), g3.2⟩
    rcases hw with ⟨hw, w1⟩ | ⟨hw, w1, w2⟩
    · rw [if_pos hw] at lF
      rw [w1] at mf
      exact lF _ rfl (show ¬ (1 : Int) = 0 by decide) h4 mf
    · rw [if_neg (show ¬ ¬ _ from fun z => z hw), if_pos (by omega)] at lF
      rw [w1] at mf
      exact lF _ rfl (show ¬ (4 : Int) = 0 by decide) h4 mf
  have L0 : (lnM K Sp V i s).1 = 0 := by
    unfold lnM
    rw [if_neg (show ¬ 4 ≤ cnt s by omega), if_neg (show ¬ ¬ _ from fun z => z e3), if_neg (by omega)]
  obtain ⟨o1, -, -, -, o5⟩ := okk L0
  have kC := kC L0
  rw [o5] at kC o1
  have c4 := MLs_R c2 (mR_n f4) t4
  rw [show i + 1 + 1 = i + 2 by omega] at t4 c4
  rw [t4.1, c4.2.2.2.1]
  refine ⟨⟨by decide, by decide⟩, fun _ => ⟨by omega, by omega, by omega, by omega, ?_⟩, fun z => absurd (by decide) z⟩
  obtain ⟨h7, e7⟩ : ∃ h7, h7 = zup (zup (zup (zup (zup h4 475 (cnt s) (V (i + 1))) 476 (cnt s) 0) 477 (cnt s) 0) 485 (cnt s) 0) 466 35 (cnt s + 1) := ⟨_, rfl⟩
  rw [← e7]
  have w466 : ∀ j, ¬ j = 35 → h7 466 j = h4 466 j := fun j p => by rw [e7, zup_ns p, zup_ne (by decide), zup_ne (by decide), zup_ne (by decide), zup_ne (by decide)]
  have W : ∀ a, ¬ a = 466 → ¬ a = 475 → ¬ a = 476 → ¬ a = 477 → ¬ a = 485 → h7 a = h4 a := fun a p q r u v => by rw [e7, zup_ne p, zup_ne v, zup_ne u, zup_ne r, zup_ne q]
  have W5 : ∀ a j, (a = 475 ∨ a = 476 ∨ a = 477 ∨ a = 485) → ¬ j = cnt s → h7 a j = h4 a j := fun a j p q => by
    rw [e7, zup_ne (by omega)]
    rcases p with p | p | p | p <;> subst p
    · rw [zup_ne (by decide), zup_ne (by decide), zup_ne (by decide), zup_ns q]
    · rw [zup_ne (by decide), zup_ne (by decide), zup_ns q, zup_ne (by decide)]
    · rw [zup_ne (by decide), zup_ns q, zup_ne (by decide), zup_ne (by decide)]
    · rw [zup_ns q, zup_ne (by decide), zup_ne (by decide), zup_ne (by decide)]
  have tb7 : TBm h7 s.1 := by
    unfold TBm
    rw [w466 23 (by decide), W 474 (by decide) (by decide) (by decide) (by decide) (by decide), W 471 (by decide) (by decide) (by decide) (by decide) (by decide), W 472 (by decide) (by decide) (by decide) (by decide) (by decide), W 473 (by decide) (by decide) (by decide) (by decide) (by decide)]
    exact c4.2.2.1
  have nl := nO_len o
  refine kC h7 ⟨fM_t c4.1 ⟨fun a p q => W a p (by omega) (by omega) (by omega) (by omega), fun j p q r s t u => w466 j u, fun j p => by rw [W 471 (by decide) (by decide) (by decide) (by decide) (by decide)], fun j p => by rw [W 472 (by decide) (by decide) (by decide) (by decide) (by decide), W 473 (by decide) (by decide) (by decide) (by decide) (by decide)]; exact ⟨rfl, rfl⟩, fun _ => by rw [e7, zup_eq]; omega⟩, MT_fr t4 (fun j p q => w466 j (by omega)) (W 467 (by decide) (by decide) (by decide) (by decide) (by decide)), tb7, ?_, ⟨fun j a b => ?_, fun _ => ?_⟩, o1⟩ (by show i < i + 2; omega)
  · show h7 466 35 = cnt (s.1, true, nO s, (V (i + 1), 0, [], []))
    rw [cnt_t rfl, e7, zup_eq]
    show cnt s + 1 = ((nO s).length : Int) + 1
    omega
  · have b : j < ((nO s).length : Int) := b
    have old := mMs_nO o c4.2.2.2.2.1 j a (by omega)
    show mMx h7 j (gM (nO s) j)
    unfold mMx at old ⊢
    rw [W5 475 j (by decide) (by omega), W5 476 j (by decide) (by omega), W5 477 j (by decide) (by omega), W5 485 j (by decide) (by omega), W 478 (by decide) (by decide) (by decide) (by decide) (by decide), W 479 (by decide) (by decide) (by decide) (by decide) (by decide), W 480 (by decide) (by decide) (by decide) (by decide) (by decide), W 481 (by decide) (by decide) (by decide) (by decide) (by decide), W 482 (by decide) (by decide) (by decide) (by decide) (by decide), W 483 (by decide) (by decide) (by decide) (by decide) (by decide), W 484 (by decide) (by decide) (by decide) (by decide) (by decide)]
    exact old
  · show mMx h7 ((nO s).length : Int) (V (i + 1), 0, [], [])
    rw [nl]
    refine ⟨⟨?_, ?_, ?_, ?_⟩, fun e a b => absurd b (by show ¬ e < ((0 : Nat) : Int); omega), fun e a b => absurd b (by show ¬ e < ((0 : Nat) : Int); omega)⟩
    · rw [e7, zup_ne (by decide), zup_ne (by decide), zup_ne (by decide), zup_ne (by decide), zup_eq]
    · rw [e7, zup_ne (by decide), zup_eq]
    · rw [e7, zup_ne (by decide), zup_ne (by decide), zup_ne (by decide), zup_eq]
      rfl
    · rw [e7, zup_ne (by decide), zup_ne (by decide), zup_eq]
      rfl
theorem sm_state {R : Int → zH → Prop} (ts : tkS bs n K Sp V En m) (c : MLs bs n K Sp V En m h0 h i s) (bt : s.2.1 = true) (k1 : (stt K Sp V s.2.2.2.1 i).1 = 0 → K i = 3 → R (V i) h) (k2 : ¬ (stt K Sp V s.2.2.2.1 i).1 = 0 → ∀ h' : zH, MFL h0 h' (stt K Sp V s.2.2.2.1 i).1 (stt K Sp V s.2.2.2.1 i).2 → TBm h' s.1 → R 0 h') : zCi G (d + 2) mX12_state [vr 12 466] h R := by
  have q := MT_k ts c.2.1
  have o := c.2.2.2.2.2
  have O3 := o.2.2.1
  have mx := c.2.2.2.2.1.2 bt
  have n12 := (o.2.2.2.2 bt).1
  have e475 : h 475 (cnt s - 1) = s.2.2.2.1 := by
    rw [cnt_t bt, show (s.2.2.1.length : Int) + 1 - 1 = s.2.2.1.length by omega]
    exact mx.1.1
  have bad : ∀ w, (0 < w ∧ w ≤ 8) → stt K Sp V s.2.2.2.1 i = (w, Sp i) → zCv G (d + 1) mX12_wrong [vr 12 466, vi w] h (fun h4 => zR (h4 466 10) ∧ ((h4 466 10) ≤ 0 → R (h4 466 9) h4) ∧ (¬ (h4 466 10) ≤ 0 → R 0 h4)) := fun w hw e => sm_wrongL c hw (fun h' mf tb _ => by
    have hf := FS_n mf.2
    rw [e] at k2
    exact ⟨⟨by omega, by omega⟩, fun z => absurd z (by omega), fun _ => k2 (show ¬ w = 0 by omega) h' mf tb⟩)
  refine eX12_state (bX12_state_0 ?_)
  rw [c.2.2.2.1, e475, c.2.1.1, cnt_t bt]
  refine ⟨⟨by omega, by omega⟩, fun e3 => ?_, fun n3 => bad 1 (by decide) ?_⟩
  · have q2 : h 466 9 = V i ∧ K i = 3 ∧ 0 ≤ V i ∧ V i < 100000 := by omega
    rw [q2.1]
    refine ⟨by omega, ⟨by omega, by omega⟩, ⟨by omega, by omega⟩, fun lt => ⟨⟨by decide, by decide⟩, fun _ => k1 ?_ q2.2.1, fun z => absurd (by decide) z⟩, fun ge => bad 2 (by decide) ?_⟩
    · unfold stt
      rw [if_neg (show ¬ ¬ _ from fun z => z q2.2.1), if_neg (by omega)]
    · unfold stt
      rw [if_neg (show ¬ ¬ _ from fun z => z q2.2.1), if_pos (by omega)]
  · unfold stt
    rw [if_pos (by omega)]
theorem sm_state_f {R : Int → zH → Prop} {w x : Int} (f : FS h w x) (k : R 0 h) : zCi G (d + 2) mX12_state [vr 12 466] h R := by
  have hf := FS_n f
  refine eX12_state (bX12_state_0 ?_)
  rw [f.2.2.1]
  exact ⟨⟨by decide, by decide⟩, fun z => absurd z (by decide), fun _ => sm_wrong_f hf ⟨⟨by omega, by omega⟩, fun z => absurd z (by omega), fun _ => k⟩⟩
theorem sm_readState_f {R : Int → zH → Prop} {w x : Int} (f : FS h w x) (k : R 0 h) : zCi G (d + 3) mX12_readState [vr 12 466] h R :=
  eX12_readState (bX12_readState_0 (sm_state_f f (sm_next_f (FS_n f) k)))
theorem sm_readState {R : Int → zH → Prop} (ts : tkS bs n K Sp V En m) (c : MLs bs n K Sp V En m h0 h i s) (bt : s.2.1 = true) (k1 : (stt K Sp V s.2.2.2.1 i).1 = 0 → K i = 3 → ∀ h' : zH, MLs bs n K Sp V En m h0 h' (i + 1) s → R (V i) h') (k2 : ¬ (stt K Sp V s.2.2.2.1 i).1 = 0 → ∀ h' : zH, MFL h0 h' (stt K Sp V s.2.2.2.1 i).1 (stt K Sp V s.2.2.2.1 i).2 → TBm h' s.1 → R 0 h') : zCi G (d + 3) mX12_readState [vr 12 466] h R :=
  eX12_readState (bX12_readState_0 (sm_state ts c bt (fun e e3 => sm_nextL ts c (by omega) (by omega) (fun h' c' => k1 e e3 h' c')) (fun ne h' mf tb => sm_next_f (FS_n mf.2) (k2 ne h' mf tb))))
theorem sm_latest {R : Int → zH → Prop} (c : MLs bs n K Sp V En m h0 h i s) (k1 : s.2.1 = true → R s.2.2.1.length h) (k2 : s.2.1 = false → ∀ h' : zH, MFL h0 h' 7 (Sp i) → TBm h' s.1 → R 0 h') : zCi G (d + 2) mX12_latest [vr 12 466] h R := by
  have o := c.2.2.2.2.2
  have O3 := o.2.2.1
  refine eX12_latest (bX12_latest_0 ?_)
  rw [c.2.2.2.1, c.2.1.1]
  cases q : s.2.1
  · rw [cnt_f q]
    refine ⟨⟨by decide, by decide⟩, fun z => absurd rfl z, fun _ => sm_wrongL c (by decide) (fun h' mf tb _ => ?_)⟩
    have hf := FS_n mf.2
    exact ⟨⟨by omega, by omega⟩, fun z => absurd z (by omega), fun _ => k2 q h' mf tb⟩
  · rw [cnt_t q, show (s.2.2.1.length : Int) + 1 - 1 = s.2.2.1.length by omega]
    exact ⟨⟨by omega, by omega⟩, fun _ => ⟨⟨by decide, by decide⟩, fun _ => k1 q, fun z => absurd (by decide) z⟩, fun z => absurd z (by omega)⟩
end MM
