/-! ===== sure, least, other: the cases ===== -/
theorem tS_f {x k : Int} (k0 : 0 ≤ k) (k1 : k < 64) (h : ¬ tS x k) : tb x k = false := by
  cases c : tb x k
  · rfl
  · exact absurd ⟨k0, k1, c⟩ h
section SW
variable {G : zG} {d : Nat} {h : zH}
theorem c_sure {m : Int} (hI : Inv h) (hm : zR m) : twI G (d + 8) mX11_sure mX12_sure [vi m] h := by
  obtain ⟨n1, n2, n3⟩ := iM_n hI
  refine eX11_sure (bX11_sure_0 (q_mach hI hm (fun q => ⟨fun _ => ?_, fun z => (by cases z)⟩) (fun q => ⟨fun z => (by cases z), fun _ => sp_refused (eX12_sure (bX12_sure_0 (q_refusesOne (c := h 0 13) (by rw [zhw_m (by decide), n3]) (by omega) hm (fun _ => ⟨⟨by decide, by decide⟩, fun z => absurd z (by decide), fun _ => sm_refused ⟨zR_m1, rfl, Inv_k hI (by omega) (fun _ _ => rfl) rfl rfl (mK_refl _)⟩⟩) (fun z => absurd z q) (fun z => absurd z q))))⟩)))
  obtain ⟨m10, mc, o1, o2, o3, o4⟩ := iM_d hI q.1 q.2
  obtain ⟨D, eD⟩ : ∃ D, D = dOf h m := ⟨_, rfl⟩
  rw [← eD] at o1 o2 o3 o4
  have hB := mO_bl o1
  have hp := pth_p o4
  have pn := pP_n hp
  have pb := hp.2.1
  have pt := hp.2.2.1
  refine ⟨m10, sp_drawSheaves (d := d + 5) mc o1 o2 hp (fun h1 S f1 hS eS dc lb => ?_)⟩
  obtain ⟨T, eT⟩ : ∃ T : Int → Int → Int, T = fun q b => h (h 3 m + 9) (q * 128 + b) := ⟨_, rfl⟩
  rw [← eT] at dc lb
  obtain ⟨N, eN⟩ : ∃ N : Nat, (N : Int) = h (h 3 m + 7) 0 := ⟨(h (h 3 m + 7) 0).toNat, by omega⟩
  have eN2 : (h (h 3 m + 7) 0).toNat = N := by omega
  rw [eN2] at dc lb
  rw [← eN] at dc pb pt pn
  have rT : ∀ q b : Int, 0 ≤ q → q < N → 0 ≤ b → b < D 0 4 → 0 ≤ T q b ∧ T q b < N := fun q b q0 q1 b0 b1 => by
    rw [eT]
    have := bfs_T pb q0 q1 b0 b1 o1
    rw [show h 3 m + 7 + 2 = h 3 m + 9 by omega] at this
    exact this
  have lok : lOK N (h (h 3 m + 7) 6) (eA T S (D 0 4) N) [] := lOK_t (by omega) hB.1 pt.1 (fun k k0 k1 => tS_f (by omega) k1 (fun y => by have := (pt.2 k).mp y; omega)) rT
  have g1 : ∀ a, kp a → h1 a = h a := fun a k => f1 a (by unfold kp at k; omega)
  refine q_keepDraft (d := d + 2) hI g1 (f1 0 (by decide)) dc lok lb (fun x h2 kd o => ?_)
  have cx : CX h h1 h2 := ⟨g1, f1 0 (by decide), f1 466 (by decide), kd⟩
  refine eX12_sure (bX12_sure_0 (q_refusesOne (CX_64 hI cx (mK_0 h2)) (by omega) hm (fun z => absurd q z) (fun _ z => ⟨⟨by decide, by decide⟩, fun w => absurd w (by decide), fun _ => q_ref hI cx o (mK_0 h2) (fun w => by omega)⟩) (fun _ c10 => ⟨⟨by decide, by decide⟩, fun _ => ?_, fun w => absurd (by decide) w⟩)))
  have r0 := CX_rep hI cx (mK_0 h2) o3
  refine sm_gathers (d := d + 4) o1 (by omega) r0 (Or.inl rfl) pb (Or.inl rfl) (fun _ h3 fr gt => ?_) (fun z => absurd rfl z)
  obtain ⟨gn, gB, gT, -, -⟩ := mG0 gt
  have k3 := mK_tr (mK_0 h2) (mK_r fr)
  have r3 := CX_rep hI cx k3 o3
  rw [gn]
  have go : ∀ (f : Nat) (i : Nat) (acc : Int), i + f = N → zRL acc → (∀ k, tS acc k ↔ (0 ≤ k ∧ k < i) ∧ tb (h (h 3 m + 7) 6) k = true) → tX12_sure_41 G (d + 7) (fun y h4 => zR x ∧ x = y ∧ Inv h4) m N acc i h3 := by
    intro f
    induction f with
    | zero =>
      intro i acc ie a0 a1
      have ie : i = N := by omega
      subst ie
      refine bX12_sure_41 ⟨⟨by omega, by omega⟩, ⟨by omega, by omega⟩, fun _ => ⟨by omega, ?_⟩, fun z => absurd (Int.le_refl _) z⟩
      rw [r3.1.2.2.2.2]
      have ea : acc = h (h 3 m + 7) 6 := by
        refine lp_eq (S := fun k => tS acc k) (lp_self a0) ⟨pt.1, fun k => ?_⟩
        show tS (h (h 3 m + 7) 6) k ↔ tS acc k
        rw [a1 k]
        constructor
        · intro y
          exact ⟨((pt.2 k).mp y).1 |> fun _ => ⟨((pt.2 k).mp y).1, ((pt.2 k).mp y).2.1⟩, y.2.2⟩
        · rintro ⟨y1, y2⟩
          exact ⟨y1.1, by omega, y2⟩
      refine sm_buildsTable (d := d + 6) (T := T) (S := S) (by omega) hS ⟨by decide, by decide⟩ ⟨by decide, by decide⟩ (fun q b q0 q1 b0 b1 => ?_) (fun b b0 b1 => ?_) (fun h4 w1 w2 w3 w4 => ?_)
      · have := rT q b q0 q1 b0 b1
        rw [gT q b q0 q1 b0 b1, zl_t.1, show h 3 m + 7 + 2 = h 3 m + 9 by omega]
        exact ⟨by rw [eT], by omega, ⟨by omega, by omega⟩⟩
      · rw [r3.2.2.2 b b0 b1, eS b b0 b1, zl_t.2.1]
        exact ⟨rfl, by omega⟩
      · rw [ea]
        exact q_makes (d := d + 2) hI cx.1 cx.2.1 cx.2.2.1 kd o (mK_tr k3 (mK_tr (bld_k w1 w2) mK_50)) c10 lok (drM_en w3) zup_eq (fun ft => by rw [zup_ne (by decide)]; exact w4 ft.2.1)
    | succ f ih =>
      intro i acc ie a0 a1
      refine bX12_sure_41 ⟨⟨by omega, by omega⟩, ⟨by omega, by omega⟩, fun z => absurd z (by omega), fun _ => ?_⟩
      refine sm_sheafEnds (d := d + 7) (D := D) (x := h (h 3 m + 7) 6) (n := N) (B := h (h 3 m + 7 + 1)) (by omega) (Or.inl rfl) (by omega) r3.1.2.1 (by rw [show (0 : Int) * 40 + i = i by omega]; exact gB i (by omega) (by omega)) pt (by omega) ⟨fun w => ?_, fun w => ?_⟩
      · have := ih (i + 1) (zlor acc 0) (by omega) (zlor_R _ _) (fun k => by
          rw [tS_lor, a1 k]
          constructor
          · rintro (⟨y1, y2⟩ | y)
            · exact ⟨by omega, y2⟩
            · exact absurd y tS_0
          · rintro ⟨y1, y2⟩
            by_cases v : k = i
            · rw [v, w] at y2
              cases y2
            · exact Or.inl ⟨by omega, y2⟩)
        rwa [show ((i + 1 : Nat) : Int) = (i : Int) + 1 by omega] at this
      · have := ih (i + 1) (zlor acc (zlshl 1 i)) (by omega) (zlor_R _ _) (fun k => by
          rw [tS_lor, tS_shl (by omega) (by omega), a1 k]
          constructor
          · rintro (⟨y1, y2⟩ | y)
            · exact ⟨by omega, y2⟩
            · rw [y]
              exact ⟨by omega, w⟩
          · rintro ⟨y1, y2⟩
            by_cases v : k = i
            · exact Or.inr v
            · exact Or.inl ⟨by omega, y2⟩)
        rwa [show ((i + 1 : Nat) : Int) = (i : Int) + 1 by omega] at this
  exact go N 0 0 (by omega) zRL_0 (fun k => ⟨fun z => absurd z tS_0, fun z => absurd z.1.2 (by omega)⟩)
/-- the model makes a machine of the classes -/
theorem q_makesClasses {h1 h2 H D : zH} {x m en : Int} {S : Int → Int} {tk : Bool} (hI : Inv h) (q : 0 ≤ m ∧ m < h 0 13) (o1 : mOK D) (o3 : mRep h m D) (o4 : pthOK h (h 3 m) D) (cx : CX h h1 h2) (mk : mK h2 H) (c10 : ¬ h 0 13 = 10) (hS : dS S (D 0 4)) (eS : ∀ b, 0 ≤ b → b < D 0 4 → S b = D 7 b) (en0 : zRL en) (en1 : ∀ k, tS en k ↔ (0 ≤ k ∧ k < h (h 3 m + 7) 10) ∧ tb (h (h 3 m + 7) 6) (h (h 3 m + 16) k) = tk) (lok : lOK (h (h 3 m + 7) 10) en (eA (CS h (h 3 m + 7)) S (D 0 4) (h (h 3 m + 7) 10).toNat) []) (o : cO (h 0 13) (h 3 (h 0 13)) (h (h 3 m + 7) 10) en (eA (CS h (h 3 m + 7)) S (D 0 4) (h (h 3 m + 7) 10).toNat) [] x h2) : zCi G (d + 7) mX12_makesClasses [vr 12 466, vi m, vi (bi (!tk))] H (fun y h4 => zR x ∧ x = y ∧ Inv h4) := by
  have hB := mO_bl o1
  have hp := pth_p o4
  have pn := pP_n hp
  obtain ⟨p7, pb, pt, R, eR, pc⟩ := hp
  obtain ⟨n1, n2, n3⟩ := iM_n hI
  have r0 := CX_rep hI cx mk o3
  refine eX12_makesClasses (bX12_makesClasses_0 (sm_sorts (d := d + 2) o1 (by omega) r0 (Or.inl rfl) pb pt pc (fun h3 fs gt so => ?_)))
  obtain ⟨gn, gB, gT, -, -⟩ := mG0 gt
  obtain ⟨s1, s2, s3, s4, s5⟩ := mS0 so
  have k3 := mK_tr mk (mK_s fs)
  obtain ⟨T, eT⟩ : ∃ T : Int → Int → Int, T = CS h (h 3 m + 7) := ⟨_, rfl⟩
  obtain ⟨N, eN⟩ : ∃ N : Nat, (N : Int) = h (h 3 m + 7) 10 := ⟨(h (h 3 m + 7) 10).toNat, by omega⟩
  have eN2 : (h (h 3 m + 7) 10).toNat = N := by omega
  rw [eN2, ← eT, ← eN] at lok o
  rw [← eN] at s1 en1
  have hpp : pthP h (h 3 m + 7) D := ⟨p7, pb, pt, R, eR, pc⟩
  have rT : ∀ q b : Int, 0 ≤ q → q < N → 0 ≤ b → b < D 0 4 → 0 ≤ T q b ∧ T q b < N := fun q b q0 q1 b0 b1 => by
    rw [eT]
    have := (pP_step hpp o1 (c := q) (b := b) q0 (by omega) b0 b1).2.2
    omega
  rw [s1]
  -- the frame of the table
  have keep : ∀ h5 : zH, (∀ a, ¬ a = 524 → h5 a = h3 a) → mK h2 h5 ∧ mGt D h5 0 (h (h 3 m + 7) 0) (h (h 3 m + 7 + 1)) (h (h 3 m + 7 + 2)) (h (h 3 m + 7 + 3)) (h (h 3 m + 7 + 4)) ∧ mSo h5 0 (h (h 3 m + 7) 0) (h (h 3 m + 7) 10) (h (h 3 m + 7 + 8)) (h (h 3 m + 7 + 9)) (h (h 3 m + 7 + 10)) R := fun h5 e => by
    refine ⟨mK_tr k3 ⟨fun a k => e a (by unfold kp at k; omega), e 0 (by decide), fun j _ => by rw [e 466 (by decide)]⟩, ?_, ?_⟩
    · unfold mGt at gt ⊢
      rw [e 505 (by decide), e 506 (by decide), e 507 (by decide), e 508 (by decide), e 509 (by decide)]
      exact gt
    · unfold mSo at so ⊢
      rw [e 510 (by decide), e 511 (by decide), e 512 (by decide), e 513 (by decide), e 466 (by decide)]
      exact so
  have l53 : ∀ (f : Nat) (c b : Nat) (acc : Int) (h5 : zH), (c : Int) < N → (b : Int) + f = D 0 4 → (∀ a, ¬ a = 524 → h5 a = h3 a) → (∀ c' b' : Int, 0 ≤ c' → c' < N → 0 ≤ b' → b' < D 0 4 → c' < c ∨ (c' = c ∧ b' < b) → h5 524 (c' * 128 + b') = T c' b') → (∀ h6 : zH, (∀ a, ¬ a = 524 → h6 a = h3 a) → (∀ c' b' : Int, 0 ≤ c' → c' < N → 0 ≤ b' → b' < D 0 4 → c' < (c : Int) + 1 → h6 524 (c' * 128 + b') = T c' b') → tX12_makesClasses_19 G (d + 6) (fun y h4 => zR x ∧ x = y ∧ Inv h4) m (!tk) N acc ((c : Int) + 1) h6) → tX12_makesClasses_53 G (d + 6) (fun y h4 => zR x ∧ x = y ∧ Inv h4) m (!tk) N acc c b h5 := by
    intro f
    induction f with
    | zero =>
      intro c b acc h5 c1 bf e tab nx
      obtain ⟨k5, g5, s5'⟩ := keep h5 e
      have r5 := CX_rep hI cx k5 o3
      refine bX12_makesClasses_53 ?_
      rw [r5.1.2.2.2.2]
      exact ⟨by omega, ⟨by omega, by omega⟩, ⟨by omega, by omega⟩, fun _ => nx h5 e (fun c' b' a0 a1 a2 a3 a4 => tab c' b' a0 a1 a2 a3 (by omega)), fun z => absurd (by omega) z⟩
    | succ f ih =>
      intro c b acc h5 c1 bf e tab nx
      obtain ⟨k5, g5, s5'⟩ := keep h5 e
      have r5 := CX_rep hI cx k5 o3
      refine bX12_makesClasses_53 ?_
      rw [r5.1.2.2.2.2]
      have st := pP_step hpp o1 (c := c) (b := b) (by omega) (by omega) (by omega) (by omega)
      refine ⟨by omega, ⟨by omega, by omega⟩, ⟨by omega, by omega⟩, fun z => absurd z (by omega), fun _ => sm_classGoes (d := d + 5) (by omega) hB.2 g5 s5' (by omega) pn.2.2 st.1 (by omega) st.2.1 ⟨by omega, ?_⟩⟩
      have et : h (h 3 m + 7 + 8) (h (h 3 m + 7 + 2) (h (h 3 m + 7 + 9) c * 128 + b)) = T c b := by rw [eT]; rfl
      rw [et]
      have := ih c (b + 1) acc (zup h5 524 ((c : Int) * 128 + b) (T c b)) c1 (by omega) (fun a p => by rw [zup_ne p]; exact e a p) (fun c' b' a0 a1 a2 a3 a4 => by
        by_cases w : c' * 128 + b' = (c : Int) * 128 + b
        · have w1 : c' = c := by omega
          have w2 : b' = b := by omega
          rw [w1, w2, zup_eq]
        · rw [zup_ns w]
          exact tab c' b' a0 a1 a2 a3 (by omega)) nx
      rwa [show ((b + 1 : Nat) : Int) = (b : Int) + 1 by omega] at this
  have l19 : ∀ (f : Nat) (c : Nat) (acc : Int) (h5 : zH), c + f = N → zRL acc → (∀ k, tS acc k ↔ (0 ≤ k ∧ k < c) ∧ tb (h (h 3 m + 7) 6) (h (h 3 m + 16) k) = tk) → (∀ a, ¬ a = 524 → h5 a = h3 a) → (∀ c' b' : Int, 0 ≤ c' → c' < N → 0 ≤ b' → b' < D 0 4 → c' < c → h5 524 (c' * 128 + b') = T c' b') → tX12_makesClasses_19 G (d + 6) (fun y h4 => zR x ∧ x = y ∧ Inv h4) m (!tk) N acc c h5 := by
    intro f
    induction f with
    | zero =>
      intro c acc h5 cf a0 a1 e tab
      have cf : c = N := by omega
      subst cf
      obtain ⟨k5, g5, s5'⟩ := keep h5 e
      have r5 := CX_rep hI cx k5 o3
      refine bX12_makesClasses_19 ⟨⟨by omega, by omega⟩, ⟨by omega, by omega⟩, fun _ => ⟨by omega, ?_⟩, fun z => absurd (Int.le_refl _) z⟩
      rw [r5.1.2.2.2.2]
      have ea : acc = en := lp_eq (S := fun k => tS acc k) (lp_self a0) ⟨en0, fun k => by show tS en k ↔ tS acc k; rw [a1 k, en1 k]⟩
      refine sm_buildsTable (d := d + 5) (T := T) (S := S) (by omega) hS ⟨by decide, by decide⟩ ⟨by decide, by decide⟩ (fun q b q0 q1 b0 b1 => ?_) (fun b b0 b1 => ?_) (fun h6 w1 w2 w3 w4 => ?_)
      · have := rT q b q0 q1 b0 b1
        rw [tab q b q0 q1 b0 b1 q1, zl_t.2.2.1]
        exact ⟨rfl, by omega, ⟨by omega, by omega⟩⟩
      · rw [r5.2.2.2 b b0 b1, eS b b0 b1, zl_t.2.1]
        exact ⟨rfl, by omega⟩
      · rw [ea]
        exact q_makes (d := d + 1) hI cx.1 cx.2.1 cx.2.2.1 cx.2.2.2 o (mK_tr k5 (mK_tr (bld_k w1 w2) mK_50)) c10 lok (drM_en w3) zup_eq (fun ft => by rw [zup_ne (by decide)]; exact w4 ft.2.1)
    | succ f ih =>
      intro c acc h5 cf a0 a1 e tab
      obtain ⟨k5, g5, s5'⟩ := keep h5 e
      have r5 := CX_rep hI cx k5 o3
      have st := pP_step hpp o1 (c := c) (b := 0) (by omega) (by omega) (by omega) (by omega)
      refine bX12_makesClasses_19 ⟨⟨by omega, by omega⟩, ⟨by omega, by omega⟩, fun z => absurd z (by omega), fun _ => sm_classEnds (d := d + 5) (by omega) r5 (by omega) g5 s5' pt (by omega) pn.2.2 st.1 ?_⟩
      rw [show h 3 m + 7 + 9 = h 3 m + 16 by omega]
      have nx : ∀ acc', zRL acc' → (∀ k, tS acc' k ↔ (0 ≤ k ∧ k < (c : Int) + 1) ∧ tb (h (h 3 m + 7) 6) (h (h 3 m + 16) k) = tk) → tX12_makesClasses_53 G (d + 6) (fun y h4 => zR x ∧ x = y ∧ Inv h4) m (!tk) N acc' c 0 h5 := fun acc' b0 b1 => l53 (D 0 4).toNat c 0 acc' h5 (by omega) (by omega) e (fun c' b' y0 y1 y2 y3 y4 => tab c' b' y0 y1 y2 y3 (by omega)) (fun h6 u1 u2 => by
        have := ih (c + 1) acc' h6 (by omega) b0 (by rw [show ((c + 1 : Nat) : Int) = (c : Int) + 1 by omega]; exact b1) u1 (by rw [show ((c + 1 : Nat) : Int) = (c : Int) + 1 by omega]; exact u2)
        rwa [show ((c + 1 : Nat) : Int) = (c : Int) + 1 by omega] at this)
      refine ⟨fun w => nx _ (zlor_R _ _) (fun k => ?_), fun w => nx _ (zlor_R _ _) (fun k => ?_)⟩
      · have w := bi_inj.mp w
        rw [tS_lor, a1 k]
        constructor
        · rintro (⟨y1, y2⟩ | y)
          · exact ⟨by omega, y2⟩
          · exact absurd y tS_0
        · rintro ⟨y1, y2⟩
          by_cases v : k = c
          · rw [v, w] at y2
            cases tk <;> cases y2
          · exact Or.inl ⟨by omega, y2⟩
      · have w : ¬ tb (h (h 3 m + 7) 6) (h (h 3 m + 16) c) = !tk := fun y => w (by rw [y])
        rw [tS_lor, tS_shl (by omega) (by omega), a1 k]
        constructor
        · rintro (⟨y1, y2⟩ | y)
          · exact ⟨by omega, y2⟩
          · rw [y]
            refine ⟨by omega, ?_⟩
            revert w
            cases tb (h (h 3 m + 7) 6) (h (h 3 m + 16) c) <;> cases tk <;> intro w
            · rfl
            · exact absurd rfl w
            · exact absurd rfl w
            · rfl
        · rintro ⟨y1, y2⟩
          by_cases v : k = c
          · exact Or.inr v
          · exact Or.inl ⟨by omega, y2⟩
  exact l19 N 0 0 h3 (by omega) zRL_0 (fun k => ⟨fun z => absurd z tS_0, fun z => absurd z.1.2 (by omega)⟩) (fun _ _ => rfl) (fun c' b' a0 _ _ _ a4 => absurd a4 (by omega))
theorem lOK_c {D : zH} {m en : Int} {S : Int → Int} {tk : Bool} (o1 : mOK D) (hp : pthP h (m + 7) D) (en0 : zRL en) (en1 : ∀ q, tS en q ↔ (0 ≤ q ∧ q < h (m + 7) 10) ∧ tb (h (m + 7) 6) (h (m + 16) q) = tk) : lOK (h (m + 7) 10) en (eA (CS h (m + 7)) S (D 0 4) (h (m + 7) 10).toNat) [] := by
  have hB := mO_bl o1
  have pn := pP_n hp
  have := lOK_t (T := CS h (m + 7)) (S := S) (nb := D 0 4) (en := en) (N := (h (m + 7) 10).toNat) (by omega) hB.1 en0 (fun k k0 k1 => tS_f (by omega) k1 (fun y => by have := (en1 k).mp y; omega)) (fun q b q0 q1 b0 b1 => by
    have := (pP_step hp o1 (c := q) (b := b) q0 (by omega) b0 b1).2.2
    omega)
  rwa [show (((h (m + 7) 10).toNat : Nat) : Int) = h (m + 7) 10 by omega] at this
theorem c_least {m : Int} (hI : Inv h) (hm : zR m) : twI G (d + 8) mX11_least mX12_least [vi m] h := by
  obtain ⟨n1, n2, n3⟩ := iM_n hI
  refine eX11_least (bX11_least_0 (q_mach hI hm (fun q => ⟨fun _ => ?_, fun z => (by cases z)⟩) (fun q => ⟨fun z => (by cases z), fun _ => sp_refused (eX12_least (bX12_least_0 (q_refusesOne (c := h 0 13) (by rw [zhw_m (by decide), n3]) (by omega) hm (fun _ => ⟨⟨by decide, by decide⟩, fun z => absurd z (by decide), fun _ => sm_refused ⟨zR_m1, rfl, Inv_k hI (by omega) (fun _ _ => rfl) rfl rfl (mK_refl _)⟩⟩) (fun z => absurd z q) (fun z => absurd z q))))⟩)))
  obtain ⟨m10, mc, o1, o2, o3, o4⟩ := iM_d hI q.1 q.2
  obtain ⟨D, eD⟩ : ∃ D, D = dOf h m := ⟨_, rfl⟩
  rw [← eD] at o1 o2 o3 o4
  refine ⟨m10, sp_drawClasses (d := d + 5) (tk := true) mc o1 o2 (pth_p o4) (fun h1 S en f1 hS eS en0 en1 dc lb => ?_)⟩
  have lok := lOK_c (S := S) o1 (pth_p o4) en0 en1
  have g1 : ∀ a, kp a → h1 a = h a := fun a k => f1 a (by unfold kp at k; omega)
  refine q_keepDraft (d := d + 2) hI g1 (f1 0 (by decide)) dc lok lb (fun x h2 kd o => ?_)
  have cx : CX h h1 h2 := ⟨g1, f1 0 (by decide), f1 466 (by decide), kd⟩
  exact eX12_least (bX12_least_0 (q_refusesOne (CX_64 hI cx (mK_0 h2)) (by omega) hm (fun z => absurd q z) (fun _ z => ⟨⟨by decide, by decide⟩, fun w => absurd w (by decide), fun _ => q_ref hI cx o (mK_0 h2) (fun w => by omega)⟩) (fun _ c10 => ⟨⟨by decide, by decide⟩, fun _ => q_makesClasses (tk := true) hI q o1 o3 o4 cx (mK_0 h2) c10 hS eS en0 en1 lok o, fun w => absurd (by decide) w⟩)))
theorem c_other {m : Int} (hI : Inv h) (hm : zR m) : twI G (d + 8) mX11_other mX12_other [vi m] h := by
  obtain ⟨n1, n2, n3⟩ := iM_n hI
  refine eX11_other (bX11_other_0 (q_mach hI hm (fun q => ⟨fun _ => ?_, fun z => (by cases z)⟩) (fun q => ⟨fun z => (by cases z), fun _ => sp_refused (eX12_other (bX12_other_0 (q_refusesOne (c := h 0 13) (by rw [zhw_m (by decide), n3]) (by omega) hm (fun _ => ⟨⟨by decide, by decide⟩, fun z => absurd z (by decide), fun _ => sm_refused ⟨zR_m1, rfl, Inv_k hI (by omega) (fun _ _ => rfl) rfl rfl (mK_refl _)⟩⟩) (fun z => absurd z q) (fun z => absurd z q))))⟩)))
  obtain ⟨m10, mc, o1, o2, o3, o4⟩ := iM_d hI q.1 q.2
  obtain ⟨D, eD⟩ : ∃ D, D = dOf h m := ⟨_, rfl⟩
  rw [← eD] at o1 o2 o3 o4
  refine ⟨m10, sp_drawClasses (d := d + 5) (tk := false) mc o1 o2 (pth_p o4) (fun h1 S en f1 hS eS en0 en1 dc lb => ?_)⟩
  have lok := lOK_c (S := S) o1 (pth_p o4) en0 en1
  have g1 : ∀ a, kp a → h1 a = h a := fun a k => f1 a (by unfold kp at k; omega)
  refine q_keepDraft (d := d + 2) hI g1 (f1 0 (by decide)) dc lok lb (fun x h2 kd o => ?_)
  have cx : CX h h1 h2 := ⟨g1, f1 0 (by decide), f1 466 (by decide), kd⟩
  exact eX12_other (bX12_other_0 (q_refusesOne (CX_64 hI cx (mK_0 h2)) (by omega) hm (fun z => absurd q z) (fun _ z => ⟨⟨by decide, by decide⟩, fun w => absurd w (by decide), fun _ => q_ref hI cx o (mK_0 h2) (fun w => by omega)⟩) (fun _ c10 => ⟨⟨by decide, by decide⟩, fun _ => q_makesClasses (tk := false) hI q o1 o3 o4 cx (mK_0 h2) c10 hS eS en0 en1 lok o, fun w => absurd (by decide) w⟩)))
end SW
