/-! ===== sure, least, other ===== -/
theorem eA_low {T : Int → Int → Int} {S : Int → Int} {nb : Int} (h : 1 ≤ nb) (q : Nat) : eLow (eA T S nb q) q := fun j a b => by
  obtain ⟨q', k, hq, -, e⟩ := eA_mem h (gE_mem a b)
  rw [e]
  exact hq.2
theorem lBk_t {h : zH} {T : Int → Int → Int} {S : Int → Int} {nb : Int} {N : Nat} (hS : dS S nb) (e10 : h 10 = S) (e11 : h 4 11 = nb) : lBk h (eA T S nb N) := fun x hx z z0 z1 q => by
  obtain ⟨q', k, -, -, e⟩ := eA_mem hS.1.1 hx
  rw [e10, e11]
  rw [e] at q
  exact bS_ch hS z0 (fun y => q (by show tX T S nb q' (T q' k) z = tX T S nb q' (T q' k) (z - 1); unfold tX; rw [y]))
theorem lOK_t {T : Int → Int → Int} {S : Int → Int} {nb en : Int} {N : Nat} (hN : 1 ≤ N) (hb : 1 ≤ nb) (h1 : zRL en) (h2 : ∀ k, (N : Int) ≤ k → k < 64 → tb en k = false) (hT : ∀ q b : Int, 0 ≤ q → q < N → 0 ≤ b → b < nb → 0 ≤ T q b ∧ T q b < N) : lOK N en (eA T S nb N) [] := by
  refine ⟨by omega, ⟨h1, h2⟩, fun x hx => ?_, fun x hx => absurd hx (List.not_mem_nil)⟩
  obtain ⟨q, k, hq, hk, e⟩ := eA_mem hb hx
  have := hT q k hq.1 hq.2 hk.1 hk.2
  rw [e]
  exact ⟨hq, this⟩
theorem zl_t : zln 507 = 10240 ∧ zln 497 = 1792 ∧ zln 524 = 5120 ∧ zln 523 = 10240 ∧ zln 516 = 256 := by decide +kernel
section SU
variable {G : zG} {d : Nat} {h D : zH}
/-- the draft's blocks are the machine's -/
theorem sp_cutSame {K : zH → Prop} {m n : Int} (mc : mcell m) (hD : mOK D) (hr : cRep h m D) (hn : zR n) (kk : ∀ h' : zH, fr11 h h' → drC h' n 0 [] [] → h' 4 11 = D 0 4 → dS (h' 10) (D 0 4) → (∀ b, 0 ≤ b → b < D 0 4 → h' 10 b = D 7 b) → K h') : zCv G (d + 1) mX2_begin [vr 2 4, vi n] h (fun h2 => zCv G (d + 1) mX2_cutLike [vr 2 4, vr 4 m, vi 0] h2 (fun h4 => K h4)) := by
  refine sp_begin hn (fun h1 b1 b2 b3 b4 b5 c1 => ?_)
  have d1 := drC_b b2 b3 b4 b5 c1
  have fr1 : fr11 h h1 := fun a p => b1 a (by omega) (by omega)
  refine sp_cutLike mc hD (fr11_c mc fr1 hr) (by omega) c1 (fun h2 v1 v2 c2 => ?_)
  obtain ⟨s1, s2, s3⟩ := ctS_cov c2 (0 :: sts D) (by have := sts_len hD; rw [List.length_cons]; omega) (fun z q => by
    rcases q with q | ⟨q | ⟨b, hb, q⟩ | q, q2⟩
    · rw [q]
      exact List.mem_cons_self
    · exact q.elim
    · rw [q, Int.add_zero]
      exact List.mem_cons_of_mem _ (sts_in hb.1 hb.2)
    · omega)
  have d2 := drC_cut d1 v1 v2 s1 (by
    rw [s2]
    exact ((ctS_cov c1 [0] (by decide) (fun z q => q.elim (fun q => by rw [q]; exact List.mem_singleton.mpr rfl) (fun q => q.1.elim))).2.1).symm)
  have hB := mO_bl hD
  have dD : dS (D 7) (D 0 4) := ⟨by omega, mO_0 hD, fun b b0 b1 => mO_s hD b0 b1, fun a b a0 a1 a2 => mO_r hD a0 a1 a2⟩
  obtain ⟨u1, u2⟩ := dS_u s1 dD (fun z => by
    rw [s3 z]
    constructor
    · rintro (q | ⟨q | ⟨b, hb, q⟩ | q, q2⟩)
      · exact ⟨0, by omega, by rw [mO_0 hD, q]⟩
      · exact q.elim
      · exact ⟨b, hb, by rw [q, Int.add_zero]⟩
      · omega
    · rintro ⟨b, hb, q⟩
      have := mO_s hD hb.1 hb.2
      exact Or.inr ⟨Or.inr (Or.inl ⟨b, hb, by rw [Int.add_zero]; exact q.symm⟩), by omega⟩)
  rw [u1] at s1 u2
  exact kk h2 (fr11_t fr1 (fun a p => v1 a (by omega) (by omega))) d2 u1 s1 u2
theorem sp_drawSheaves {K : zH → Prop} {m : Int} (mc : mcell m) (hD : mOK D) (hr : cRep h m D) (hp : pthP h (m + 7) D) (kk : ∀ (h' : zH) (S : Int → Int), fr11 h h' → dS S (D 0 4) → (∀ b, 0 ≤ b → b < D 0 4 → S b = D 7 b) → drC h' (h (m + 7) 0) (h (m + 7) 6) (eA (fun q b => h (m + 9) (q * 128 + b)) S (D 0 4) (h (m + 7) 0).toNat) [] → lBk h' (eA (fun q b => h (m + 9) (q * 128 + b)) S (D 0 4) (h (m + 7) 0).toNat) → K h') : zCv G (d + 2) mX2_drawSheaves [vr 2 4, vr 4 m] h K := by
  have pn := pP_n hp
  have hB := mO_bl hD
  have pb := hp.2.1
  refine eX2_drawSheaves (bX2_drawSheaves_0 (sp_cutSame mc hD hr ⟨by omega, by omega⟩ (fun h2 f2 d2 e11 hS eS => ?_)))
  obtain ⟨S, e10⟩ : ∃ S, h2 10 = S := ⟨_, rfl⟩
  rw [e10] at hS
  have eS : ∀ b, 0 ≤ b → b < D 0 4 → S b = D 7 b := fun b b0 b1 => by rw [← e10]; exact eS b b0 b1
  obtain ⟨T, eT⟩ : ∃ T : Int → Int → Int, T = fun q b => h (m + 9) (q * 128 + b) := ⟨_, rfl⟩
  rw [← eT] at kk
  obtain ⟨N, eN⟩ : ∃ N : Nat, (N : Int) = h (m + 7) 0 := ⟨(h (m + 7) 0).toNat, by omega⟩
  have eN2 : (h (m + 7) 0).toNat = N := by omega
  rw [eN2] at kk
  have fc : ∀ h1, fr11 h h1 → ∀ a, m ≤ a → a ≤ m + 18 → h1 a = h a := fun h1 f a x y => f a (by unfold mcell at mc; omega)
  have rT : ∀ q b : Int, 0 ≤ q → q < N → 0 ≤ b → b < D 0 4 → 0 ≤ T q b ∧ T q b < N := fun q b q0 q1 b0 b1 => by
    rw [eT]
    have := bfs_T pb q0 (by omega) b0 b1 hD
    rw [show m + 7 + 2 = m + 9 by omega] at this
    show 0 ≤ h (m + 9) (q * 128 + b) ∧ h (m + 9) (q * 128 + b) < N
    omega
  have l32 : ∀ (f : Nat) (q b : Nat) (h1 : zH), (q : Int) < N → (b : Int) + f = D 0 4 → fr11 h h1 → h1 10 = S → h1 4 11 = D 0 4 → drC h1 (h (m + 7) 0) 0 (eA T S (D 0 4) q ++ eP T S (D 0 4) q b b) [] → (∀ h3 : zH, fr11 h h3 → h3 10 = S → h3 4 11 = D 0 4 → drC h3 (h (m + 7) 0) 0 (eA T S (D 0 4) (q + 1)) [] → tX2_drawSheaves_19 G (d + 1) K m ((q : Int) + 1) h3) → tX2_drawSheaves_32 G (d + 1) K m q b h1 := by
    intro f
    induction f with
    | zero =>
      intro q b h1 q1 bf f1 x10 x11 dc nx
      refine bX2_drawSheaves_32 ?_
      rw [(fr11_c mc f1 hr).1.2.2.2.2]
      refine ⟨⟨by omega, by omega⟩, ⟨by omega, by omega⟩, fun _ => nx h1 f1 x10 x11 ?_, fun z => absurd (by omega) z⟩
      rw [eA_s, show (D 0 4).toNat = b by omega, ← eP_Q hB.1 (show D 0 4 ≤ (b : Int) by omega)]
      exact dc
    | succ f ih =>
      intro q b h1 q1 bf f1 x10 x11 dc nx
      refine bX2_drawSheaves_32 ?_
      rw [(fr11_c mc f1 hr).1.2.2.2.2]
      refine ⟨⟨by omega, by omega⟩, ⟨by omega, by omega⟩, fun z => absurd z (by omega), fun _ => sp_sheafStep (by omega) (by omega) ?_⟩
      rw [show m + 7 + 2 = m + 9 by omega, fc h1 f1 (m + 9) (by omega) (by omega)]
      have tq := rT q b (by omega) q1 (by omega) (by omega)
      have et : h (m + 9) ((q : Int) * 128 + b) = T q b := by rw [eT]
      rw [et]
      refine sp_lead hS (by omega) (by omega) x10 x11 (eA_low hB.1 q) ⟨by omega, by omega⟩ dc (fun h3 g1 g2 => ?_)
      have := ih q (b + 1) h3 q1 (by omega) (fr11_t f1 (fr11_d g1)) (by rw [g1.1 10 (by decide), x10]) (by rw [g1.2, x11]) g2 nx
      rwa [show ((b + 1 : Nat) : Int) = (b : Int) + 1 by omega] at this
  have l19 : ∀ (f : Nat) (q : Nat) (h1 : zH), q + f = N → fr11 h h1 → h1 10 = S → h1 4 11 = D 0 4 → drC h1 (h (m + 7) 0) 0 (eA T S (D 0 4) q) [] → tX2_drawSheaves_19 G (d + 1) K m q h1 := by
    intro f
    induction f with
    | zero =>
      intro q h1 qf f1 x10 x11 dc
      have eq : q = N := by omega
      subst eq
      refine bX2_drawSheaves_19 ?_
      rw [fc h1 f1 (m + 7) (by omega) (by omega)]
      exact ⟨⟨by omega, by omega⟩, ⟨by omega, by omega⟩, fun _ => kk _ S (fun a p => by rw [zup_ne (by omega)]; exact f1 a p) hS eS (drC_en dc) (lBk_en (lBk_t hS x10 x11)), fun z => absurd (by omega) z⟩
    | succ f ih =>
      intro q h1 qf f1 x10 x11 dc
      refine bX2_drawSheaves_19 ?_
      rw [fc h1 f1 (m + 7) (by omega) (by omega)]
      refine ⟨⟨by omega, by omega⟩, ⟨by omega, by omega⟩, fun z => absurd z (by omega), fun _ => l32 (D 0 4).toNat q 0 h1 (by omega) (by omega) f1 x10 x11 (by show drC h1 (h (m + 7) 0) 0 (eA T S (D 0 4) q ++ []) []; rw [List.append_nil]; exact dc) (fun h3 g1 g2 g3 g4 => ?_)⟩
      have := ih (q + 1) h3 (by omega) g1 g2 g3 g4
      rwa [show ((q + 1 : Nat) : Int) = (q : Int) + 1 by omega] at this
  exact l19 N 0 h2 (by omega) f2 e10 e11 d2
theorem sp_drawClasses {K : zH → Prop} {m : Int} {tk : Bool} (mc : mcell m) (hD : mOK D) (hr : cRep h m D) (hp : pthP h (m + 7) D) (kk : ∀ (h' : zH) (S : Int → Int) (en : Int), fr11 h h' → dS S (D 0 4) → (∀ b, 0 ≤ b → b < D 0 4 → S b = D 7 b) → zRL en → (∀ q, tS en q ↔ (0 ≤ q ∧ q < h (m + 7) 10) ∧ tb (h (m + 7) 6) (h (m + 16) q) = tk) → drC h' (h (m + 7) 10) en (eA (CS h (m + 7)) S (D 0 4) (h (m + 7) 10).toNat) [] → lBk h' (eA (CS h (m + 7)) S (D 0 4) (h (m + 7) 10).toNat) → K h') : zCv G (d + 2) mX2_drawClasses [vr 2 4, vr 4 m, vi (bi tk)] h K := by
  have pn := pP_n hp
  have hB := mO_bl hD
  refine eX2_drawClasses (bX2_drawClasses_0 (sp_cutSame mc hD hr ⟨by omega, by omega⟩ (fun h2 f2 d2 e11 hS eS => ?_)))
  obtain ⟨S, e10⟩ : ∃ S, h2 10 = S := ⟨_, rfl⟩
  rw [e10] at hS
  have eS : ∀ b, 0 ≤ b → b < D 0 4 → S b = D 7 b := fun b b0 b1 => by rw [← e10]; exact eS b b0 b1
  obtain ⟨T, eT⟩ : ∃ T : Int → Int → Int, T = CS h (m + 7) := ⟨_, rfl⟩
  rw [← eT] at kk
  obtain ⟨N, eN⟩ : ∃ N : Nat, (N : Int) = h (m + 7) 10 := ⟨(h (m + 7) 10).toNat, by omega⟩
  have eN2 : (h (m + 7) 10).toNat = N := by omega
  rw [eN2] at kk
  have fc : ∀ h1, fr11 h h1 → ∀ a, m ≤ a → a ≤ m + 18 → h1 a = h a := fun h1 f a x y => f a (by unfold mcell at mc; omega)
  have l33 : ∀ (f : Nat) (q b : Nat) (h1 : zH) (en : Int), (q : Int) < N → (b : Int) + f = D 0 4 → fr11 h h1 → h1 10 = S → h1 4 11 = D 0 4 → zRL en → (∀ k, tS en k ↔ (0 ≤ k ∧ k < q) ∧ tb (h (m + 7) 6) (h (m + 16) k) = tk) → drC h1 (h (m + 7) 10) en (eA T S (D 0 4) q ++ eP T S (D 0 4) q b b) [] → (∀ (h3 : zH) (en' : Int), fr11 h h3 → h3 10 = S → h3 4 11 = D 0 4 → zRL en' → (∀ k, tS en' k ↔ (0 ≤ k ∧ k < (q : Int) + 1) ∧ tb (h (m + 7) 6) (h (m + 16) k) = tk) → drC h3 (h (m + 7) 10) en' (eA T S (D 0 4) (q + 1)) [] → tX2_drawClasses_19 G (d + 1) K m tk ((q : Int) + 1) h3) → tX2_drawClasses_33 G (d + 1) K m tk q b h1 := by
    intro f
    induction f with
    | zero =>
      intro q b h1 en q1 bf f1 x10 x11 en0 en1 dc nx
      refine bX2_drawClasses_33 ?_
      rw [(fr11_c mc f1 hr).1.2.2.2.2]
      have st := pP_step hp hD (c := q) (b := 0) (by omega) (by omega) (by omega) (by omega)
      have f9 : h1 (m + 7 + 9) = h (m + 7 + 9) := fc h1 f1 _ (by omega) (by omega)
      refine ⟨⟨by omega, by omega⟩, ⟨by omega, by omega⟩, fun _ => sp_classTakes (by omega) (by rw [f9]; omega) ?_, fun z => absurd (by omega) z⟩
      rw [f9, fc h1 f1 (m + 7) (by omega) (by omega), show m + 7 + 9 = m + 16 by omega]
      have dc2 : drC h1 (h (m + 7) 10) en (eA T S (D 0 4) (q + 1)) [] := by
        rw [eA_s, show (D 0 4).toNat = b by omega, ← eP_Q hB.1 (show D 0 4 ≤ (b : Int) by omega)]
        exact dc
      have e48 : h1 4 8 = en := dc.1.2
      refine ⟨fun ne => nx h1 en f1 x10 x11 en0 (fun k => ?_) dc2, fun eq => ?_⟩
      · rw [en1 k]
        constructor
        · rintro ⟨a, b⟩
          exact ⟨by omega, b⟩
        · rintro ⟨a, b⟩
          by_cases w : k = q
          · rw [w] at b
            exact absurd (by rw [b]) ne
          · exact ⟨by omega, b⟩
      · rw [e48]
        refine nx _ _ (fun a p => by rw [zup_ne (by omega)]; exact f1 a p) (by rw [zup_ne (by decide), x10]) (by rw [zup_ns (by decide), x11]) (zlor_R _ _) (fun k => ?_) (drC_en dc2)
        rw [tS_lor, tS_shl (by omega) (by omega), en1 k]
        constructor
        · rintro (⟨a, b⟩ | a)
          · exact ⟨by omega, b⟩
          · rw [a]
            exact ⟨by omega, bi_inj.mp eq⟩
        · rintro ⟨a, b⟩
          by_cases w : k = q
          · exact Or.inr w
          · exact Or.inl ⟨by omega, b⟩
    | succ f ih =>
      intro q b h1 en q1 bf f1 x10 x11 en0 en1 dc nx
      refine bX2_drawClasses_33 ?_
      rw [(fr11_c mc f1 hr).1.2.2.2.2]
      have st := pP_step hp hD (c := q) (b := b) (by omega) (by omega) (by omega) (by omega)
      have f9 : h1 (m + 7 + 9) = h (m + 7 + 9) := fc h1 f1 _ (by omega) (by omega)
      have f22 : h1 (m + 7 + 2) = h (m + 7 + 2) := fc h1 f1 _ (by omega) (by omega)
      have f8 : h1 (m + 7 + 8) = h (m + 7 + 8) := fc h1 f1 _ (by omega) (by omega)
      refine ⟨⟨by omega, by omega⟩, ⟨by omega, by omega⟩, fun z => absurd z (by omega), fun _ => sp_classStep (by omega) (by rw [f9]; omega) (by omega) (by rw [f9, f22]; omega) ?_⟩
      rw [f9, f22, f8]
      have et : h (m + 7 + 8) (h (m + 7 + 2) (h (m + 7 + 9) q * 128 + b)) = T q b := by rw [eT]; rfl
      have tq : 0 ≤ T q b ∧ T q b < N := by rw [eT]; omega
      rw [et]
      refine sp_lead hS (by omega) (by omega) x10 x11 (eA_low hB.1 q) ⟨by omega, by omega⟩ dc (fun h3 g1 g2 => ?_)
      have := ih q (b + 1) h3 en q1 (by omega) (fr11_t f1 (fr11_d g1)) (by rw [g1.1 10 (by decide), x10]) (by rw [g1.2, x11]) en0 en1 g2 nx
      rwa [show ((b + 1 : Nat) : Int) = (b : Int) + 1 by omega] at this
  have l19 : ∀ (f : Nat) (q : Nat) (h1 : zH) (en : Int), q + f = N → fr11 h h1 → h1 10 = S → h1 4 11 = D 0 4 → zRL en → (∀ k, tS en k ↔ (0 ≤ k ∧ k < q) ∧ tb (h (m + 7) 6) (h (m + 16) k) = tk) → drC h1 (h (m + 7) 10) en (eA T S (D 0 4) q) [] → tX2_drawClasses_19 G (d + 1) K m tk q h1 := by
    intro f
    induction f with
    | zero =>
      intro q h1 en qf f1 x10 x11 en0 en1 dc
      have eq : q = N := by omega
      subst eq
      refine bX2_drawClasses_19 ?_
      rw [fc h1 f1 (m + 7) (by omega) (by omega)]
      exact ⟨⟨by omega, by omega⟩, ⟨by omega, by omega⟩, fun _ => kk _ S en f1 hS eS en0 (by rw [← eN]; exact en1) dc (lBk_t hS x10 x11), fun z => absurd (by omega) z⟩
    | succ f ih =>
      intro q h1 en qf f1 x10 x11 en0 en1 dc
      refine bX2_drawClasses_19 ?_
      rw [fc h1 f1 (m + 7) (by omega) (by omega)]
      refine ⟨⟨by omega, by omega⟩, ⟨by omega, by omega⟩, fun z => absurd z (by omega), fun _ => l33 (D 0 4).toNat q 0 h1 en (by omega) (by omega) f1 x10 x11 en0 en1 (by show drC h1 (h (m + 7) 10) en (eA T S (D 0 4) q ++ []) []; rw [List.append_nil]; exact dc) (fun h3 en' g1 g2 g3 g4 g5 g6 => ?_)⟩
      have := ih (q + 1) h3 en' (by omega) g1 g2 g3 g4 (by rw [show ((q + 1 : Nat) : Int) = (q : Int) + 1 by omega]; exact g5) g6
      rwa [show ((q + 1 : Nat) : Int) = (q : Int) + 1 by omega] at this
  exact l19 N 0 h2 0 (by omega) f2 e10 e11 zRL_0 (fun k => ⟨fun z => absurd z tS_0, fun z => absurd z.1.2 (by omega)⟩) d2
end SU
