/-! ===== found, foundLetter, same, within ===== -/
theorem wRun_c {f g : Int → Int → Int} {n : Int} (e : ∀ a b, 0 ≤ b → b < n → f a b = g a b) : ∀ v, wIn n v → wRun f v = wRun g v
  | [], _ => rfl
  | b :: u, hv => by
    show f (wRun f u) b = g (wRun g u) b
    have hb := hv b List.mem_cons_self
    rw [wRun_c e u (fun c hc => hv c (List.mem_cons_of_mem _ hc)), e _ b hb.1 hb.2]
theorem lw_in {n : Int} : ∀ {w : List Int} {i : Int}, wIn n w → 0 ≤ i → i < w.length → 0 ≤ lw w i ∧ lw w i < n
  | [], i, _, h0, h1 => absurd h1 (by simp; omega)
  | b :: u, i, hv, h0, h1 => by
    unfold lw
    by_cases c : (u.length : Int) = i
    · rw [if_pos c]
      exact hv b List.mem_cons_self
    · rw [if_neg c]
      rw [List.length_cons] at h1
      exact lw_in (fun x hx => hv x (List.mem_cons_of_mem _ hx)) h0 (by omega)
section PN
variable {G : zG} {d : Nat} {h : zH}
theorem sp_letterOnWay {K : Int → zH → Prop} {n C1 C2 U j i k0 : Int} {f g : Int → Int → Int} {Nu A B : Int → Int} {w : List Int} (hn : n ≤ 256) (hC : C1 ≤ 40 ∧ C2 ≤ 40) (pb : pbf n C1 C2 f g U Nu A B (h 237) (h 238) (h 239) k0) (hj : 0 ≤ j ∧ j < U) (hw : isW (h 237) (h 238) j w) (hi : 0 ≤ i ∧ i < h 239 j) (k : K (h 10 (lw w i)) h) : zCi G (d + 1) mX6_letterOnWay [vr 6 233, vi j, vi i] h K := by
  have uu := pbf_U hC pb
  have wr := W_run pb hj.1 hj.2 hw
  have go : ∀ (u : List Int) (t : Int), isW (h 237) (h 238) t u → 0 ≤ t ∧ t < U → lw u i = lw w i → i < u.length → (u.length : Int) ≤ 1600 → tX6_letterOnWay_12 G d K i t ((u.length : Int) - 1) h := by
    intro u
    induction u with
    | nil => exact fun t _ _ _ z => absurd z (by simp; omega)
    | cons b v ih =>
      rintro t ⟨t0, t1, t2⟩ t3 el li l16
      rw [List.length_cons] at li l16
      have q := pb.2.2.2.2.1 t t0 t3.2
      refine bX6_letterOnWay_12 ?_
      rw [List.length_cons, show ((v.length + 1 : Nat) : Int) - 1 = v.length by omega]
      refine ⟨⟨by omega, by omega⟩, ⟨by omega, by omega⟩, fun z => ⟨by omega, ⟨by omega, by omega⟩, by omega, ?_⟩, fun z => ⟨by omega, ⟨by omega, by omega⟩, fun z => absurd q.1.1 (by omega), fun _ => ⟨by omega, ?_⟩⟩⟩
      · rw [Int.max_eq_left q.2.1.1, t1]
        have e : b = lw (b :: v) i := by
          unfold lw
          rw [if_pos (by omega)]
        rw [e, el]
        exact k
      · have e : lw (b :: v) i = lw v i := by
          show (if (v.length : Int) = i then b else lw v i) = lw v i
          rw [if_neg (by omega)]
        exact ih (h 237 t) t2 (by omega) (by rw [← e, el]) (by omega) (by omega)
  have l16 : (w.length : Int) ≤ 1600 := by
    have dl : ∀ (u : List Int) (t : Int), 0 ≤ t → t < U → isW (h 237) (h 238) t u → (u.length : Int) ≤ t := by
      intro u
      induction u with
      | nil => exact fun t t0 _ _ => t0
      | cons b v ih =>
        rintro t t0 t1 ⟨q0, q1, q2⟩
        have q := pb.2.2.2.2.1 t q0 t1
        have := ih (h 237 t) q.1.1 (by omega) q2
        rw [List.length_cons]
        omega
    have := dl w j hj.1 hj.2 hw
    omega
  refine eX6_letterOnWay (bX6_letterOnWay_0 ⟨by omega, ?_⟩)
  rw [← wr.2.2.1] at hi ⊢
  exact go w j hw hj rfl hi.2 l16
theorem sm_pairLength {K : Int → zH → Prop} {n C1 C2 U j k0 : Int} {f g : Int → Int → Int} {Nu A B Vi De : Int → Int} {w : List Int} (hC : C1 ≤ 40 ∧ C2 ≤ 40) (pb : pbf n C1 C2 f g U Nu A B (h 521) Vi De k0) (hj : 0 ≤ j ∧ j < U) (hw : isW (h 521) Vi j w) (k : K w.length h) : zCi G d mX12_pairLength [vr 12 466, vi j] h K := by
  have uu := pbf_U hC pb
  have go : ∀ (u : List Int) (t c : Int), isW (h 521) Vi t u → 0 ≤ t ∧ t < U → c + u.length = w.length → tX12_pairLength_4 G d K c t h := by
    intro u
    induction u with
    | nil =>
      intro t c e0 t3 el
      have e : t = 0 := e0
      refine bX12_pairLength_4 ?_
      rw [e, pb.1.2.2.2.1]
      refine ⟨by omega, zR_m1, fun _ => ?_, fun z => absurd rfl z⟩
      have : c = w.length := by
        rw [List.length_nil] at el
        omega
      rw [this]
      exact k
    | cons b v ih =>
      rintro t c ⟨t0, t1, t2⟩ t3 el
      have q := pb.2.2.2.2.1 t t0 t3.2
      refine bX12_pairLength_4 ⟨by omega, ⟨by omega, by omega⟩, fun z => absurd q.1.1 (by omega), fun _ => ⟨by omega, ih _ _ t2 (by omega) ?_⟩⟩
      rw [List.length_cons] at el
      omega
  exact eX12_pairLength (bX12_pairLength_0 (go w j 0 hw hj (by omega)))
theorem sm_found79 {K : Int → zH → Prop} {n C1 C2 U j i k0 : Int} {f g : Int → Int → Int} {Nu A B Vi De S : Int → Int} {w : List Int} (hC : C1 ≤ 40 ∧ C2 ≤ 40) (pb : pbf n C1 C2 f g U Nu A B (h 521) Vi De k0) (lk : ∀ j, 0 < j → j < U → h 522 j = S (Vi j)) (hj : 0 ≤ j ∧ j < U) (hw : isW (h 521) Vi j w) (hi : 0 ≤ i ∧ i < w.length) (hiR : zR i) (k : K (S (lw w i)) (zup (zup h 466 1 0) 466 2 (-1))) : tX12_foundLetter_79 G d K i j ((w.length : Int) - 1) h := by
  have uu := pbf_U hC pb
  have go : ∀ (u : List Int) (t : Int), isW (h 521) Vi t u → 0 ≤ t ∧ t < U → lw u i = lw w i → i < u.length → (u.length : Int) ≤ 1600 → tX12_foundLetter_79 G d K i t ((u.length : Int) - 1) h := by
    intro u
    induction u with
    | nil => exact fun t _ _ _ z => absurd z (by simp; omega)
    | cons b v ih =>
      rintro t ⟨t0, t1, t2⟩ t3 el li l16
      rw [List.length_cons] at li l16
      have q := pb.2.2.2.2.1 t t0 t3.2
      refine bX12_foundLetter_79 ?_
      rw [List.length_cons, show ((v.length + 1 : Nat) : Int) - 1 = v.length by omega]
      refine ⟨⟨by omega, by omega⟩, hiR, fun z => ⟨by omega, sm_good ?_⟩, fun z => ⟨by omega, ?_⟩⟩
      · rw [lk t t0 t3.2, t1]
        have e : b = lw (b :: v) i := by
          unfold lw
          rw [if_pos (by omega)]
        rw [e, el]
        exact k
      · have e : lw (b :: v) i = lw v i := by
          show (if (v.length : Int) = i then b else lw v i) = lw v i
          rw [if_neg (by omega)]
        exact ih (h 521 t) t2 (by omega) (by rw [← e, el]) (by omega) (by omega)
  have l16 : (w.length : Int) ≤ 1600 := by
    have dl : ∀ (u : List Int) (t : Int), 0 ≤ t → t < U → isW (h 521) Vi t u → (u.length : Int) ≤ t := by
      intro u
      induction u with
      | nil => exact fun t t0 _ _ => t0
      | cons b v ih =>
        rintro t t0 t1 ⟨q0, q1, q2⟩
        have q := pb.2.2.2.2.1 t q0 t1
        have := ih (h 521 t) q.1.1 (by omega) q2
        rw [List.length_cons]
        omega
    have := dl w j hj.1 hj.2 hw
    omega
  exact go w j hw hj rfl hi.2 l16
/-- the class's answer, over two machines of the bench -/
theorem q_firstOf {K : Int → zH → Prop} {a b F : Int} (hI : Inv h) (ha : 0 ≤ a ∧ a < h 0 13) (hb : 0 ≤ b ∧ b < h 0 13)
    (k1 : ∀ (h' : zH) (j : Int) (w : List Int), (∀ a, kp a → h' a = h a) → h' 0 = h 0 → h' 466 = h 466 → jC (dOf h a) (dOf h b) (h' 10) (h' 4 11) → pB h h' (h 3 a) (h 3 b) (dOf h a) (dOf h b) (h' 10) (h' 4 11) (j * 256) → 0 ≤ j → j < h' 233 9 → j < 1600 → isW (h' 237) (h' 238) j w → fO (h' 4 11) (pST h (h 3 a) (dOf h a) (h' 10)) (pST h (h 3 b) (dOf h b) (h' 10)) (fun x c => ztr F (pTk h (h 3 a) x) (pTk h (h 3 b) c)) w → K j h')
    (k2 : ∀ h' : zH, (∀ a, kp a → h' a = h a) → h' 0 = h 0 → h' 466 = h 466 → jC (dOf h a) (dOf h b) (h' 10) (h' 4 11) → fN (h' 4 11) (pST h (h 3 a) (dOf h a) (h' 10)) (pST h (h 3 b) (dOf h b) (h' 10)) (fun x c => ztr F (pTk h (h 3 a) x) (pTk h (h 3 b) c)) → K (-1) h') : zCi G (d + 4) mX6_firstOf [vr 6 233, vr 4 (h 3 a), vr 4 (h 3 b), vi F] h K := by
  obtain ⟨a10, mc1, o1, o2, o3, o4⟩ := iM_d hI ha.1 ha.2
  obtain ⟨b10, mc2, u1, u2, u3, u4⟩ := iM_d hI hb.1 hb.2
  exact sp_firstOf mc1 mc2 o1 u1 o2 u2 (pth_p o4) (pth_p u4) (fun h' j w jc fx pb j0 j1 j2 hw ho => k1 h' j w (fun a ka => fx.1 a (by unfold kp at ka; omega) (by unfold kp at ka; omega) (by unfold kp at ka; omega)) (fx.1 0 (by decide) (by decide) (by decide)) (fx.1 466 (by decide) (by decide) (by decide)) jc pb j0 j1 j2 hw ho) (fun h' jc fx hn => k2 h' (fun a ka => fx.1 a (by unfold kp at ka; omega) (by unfold kp at ka; omega) (by unfold kp at ka; omega)) (fx.1 0 (by decide) (by decide) (by decide)) (fx.1 466 (by decide) (by decide) (by decide)) jc hn)
/-- the two agree on each word -/
theorem q_agree {a b F n n' : Int} {S S' : Int → Int} (hI : Inv h) (ha : 0 ≤ a ∧ a < h 0 13) (hb : 0 ≤ b ∧ b < h 0 13) (j1 : jC (dOf h a) (dOf h b) S n) (j2 : jC (dOf h a) (dOf h b) S' n') : n = n' ∧ (∀ b, 0 ≤ b → b < n → S b = S' b) ∧ ∀ v, wIn n v → (fun x c => ztr F (pTk h (h 3 a) x) (pTk h (h 3 b) c)) (wRun (pST h (h 3 a) (dOf h a) S) v) (wRun (pST h (h 3 b) (dOf h b) S) v) = (fun x c => ztr F (tb (h (h 3 a + 7) 6) x) (tb (h (h 3 b + 7) 6) c)) (wRun (fun x y => h (h 3 a + 7 + 2) (x * 128 + dB (dOf h a) (S' y))) v) (wRun (fun x y => h (h 3 b + 7 + 2) (x * 128 + dB (dOf h b) (S' y))) v) := by
  obtain ⟨a10, mc1, o1, o2, o3, o4⟩ := iM_d hI ha.1 ha.2
  obtain ⟨b10, mc2, u1, u2, u3, u4⟩ := iM_d hI hb.1 hb.2
  obtain ⟨e1, e2⟩ := dS_u j1.1 j2.1 (fun z => (j1.2 z).trans (j2.2 z).symm)
  refine ⟨e1, e2, fun v hv => ?_⟩
  obtain ⟨r1, q1⟩ := bis o1 (pth_p o4) j1.1 e2 v hv
  obtain ⟨r2, q2⟩ := bis u1 (pth_p u4) j1.1 e2 v hv
  show ztr F _ _ = ztr F _ _
  rw [q1, q2, bisT o1 (pth_p o4) r1, bisT u1 (pth_p u4) r2]
/-- the model's answer, behind the class's -/
theorem q_finds {K : Int → zH → Prop} {H : zH} {a b F n : Int} {S : Int → Int} (hI : Inv h) (hH : bK h H) (ha : 0 ≤ a ∧ a < h 0 13) (hb : 0 ≤ b ∧ b < h 0 13) (jc : jC (dOf h a) (dOf h b) S n)
    (k : (∃ w, fO n (pST h (h 3 a) (dOf h a) S) (pST h (h 3 b) (dOf h b) S) (fun x c => ztr F (pTk h (h 3 a) x) (pTk h (h 3 b) c)) w ∧ ∀ (h3 : zH) (k : Int) (C1 C2 U : Int) (f g : Int → Int → Int) (Nu A B Vi De S' : Int → Int), mK H h3 → (C1 ≤ 40 ∧ C2 ≤ 40) → pbf n C1 C2 f g U Nu A B (h3 521) Vi De (k * 256) → (∀ j, 0 < j → j < U → h3 522 j = S' (Vi j)) → (∀ b, 0 ≤ b → b < n → S b = S' b) → 0 ≤ k → k < U → k < 1600 → isW (h3 521) Vi k w → K k h3) ∨ (fN n (pST h (h 3 a) (dOf h a) S) (pST h (h 3 b) (dOf h b) S) (fun x c => ztr F (pTk h (h 3 a) x) (pTk h (h 3 b) c)) ∧ ∀ h3 : zH, mK H h3 → K (-1) h3)) : zCi G (d + 4) mX12_finds [vr 12 466, vi a, vi b, vi F] H K := by
  obtain ⟨a10, mc1, o1, o2, o3, o4⟩ := iM_d hI ha.1 ha.2
  obtain ⟨b10, mc2, u1, u2, u3, u4⟩ := iM_d hI hb.1 hb.2
  obtain ⟨p7, pb, pt, -⟩ := pth_p o4
  obtain ⟨q7, qb, qt, -⟩ := pth_p u4
  have nn1 := pb.1
  have nn2 := qb.1
  refine sm_finds o1 u1 (by omega) (by omega) (mRep_b hH o3) (mRep_b hH u3) pb pt qb qt (fun h3 j w Vi De f jc2 mp j0 j1 j2 hw ho => ?_) (fun h3 f jc2 hn => ?_)
  · obtain ⟨e1, e2, e3⟩ := q_agree (F := F) hI ha hb jc jc2
    rw [← e1] at mp ho
    rcases k with ⟨w', hw', kk⟩ | ⟨hn, kk⟩
    · rw [← fO_u e3 hw' ho] at hw
      exact kk h3 j _ _ _ _ _ _ _ _ Vi De (h3 516) (fdF_k f) (by omega) mp.1 mp.2.1 e2 j0 j1 j2 hw
    · exact (fON (fun v hv => (e3 v hv).symm) ho hn).elim
  · obtain ⟨e1, e2, e3⟩ := q_agree (F := F) hI ha hb jc jc2
    rw [← e1] at hn
    rcases k with ⟨w', hw', kk⟩ | ⟨hn', kk⟩
    · exact (fON e3 hw' hn).elim
    · exact kk h3 (fdF_k f)
theorem q_whyNoPair {K : Int → zH → Prop} {a b F : Int} (hI : Inv h) (ha : zR a) (hb : zR b) (hF : zR F) (k0 : (0 ≤ a ∧ a < h 0 13) → (0 ≤ b ∧ b < h 0 13) → (0 ≤ F ∧ F < 16) → K 0 h) (k1 : ¬ ((0 ≤ a ∧ a < h 0 13) ∧ (0 ≤ b ∧ b < h 0 13)) → K 1 h) (k2 : (0 ≤ a ∧ a < h 0 13) → (0 ≤ b ∧ b < h 0 13) → ¬ (0 ≤ F ∧ F < 16) → K 2 h) : zCi G (d + 2) mX11_whyNoPair [vr 11 0, vi a, vi b, vi F] h K :=
  eX11_whyNoPair (bX11_whyNoPair_0 (q_mach hI ha (fun q => ⟨fun z => (by cases z), fun _ => q_mach hI hb (fun q2 => ⟨fun _ => sp_isIn hF ⟨by decide, by decide⟩ ⟨fun z => k2 q q2 (of_decide_eq_false z), fun z => k0 q q2 (of_decide_eq_true z)⟩, fun z => (by cases z)⟩) (fun q2 => ⟨fun z => (by cases z), fun _ => k1 (fun z => q2 z.2)⟩)⟩) (fun q => ⟨fun _ => k1 (fun z => q z.1), fun z => (by cases z)⟩)))
theorem q_refusesTwo {K : Int → zH → Prop} {H : zH} {a b F : Int} (hI : Inv h) (hH : bK h H) (ha : zR a) (hb : zR b) (hF : zR F) (k0 : (0 ≤ a ∧ a < h 0 13) → (0 ≤ b ∧ b < h 0 13) → (0 ≤ F ∧ F < 16) → K 0 H) (k1 : ¬ ((0 ≤ a ∧ a < h 0 13) ∧ (0 ≤ b ∧ b < h 0 13)) → K 1 H) (k2 : (0 ≤ a ∧ a < h 0 13) → (0 ≤ b ∧ b < h 0 13) → ¬ (0 ≤ F ∧ F < 16) → K 2 H) : zCi G (d + 1) mX12_refusesTwo [vr 12 466, vi a, vi b, vi F] H K :=
  eX12_refusesTwo (bX12_refusesTwo_0 (q_machB hI hH ha (fun q => ⟨fun z => (by cases z), fun _ => q_machB hI hH hb (fun q2 => ⟨fun _ => sm_in hF ⟨by decide, by decide⟩ ⟨by decide, by decide⟩ ⟨fun z => k2 q q2 (fun y => of_decide_eq_false z (by omega)), fun z => k0 q q2 (by have := of_decide_eq_true z; omega)⟩, fun z => (by cases z)⟩) (fun q2 => ⟨fun z => (by cases z), fun _ => k1 (fun z => q2 z.2)⟩)⟩) (fun q => ⟨fun _ => k1 (fun z => q z.1), fun z => (by cases z)⟩)))
theorem c_found {a b f : Int} (hI : Inv h) (ha : zR a) (hb : zR b) (hf : zR f) : twI G (d + 7) mX11_found mX12_found [vi a, vi b, vi f] h := by
  refine eX11_found (bX11_found_0 (q_whyNoPair hI ha hb hf (fun q1 q2 q3 => ⟨⟨by decide, by decide⟩, fun _ => ?_, fun z => absurd rfl z⟩) (fun q => ⟨⟨by decide, by decide⟩, fun z => absurd z (by decide), fun _ => sp_refused (eX12_found (bX12_found_0 (q_refusesTwo hI (bK_w (fun _ _ => rfl) rfl) ha hb hf (fun z1 z2 _ => absurd ⟨z1, z2⟩ q) (fun _ => ⟨⟨by decide, by decide⟩, fun z => absurd z (by decide), fun _ => sm_refused ⟨zR_m1, rfl, Inv_k hI (by omega) (fun _ _ => rfl) rfl rfl (mK_refl _)⟩⟩) (fun z1 z2 _ => absurd ⟨z1, z2⟩ q))))⟩) (fun q1 q2 q3 => ⟨⟨by decide, by decide⟩, fun z => absurd z (by decide), fun _ => sp_refused (eX12_found (bX12_found_0 (q_refusesTwo hI (bK_w (fun _ _ => rfl) rfl) ha hb hf (fun _ _ z => absurd z q3) (fun z => absurd ⟨q1, q2⟩ z) (fun _ _ _ => ⟨⟨by decide, by decide⟩, fun z => absurd z (by decide), fun _ => sm_refused ⟨zR_m1, rfl, Inv_k hI (by omega) (fun _ _ => rfl) rfl rfl (mK_refl _)⟩⟩))))⟩)))
  obtain ⟨a10, -, -, -, -, o4⟩ := iM_d hI q1.1 q1.2
  obtain ⟨b10, -, -, -, -, u4⟩ := iM_d hI q2.1 q2.2
  have pn := pP_n (pth_p o4)
  have qn := pP_n (pth_p u4)
  refine ⟨a10, b10, q_firstOf hI q1 q2 (fun h2 j w e1 e2 e3 jc pb j0 j1 j2 hw ho => ⟨⟨by omega, by omega⟩, fun _ => ⟨by omega, sp_granted (eX12_found (bX12_found_0 (q_refusesTwo hI (bK_w e1 e3) ha hb hf (fun _ _ _ => ⟨⟨by decide, by decide⟩, fun _ => ?_, fun z => absurd z (by decide)⟩) (fun z => absurd ⟨q1, q2⟩ z) (fun _ _ z => absurd q3 z))))⟩, fun z => absurd j0 z⟩) (fun h2 e1 e2 e3 jc hn => ⟨zR_m1, fun z => absurd z (by decide), fun _ => sp_granted (eX12_found (bX12_found_0 (q_refusesTwo hI (bK_w e1 e3) ha hb hf (fun _ _ _ => ⟨⟨by decide, by decide⟩, fun _ => ?_, fun z => absurd z (by decide)⟩) (fun z => absurd ⟨q1, q2⟩ z) (fun _ _ z => absurd q3 z))))⟩)⟩
  · have dl := (W_run pb j0 j1 hw).2.2.1
    refine q_finds hI (bK_w e1 e3) q1 q2 jc (Or.inl ⟨w, ho, fun h3 k C1 C2 U f g Nu A B Vi De S' m hC pm lk eS k0 k1 k2 hw2 => ⟨⟨by omega, by omega⟩, fun _ => sm_pairLength hC pm ⟨k0, k1⟩ hw2 (sm_good ⟨?_, dl.symm, Inv_k hI (by omega) e1 e2 e3 m⟩), fun z => absurd k0 (by omega)⟩⟩)
    have dl : ∀ (u : List Int) (t : Int), 0 ≤ t → t < U → isW (h3 521) Vi t u → (u.length : Int) ≤ t := by
      intro u
      induction u with
      | nil => exact fun t t0 _ _ => t0
      | cons b v ih =>
        rintro t t0 t1 ⟨q0, q1, q2⟩
        have q := pm.2.2.2.2.1 t q0 t1
        have := ih (h3 521 t) q.1.1 (by omega) q2
        rw [List.length_cons]
        omega
    have := dl w k k0 k1 hw2
    have uu := pbf_U hC pm
    exact ⟨by omega, by omega⟩
  · exact q_finds hI (bK_w e1 e3) q1 q2 jc (Or.inr ⟨hn, fun h3 m => ⟨zR_m1, fun z => absurd rfl z, fun _ => sm_good ⟨⟨by decide, by decide⟩, rfl, Inv_k hI (by omega) e1 e2 e3 m⟩⟩⟩)
end PN
