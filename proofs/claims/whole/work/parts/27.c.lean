/-! ===== parting words, the dead class ===== -/
/-- the first block behind which two sheaves are parted by one letter less -/
def isFb (Ap T : Int → Int) (nb s t b : Int) : Prop := (0 ≤ b ∧ b < nb) ∧ Ap (T (s * 128 + b) * 40 + T (t * 128 + b)) = Ap (s * 40 + t) - 1 ∧ ∀ c, 0 ≤ c → c < b → ¬ Ap (T (s * 128 + c) * 40 + T (t * 128 + c)) = Ap (s * 40 + t) - 1
theorem isFb_u {Ap T : Int → Int} {nb s t b c : Int} (h : isFb Ap T nb s t b) (h2 : isFb Ap T nb s t c) : b = c := by
  rcases Int.lt_trichotomy b c with z | z | z
  · exact absurd h.2.1 (h2.2.2 b h.1.1 z)
  · exact z
  · exact absurd h2.2.1 (h.2.2 c h2.1.1 z)
/-- the way of parting: k letters on, at s and t, behind block b -/
def isPw (Ap T : Int → Int) (nb s0 t0 : Int) : Nat → Int → Int → Int → Prop
  | 0, s, t, _ => s = s0 ∧ t = t0
  | k + 1, s, t, b => ∃ s1 t1 b1, isPw Ap T nb s0 t0 k s1 t1 b1 ∧ isFb Ap T nb s1 t1 b ∧ s = T (s1 * 128 + b) ∧ t = T (t1 * 128 + b)
theorem isPw_u {Ap T : Int → Int} {nb s0 t0 : Int} : ∀ {k : Nat} {s t b s' t' b' : Int}, isPw Ap T nb s0 t0 k s t b → isPw Ap T nb s0 t0 k s' t' b' → s = s' ∧ t = t' ∧ (0 < k → b = b')
  | 0, _, _, _, _, _, _, h, h' => ⟨h.1.trans h'.1.symm, h.2.trans h'.2.symm, fun z => absurd z (by omega)⟩
  | k + 1, _, _, _, _, _, _, h, h' => by
    obtain ⟨s1, t1, b1, p, q, e1, e2⟩ := h
    obtain ⟨s2, t2, b2, p', q', e1', e2'⟩ := h'
    obtain ⟨x, y, -⟩ := isPw_u p p'
    subst x y
    have := isFb_u q q'
    subst this
    exact ⟨e1.trans e1'.symm, e2.trans e2'.symm, fun _ => rfl⟩
section FB
variable {n nb : Int} {T Ap : Int → Int} {E : Int → Bool} {R : Nat}
theorem fb_ex (hT : ∀ s b, 0 ≤ s → s < n → 0 ≤ b → b < nb → 0 ≤ T (s * 128 + b) ∧ T (s * 128 + b) < n) (hA : ∀ s t, 0 ≤ s → s < n → 0 ≤ t → t < n → apE T nb E R s t (Ap (s * 40 + t))) {s t : Int} (s0 : 0 ≤ s) (s1 : s < n) (t0 : 0 ≤ t) (t1 : t < n) (h1 : 1 ≤ Ap (s * 40 + t)) : ∃ b, isFb Ap T nb s t b := by
  rcases hA s t s0 s1 t0 t1 with ⟨z, -⟩ | ⟨q, a, e, c, f⟩
  · omega
  · obtain ⟨r, er⟩ : ∃ r : Nat, q = r + 1 := ⟨q - 1, by omega⟩
    subst er
    rcases c with c | ⟨b, b0, b1, c⟩
    · exact absurd c (f r (by omega))
    · have x1 := hT s b s0 s1 b0 b1
      have x2 := hT t b t0 t1 b0 b1
      have hv : Ap (T (s * 128 + b) * 40 + T (t * 128 + b)) = Ap (s * 40 + t) - 1 := by
        have := (apE_is (r := r) (by omega) (hA _ _ x1.1 x1.2 x2.1 x2.2)).mpr ⟨c, fun q' hq z => f (q' + 1) (by omega) (Or.inr ⟨b, b0, b1, z⟩)⟩
        omega
      obtain ⟨b', y0, y1, y2, y3⟩ := least_b (P := fun b => Ap (T (s * 128 + b) * 40 + T (t * 128 + b)) = Ap (s * 40 + t) - 1) b0 b1 hv
      exact ⟨b', ⟨y0, y1⟩, y2, y3⟩
end FB
section CM2
variable {G : zG} {d : Nat} {h D : zH} {n nb C : Int} {E : Int → Bool} {R : Nat}
theorem sp_classesApart {K : Int → zH → Prop} {p c e : Int} (hc : 0 ≤ c ∧ c < 40) (he : 0 ≤ e ∧ e < 40) (h1 : 0 ≤ h (p + 9) c ∧ h (p + 9) c < 40) (h2 : 0 ≤ h (p + 9) e ∧ h (p + 9) e < 40) (k : K (h (p + 10) (h (p + 9) c * 40 + h (p + 9) e)) h) : zCi G d mX7_classesApart [vr 7 p, vi c, vi e] h K := eX7_classesApart (bX7_classesApart_0 ⟨hc, he, ⟨by omega, by omega⟩, k⟩)
theorem sp_partingBlock {K : Int → zH → Prop} {p c e i : Int} (hn : n ≤ 40) (hnb : 1 ≤ nb ∧ nb ≤ 128) (e7 : h p 7 = nb) (hT : ∀ s b, 0 ≤ s → s < n → 0 ≤ b → b < nb → 0 ≤ h (p + 2) (s * 128 + b) ∧ h (p + 2) (s * 128 + b) < n) (hA : ∀ s t, 0 ≤ s → s < n → 0 ≤ t → t < n → apE (h (p + 2)) nb E R s t (h (p + 10) (s * 40 + t))) (hR : R ≤ 40) (hc : 0 ≤ c ∧ c < 40) (he : 0 ≤ e ∧ e < 40) (h1 : 0 ≤ h (p + 9) c ∧ h (p + 9) c < n) (h2 : 0 ≤ h (p + 9) e ∧ h (p + 9) e < n) (hi : 0 ≤ i ∧ i < h (p + 10) (h (p + 9) c * 40 + h (p + 9) e)) (hi4 : i < 40) (k : ∀ s t b, isPw (h (p + 10)) (h (p + 2)) nb (h (p + 9) c) (h (p + 9) e) (i + 1).toNat s t b → 0 ≤ b ∧ b < nb → K b h) : zCi G (d + 1) mX7_partingBlock [vr 7 p, vi c, vi e, vi i] h K := by
  have l22 : ∀ (f k' : Nat) (s t b : Int), (k' : Int) + f = i + 1 → (0 ≤ s ∧ s < n) → (0 ≤ t ∧ t < n) → (0 < k' → 0 ≤ b ∧ b < nb) → isPw (h (p + 10)) (h (p + 2)) nb (h (p + 9) c) (h (p + 9) e) k' s t b → h (p + 10) (s * 40 + t) = h (p + 10) (h (p + 9) c * 40 + h (p + 9) e) - k' → tX7_partingBlock_22 G d K p i s t b k' h := by
    intro f
    induction f with
    | zero =>
      intro k' s t b hk hs ht hb pw av
      refine bX7_partingBlock_22 ⟨⟨by omega, by omega⟩, ⟨by omega, by omega⟩, fun _ => ?_, fun z => absurd (show i < (k' : Int) by omega) z⟩
      have := k s t b
      rw [show (i + 1).toNat = k' by omega] at this
      exact this pw (hb (by omega))
    | succ f ih =>
      intro k' s t b hk hs ht hb pw av
      obtain ⟨fb, hfb⟩ := fb_ex (Ap := h (p + 10)) hT hA hs.1 hs.2 ht.1 ht.2 (by omega)
      have fbr := hfb.1
      obtain ⟨fbr0, fbr1⟩ := fbr
      have x1 := hT s fb hs.1 hs.2 hfb.1.1 hfb.1.2
      have x2 := hT t fb ht.1 ht.2 hfb.1.1 hfb.1.2
      have nx : tX7_partingBlock_22 G d K p i (h (p + 2) (s * 128 + fb)) (h (p + 2) (t * 128 + fb)) fb ((k' : Int) + 1) h := by
        have := ih (k' + 1) (h (p + 2) (s * 128 + fb)) (h (p + 2) (t * 128 + fb)) fb (by omega) x1 x2 (fun _ => hfb.1) ⟨s, t, b, pw, hfb, rfl, rfl⟩ (by rw [hfb.2.1, av]; omega)
        rw [show ((k' + 1 : Nat) : Int) = (k' : Int) + 1 by omega] at this
        exact this
      have two : zCi G d mX7_sheafStep [vr 7 p, vi s, vi fb] h (fun x1 h2 => zCi G d mX7_sheafStep [vr 7 p, vi t, vi fb] h2 (fun x3 h4 => tX7_partingBlock_22 G d K p i x1 x3 fb ((k' : Int) + 1) h4)) := sp_sheafStep (by omega) (by omega) (sp_sheafStep (by omega) (by omega) nx)
      have l55 : ∀ (f2 : Nat) (b2 : Int), 0 ≤ b2 → b2 + f2 = fb → tX7_partingBlock_55 G d K p i s t b2 k' (h (p + 10) (s * 40 + t) - 1) h := by
        intro f2
        induction f2 with
        | zero =>
          intro b2 b0 bf
          have eb : b2 = fb := by omega
          subst eb
          have rg := apE_rg (hA _ _ x1.1 x1.2 x2.1 x2.2)
          have rg2 := apE_rg (hA s t hs.1 hs.2 ht.1 ht.2)
          refine bX7_partingBlock_55 ?_
          rw [e7]
          exact ⟨⟨by omega, by omega⟩, ⟨by omega, by omega⟩, fun _ => two, fun _ => sp_sheafStep (by omega) (by omega) (sp_sheafStep (by omega) (by omega) ⟨⟨by omega, by omega⟩, ⟨by omega, by omega⟩, ⟨by omega, by omega⟩, fun _ => two, fun z => absurd hfb.2.1 z⟩)⟩
        | succ f2 ih2 =>
          intro b2 b0 bf
          have y1 := hT s b2 hs.1 hs.2 b0 (by omega)
          have y2 := hT t b2 ht.1 ht.2 b0 (by omega)
          have rg := apE_rg (hA _ _ y1.1 y1.2 y2.1 y2.2)
          have rg2 := apE_rg (hA s t hs.1 hs.2 ht.1 ht.2)
          refine bX7_partingBlock_55 ?_
          rw [e7]
          exact ⟨⟨by omega, by omega⟩, ⟨by omega, by omega⟩, fun z => absurd z (by omega), fun _ => sp_sheafStep (by omega) (by omega) (sp_sheafStep (by omega) (by omega) ⟨⟨by omega, by omega⟩, ⟨by omega, by omega⟩, ⟨by omega, by omega⟩, fun z => absurd z (hfb.2.2 b2 b0 (by omega)), fun _ => ih2 (b2 + 1) (by omega) (by omega)⟩)⟩
      refine bX7_partingBlock_22 ⟨⟨by omega, by omega⟩, ⟨by omega, by omega⟩, fun z => absurd z (by omega), fun _ => ⟨⟨by omega, by omega⟩, fun z => absurd z (by omega), fun _ => ⟨⟨by omega, by omega⟩, l55 fb.toNat 0 (by omega) (by omega)⟩⟩⟩
  refine eX7_partingBlock (bX7_partingBlock_0 ⟨hc, he, ?_⟩)
  exact l22 (i + 1).toNat 0 _ _ 0 (by omega) h1 h2 (fun z => absurd z (by omega)) ⟨rfl, rfl⟩ (by omega)
theorem sm_parting77 {K : Int → zH → Prop} {m i s0 t0 N : Int} {B T Pa Vi Ki He Ap : Int → Int} (hm : 0 ≤ m ∧ m < 14) (hD : mOK D) (hr : mRep h m D) (hn : n ≤ 40) (g : mGt D h 0 n B T Pa Vi) (so : mSo h 0 n C Ki He Ap R) (hT : ∀ s b, 0 ≤ s → s < n → 0 ≤ b → b < D 0 4 → 0 ≤ T (s * 128 + b) ∧ T (s * 128 + b) < n) (hA : ∀ s t, 0 ≤ s → s < n → 0 ≤ t → t < n → apE T (D 0 4) E R s t (Ap (s * 40 + t))) (hR : R ≤ 40) (hs0 : 0 ≤ s0 ∧ s0 < n) (ht0 : 0 ≤ t0 ∧ t0 < n) (eN : N = Ap (s0 * 40 + t0)) (hi : 0 ≤ i ∧ i < N) (hi4 : i < 40) (k : ∀ s t b, isPw Ap T (D 0 4) s0 t0 (i + 1).toNat s t b → 0 ≤ b ∧ b < D 0 4 → K (D 7 b) (zup (zup h 466 1 0) 466 2 (-1))) : tX12_partingLetter_77 G (d + 1) K m i N s0 t0 (-1) 0 h := by
  obtain ⟨u1, u2, u3, u4, u5⟩ := mS0 so
  have hB := mO_bl hD
  have N40 := apE_rg (hA s0 t0 hs0.1 hs0.2 ht0.1 ht0.2)
  have go : ∀ (f k' : Nat) (s t b : Int), (k' : Int) + f = i + 1 → (0 ≤ s ∧ s < n) → (0 ≤ t ∧ t < n) → (0 < k' → 0 ≤ b ∧ b < D 0 4) → isPw Ap T (D 0 4) s0 t0 k' s t b → Ap (s * 40 + t) = N - k' → tX12_partingLetter_77 G (d + 1) K m i N s t b k' h := by
    intro f
    induction f with
    | zero =>
      intro k' s t b hk hs ht hb pw av
      have hb := hb (by omega)
      refine bX12_partingLetter_77 ⟨⟨by omega, by omega⟩, ⟨by omega, by omega⟩, fun _ => ⟨⟨by omega, by omega⟩, ?_⟩, fun z => absurd (show i < (k' : Int) by omega) z⟩
      rw [hr.2.2.2 b hb.1 hb.2]
      have := k s t b
      rw [show (i + 1).toNat = k' by omega] at this
      exact sm_good (this pw hb)
    | succ f ih =>
      intro k' s t b hk hs ht hb pw av
      obtain ⟨fb, hfb⟩ := fb_ex (Ap := Ap) hT hA hs.1 hs.2 ht.1 ht.2 (by omega)
      have fbr := hfb.1
      obtain ⟨fbr0, fbr1⟩ := fbr
      have x1 := hT s fb hs.1 hs.2 hfb.1.1 hfb.1.2
      have x2 := hT t fb ht.1 ht.2 hfb.1.1 hfb.1.2
      have en : ∀ b, 0 ≤ b → b < D 0 4 → h 513 (T (s * 128 + b) * 40 + T (t * 128 + b)) = Ap (T (s * 128 + b) * 40 + T (t * 128 + b)) := fun b b0 b1 => by
        have y1 := hT s b hs.1 hs.2 b0 b1
        have y2 := hT t b ht.1 ht.2 b0 b1
        exact u4 _ _ y1.1 y1.2 y2.1 y2.2
      refine bX12_partingLetter_77 ⟨⟨by omega, by omega⟩, ⟨by omega, by omega⟩, fun z => absurd z (by omega), fun _ => ?_⟩
      refine sm_partingBlock (n := n) (T := T) (D := D) hm (Or.inl rfl) hn hB (by omega) hr.1.2.2.2.2 g.2.2.1 hT (fun s t a b c e => ?_) hs ht (fun b2 b0 b1 eb mn => ?_) (fun no => ?_)
      · rw [u4 s t a b c e]
        have := apE_rg (hA s t a b c e)
        exact ⟨by omega, by omega⟩
      · have eq : b2 = fb := by
          refine isFb_u (Ap := Ap) (T := T) (nb := D 0 4) (s := s) (t := t) ⟨⟨b0, b1⟩, ?_, fun c c0 c1 z => ?_⟩ hfb
          · rw [← en b2 b0 b1, eb, av]
          · refine mn c c0 c1 ?_
            rw [en c c0 (by omega), z, av]
        subst eq
        refine sm_goesTo (Or.inl rfl) (by omega) (by omega) (sm_goesTo (Or.inl rfl) (by omega) (by omega) ?_)
        rw [g.2.2.1 s b2 hs.1 hs.2 b0 b1, g.2.2.1 t b2 ht.1 ht.2 b0 b1]
        have := ih (k' + 1) (T (s * 128 + b2)) (T (t * 128 + b2)) b2 (by omega) x1 x2 (fun _ => hfb.1) ⟨s, t, b, pw, hfb, rfl, rfl⟩ (by rw [hfb.2.1, av]; omega)
        rw [show ((k' + 1 : Nat) : Int) = (k' : Int) + 1 by omega] at this
        exact this
      · exfalso
        refine no fb hfb.1.1 hfb.1.2 ?_
        rw [en fb hfb.1.1 hfb.1.2, hfb.2.1, av]
  exact go (i + 1).toNat 0 s0 t0 (-1) (by omega) hs0 ht0 (fun z => absurd z (by omega)) ⟨rfl, rfl⟩ (by omega)
end CM2
section CN
variable {G : zG} {d : Nat} {h : zH}
theorem sm_partedBy {K : Int → zH → Prop} {n C c e : Int} {Ki He Ap : Int → Int} {R : Nat} (hc : 0 ≤ c ∧ c < C) (he : 0 ≤ e ∧ e < C) (hC : C ≤ 40) (hn : n ≤ 40) (s : mSo h 0 n C Ki He Ap R) (h1 : 0 ≤ He c ∧ He c < n) (h2 : 0 ≤ He e ∧ He e < n) (k : K (if c = e then -2 else Ap (He c * 40 + He e)) h) : zCi G d mX12_partedBy [vr 12 466, vi c, vi e] h K := by
  obtain ⟨u1, u2, u3, u4, u5⟩ := mS0 s
  refine eX12_partedBy (bX12_partedBy_0 ⟨⟨by omega, by omega⟩, ⟨by omega, by omega⟩, fun q => ⟨by omega, by omega, ?_⟩, fun q => ?_⟩)
  · rw [u3 c hc.1 hc.2, u3 e he.1 he.2, u4 _ _ h1.1 h1.2 h2.1 h2.2]
    rw [if_neg q] at k
    exact ⟨⟨by omega, by omega⟩, k⟩
  · rw [if_pos q] at k
    exact k
theorem c_parting {m c e : Int} (hI : Inv h) (hm : zR m) (hc : zR c) (he : zR e) : twI G (d + 7) mX11_parting mX12_parting [vi m, vi c, vi e] h := by
  have b0 : ∀ w, bK h (zup (zup h 0 14 w) 466 0 0) := fun w => bK_w (fun _ _ => rfl) rfl
  refine eX11_parting (bX11_parting_0 (q_isClass hI hm hc (fun q q2 => ⟨fun z => (by cases z), fun _ => q_isClass hI hm he (fun _ q3 => ⟨fun _ => ⟨hc, he, ?_⟩, fun z => (by cases z)⟩) (fun q3 => ⟨fun z => (by cases z), fun _ => sp_refused (eX12_parting (bX12_parting_0 (q_isClassM hI (b0 1) hm hc (fun _ _ R _ h3 f _ _ => ⟨fun z => (by cases z), fun _ => q_isClassM hI (bK_m (b0 1) f) hm he (fun z1 z2 => absurd ⟨z1, z2⟩ q3) (fun _ h5 f5 => ⟨fun z => (by cases z), fun _ => sm_refused ⟨zR_m1, rfl, Inv_k hI (by omega) (fun _ _ => rfl) rfl rfl (mK_tr f f5)⟩⟩)⟩) (fun z => absurd ⟨q, q2⟩ z))))⟩)⟩) (fun q => ⟨fun _ => sp_refused (eX12_parting (bX12_parting_0 (q_isClassM hI (b0 1) hm hc (fun z1 z2 => absurd ⟨z1, z2⟩ q) (fun _ h3 f => ⟨fun _ => sm_refused ⟨zR_m1, rfl, Inv_k hI (by omega) (fun _ _ => rfl) rfl rfl f⟩, fun z => (by cases z)⟩)))), fun z => (by cases z)⟩)))
  obtain ⟨m10, mc, o1, o2, o3, o4⟩ := iM_d hI q.1 q.2
  obtain ⟨p7, pb, pt, R, pR, pc⟩ := pth_p o4
  have nn := pb.1
  have cc := cl_C pc
  have h1 := cl_He pc q2.1 q2.2
  have h2 := cl_He pc q3.1 q3.2
  have R40 := pc.2.2.2.2
  have rg := apE_rg (pc.2.2.2.1 _ _ h1.1 h1.2 h2.1 h2.2)
  have two : ∀ x, zR x → x = (if c = e then -2 else h (h 3 m + 7 + 10) (h (h 3 m + 7 + 9) c * 40 + h (h 3 m + 7 + 9) e)) → zCi G (d + 7) mX12_parting [vr 12 466, vi m, vi c, vi e] (zup h 0 14 0) (fun y h4 => zR x ∧ x = y ∧ Inv h4) := fun x hx ex => eX12_parting (bX12_parting_0 (q_isClassM hI (b0 0) hm hc (fun _ _ R _ h3 f _ _ => ⟨fun z => (by cases z), fun _ => q_isClassM hI (bK_m (b0 0) f) hm he (fun _ _ R2 _ h5 f5 g5 s5 => ⟨fun _ => sm_partedBy q2 q3 (by omega) (by omega) s5 h1 h2 (sm_good ⟨hx, ex, Inv_k hI (by omega) (fun _ _ => rfl) rfl rfl (mK_tr f f5)⟩), fun z => (by cases z)⟩) (fun z => absurd ⟨q, q3⟩ z)⟩) (fun z => absurd ⟨q, q2⟩ z)))
  refine ⟨fun z => ⟨m10, sp_classesApart (by omega) (by omega) (by omega) (by omega) (sp_granted (two _ ⟨by omega, by omega⟩ ?_))⟩, fun z => sp_granted (two _ ⟨by decide, by decide⟩ ?_)⟩
  · rw [if_neg z]
  · rw [if_pos z]
theorem c_partingLetter {m c e i : Int} (hI : Inv h) (hm : zR m) (hc : zR c) (he : zR e) (hi : zR i) : twI G (d + 7) mX11_partingLetter mX12_partingLetter [vi m, vi c, vi e, vi i] h := by
  have b0 : ∀ w, bK h (zup (zup h 0 14 w) 466 0 0) := fun w => bK_w (fun _ _ => rfl) rfl
  refine eX11_partingLetter (bX11_partingLetter_0 (q_isClass hI hm hc (fun q q2 => ⟨fun z => (by cases z), fun _ => q_isClass hI hm he (fun _ q3 => ⟨fun z => (by cases z), fun _ => ⟨hc, he, ?_⟩⟩) (fun q3 => ⟨fun _ => sp_refused (eX12_partingLetter (bX12_partingLetter_0 (q_isClassM hI (b0 1) hm hc (fun _ _ R _ h3 f _ _ => ⟨fun z => (by cases z), fun _ => q_isClassM hI (bK_m (b0 1) f) hm he (fun z1 z2 => absurd ⟨z1, z2⟩ q3) (fun _ h5 f5 => ⟨fun _ => sm_refused ⟨zR_m1, rfl, Inv_k hI (by omega) (fun _ _ => rfl) rfl rfl (mK_tr f f5)⟩, fun z => (by cases z)⟩)⟩) (fun z => absurd ⟨q, q2⟩ z)))), fun z => (by cases z)⟩)⟩) (fun q => ⟨fun _ => sp_refused (eX12_partingLetter (bX12_partingLetter_0 (q_isClassM hI (b0 1) hm hc (fun z1 z2 => absurd ⟨z1, z2⟩ q) (fun _ h3 f => ⟨fun _ => sm_refused ⟨zR_m1, rfl, Inv_k hI (by omega) (fun _ _ => rfl) rfl rfl f⟩, fun z => (by cases z)⟩)))), fun z => (by cases z)⟩)))
  obtain ⟨m10, mc, o1, o2, o3, o4⟩ := iM_d hI q.1 q.2
  obtain ⟨p7, pb, pt, R, pR, pc⟩ := pth_p o4
  have nn := pb.1
  have cc := cl_C pc
  have hB := mO_bl o1
  have h1 := cl_He pc q2.1 q2.2
  have h2 := cl_He pc q3.1 q3.2
  have R40 := pc.2.2.2.2
  have rg := apE_rg (pc.2.2.2.1 _ _ h1.1 h1.2 h2.1 h2.2)
  have hT : ∀ s b, 0 ≤ s → s < h (h 3 m + 7) 0 → 0 ≤ b → b < dOf h m 0 4 → 0 ≤ h (h 3 m + 7 + 2) (s * 128 + b) ∧ h (h 3 m + 7 + 2) (s * 128 + b) < h (h 3 m + 7) 0 := fun s b a1 a2 a3 a4 => bfs_T pb a1 a2 a3 a4 o1
  -- the model, when both are classes
  have two : ∀ {x w : Int}, (∀ (R2 : Nat) (h5 : zH), mK (zup (zup h 0 14 w) 466 0 0) h5 → mGt (dOf h m) h5 0 (h (h 3 m + 7) 0) (h (h 3 m + 7 + 1)) (h (h 3 m + 7 + 2)) (h (h 3 m + 7 + 3)) (h (h 3 m + 7 + 4)) → mSo h5 0 (h (h 3 m + 7) 0) (h (h 3 m + 7) 10) (h (h 3 m + 7 + 8)) (h (h 3 m + 7 + 9)) (h (h 3 m + 7 + 10)) R2 → h (h 3 m + 7) 15 = R2 → (0 ≤ i → zCi G (d + 6) mX12_partedBy [vr 12 466, vi c, vi e] h5 (fun x9 h10 => zR i ∧ zR x9 ∧ (i < x9 → (0 ≤ c ∧ c < 80) ∧ (0 ≤ e ∧ e < 80) ∧ tX12_partingLetter_77 G (d + 6) (fun y h4 => zR x ∧ x = y ∧ Inv h4) m i x9 (h10 511 c) (h10 511 e) (-1) 0 h10) ∧ (¬ i < x9 → zCi G (d + 6) mX12_refused [vr 12 466, vi 1] h10 (fun x11 h12 => zR x ∧ x = x11 ∧ Inv h12)))) ∧ (¬ 0 ≤ i → zCi G (d + 6) mX12_refused [vr 12 466, vi 1] h5 (fun x13 h14 => zR x ∧ x = x13 ∧ Inv h14))) → zCi G (d + 7) mX12_partingLetter [vr 12 466, vi m, vi c, vi e, vi i] (zup h 0 14 w) (fun y h4 => zR x ∧ x = y ∧ Inv h4) := fun {x w} kk => eX12_partingLetter (bX12_partingLetter_0 (q_isClassM hI (b0 w) hm hc (fun _ _ R _ h3 f _ _ => ⟨fun z => (by cases z), fun _ => q_isClassM hI (bK_m (b0 w) f) hm he (fun _ _ R2 eR2 h5 f5 g5 s5 => ⟨fun z => (by cases z), fun _ => ⟨hi, kk R2 h5 (mK_tr f f5) g5 s5 eR2⟩⟩) (fun z => absurd ⟨q, q3⟩ z)⟩) (fun z => absurd ⟨q, q2⟩ z)))
  have Ik : ∀ {w : Int} {h5 : zH}, 0 ≤ w ∧ w ≤ 5 ∧ ¬ w = 4 → mK (zup (zup h 0 14 w) 466 0 0) h5 → Inv (zup (zup h5 466 1 w) 466 2 (-1)) := fun hw f => Inv_k hI hw (fun _ _ => rfl) rfl rfl f
  refine ⟨fun z => sp_refused (two (fun R2 h5 f g s eR => ⟨fun i0 => sm_partedBy q2 q3 (by omega) (by omega) s h1 h2 ?_, fun _ => sm_refused ⟨zR_m1, rfl, Ik (by omega) f⟩⟩)), fun z => ⟨m10, sp_classesApart (by omega) (by omega) (by omega) (by omega) (sp_isIn hi ⟨by omega, by omega⟩ ⟨fun q4 => ⟨m10, m10, ?_⟩, fun q4 => sp_refused (two (fun R2 h5 f g s eR => ⟨fun i0 => sm_partedBy q2 q3 (by omega) (by omega) s h1 h2 ?_, fun _ => sm_refused ⟨zR_m1, rfl, Ik (by omega) f⟩⟩))⟩)⟩⟩
  · rw [if_pos z]
    exact ⟨hi, ⟨by decide, by decide⟩, fun y => absurd y (by omega), fun _ => sm_refused ⟨zR_m1, rfl, Ik (by omega) f⟩⟩
  · have q4 := of_decide_eq_true q4
    refine sp_partingBlock (n := h (h 3 m + 7) 0) (by omega) hB p7 hT pc.2.2.2.1 R40 (by omega) (by omega) h1 h2 q4 (by omega) (fun s t b pw hb => ?_)
    have s7 := mO_s o1 hb.1 hb.2
    refine ⟨by omega, ?_⟩
    rw [o2.2.2.2 b hb.1 hb.2]
    refine sp_granted (two (fun R2 h5 f g so eR => ⟨fun i0 => sm_partedBy q2 q3 (by omega) (by omega) so h1 h2 ?_, fun y => absurd q4.1 y⟩))
    rw [if_neg z, (mS0 so).2.2.1 c q2.1 q2.2, (mS0 so).2.2.1 e q3.1 q3.2]
    have eRR : R2 = R := by omega
    subst eRR
    refine ⟨hi, ⟨by omega, by omega⟩, fun _ => ⟨by omega, by omega, ?_⟩, fun y => absurd q4.2 y⟩
    refine sm_parting77 (by omega) o1 (mRep_b (bK_m (b0 0) f) o3) (by omega) g so hT pc.2.2.2.1 R40 h1 h2 rfl q4 (by omega) (fun s' t' b' pw' hb' => ⟨⟨by omega, by omega⟩, ?_, Ik (by omega) f⟩)
    rw [(isPw_u pw pw').2.2 (by omega)]
  · have q4 := of_decide_eq_false q4
    rw [if_neg z]
    exact ⟨hi, ⟨by omega, by omega⟩, fun y => absurd ⟨i0, y⟩ q4, fun _ => sm_refused ⟨zR_m1, rfl, Ik (by omega) f⟩⟩
end CN
