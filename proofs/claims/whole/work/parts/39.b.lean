/-! ===== join: the case ===== -/
/-- a bank's classes -/
def bkC (h : zH) (bank n C nb : Int) (B T Ki He : Int → Int) : Prop := (∀ s, 0 ≤ s → s < n → h 505 (bank * 40 + s) = B s) ∧ (∀ s b, 0 ≤ s → s < n → 0 ≤ b → b < nb → h 507 ((bank * 40 + s) * 128 + b) = T (s * 128 + b)) ∧ (∀ s, 0 ≤ s → s < n → h 510 (bank * 40 + s) = Ki s) ∧ ∀ c, 0 ≤ c → c < C → h 511 (bank * 40 + c) = He c
theorem bkC_fr {h h' : zH} {bank n C nb : Int} {B T Ki He : Int → Int} (f : ∀ a, a = 505 ∨ a = 507 ∨ a = 510 ∨ a = 511 → h' a = h a) (k : bkC h bank n C nb B T Ki He) : bkC h' bank n C nb B T Ki He := by
  unfold bkC at k ⊢
  rw [f 505 (by omega), f 507 (by omega), f 510 (by omega), f 511 (by omega)]
  exact k
theorem mP_fr {h h' : zH} {n C1 C2 k0 : Int} {f g : Int → Int → Int} {S Vi De : Int → Int} (e88 : h' 466 88 = h 466 88) (e : ∀ a, 519 ≤ a → a ≤ 522 → h' a = h a) (k : mP h n C1 C2 f g S Vi De k0) : mP h' n C1 C2 f g S Vi De k0 := by
  unfold mP at k ⊢
  rw [e88, e 519 (by decide) (by decide), e 520 (by decide) (by decide), e 521 (by decide) (by decide), e 522 (by decide) (by decide)]
  exact k
section JJ
variable {G : zG} {d : Nat} {h : zH}
theorem sm_classGoesB {K : Int → zH → Prop} {bank n C nb c b : Int} {B T Ki He : Int → Int} (hbk : bank = 0 ∨ bank = 1) (bk : bkC h bank n C nb B T Ki He) (hn : n ≤ 40) (hb4 : nb ≤ 128) (hC : C ≤ n) (hc : 0 ≤ c ∧ c < C) (hh : 0 ≤ He c ∧ He c < n) (hb : 0 ≤ b ∧ b < nb) (ht : 0 ≤ T (He c * 128 + b) ∧ T (He c * 128 + b) < n) (k : K (Ki (T (He c * 128 + b))) h) : zCi G (d + 1) mX12_classGoes [vr 12 466, vi bank, vi c, vi b] h K := by
  refine eX12_classGoes (bX12_classGoes_0 ⟨by omega, ?_⟩)
  rw [bk.2.2.2 c hc.1 hc.2]
  refine sm_goesTo hbk (by omega) (by omega) ?_
  rw [bk.2.1 _ b hh.1 hh.2 hb.1 hb.2]
  refine ⟨by omega, ?_⟩
  rw [bk.2.2.1 _ ht.1 ht.2]
  exact k
theorem sm_classEndsB {K : Bool → zH → Prop} {D : zH} {bank n C nb c x m : Int} {B T Ki He : Int → Int} (hm : 0 ≤ m ∧ m < 14) (hr : mRep h m D) (hbk : bank = 0 ∨ bank = 1) (bk : bkC h bank n C nb B T Ki He) (hn : n ≤ 40) (hC : C ≤ n) (hx : tkOK D n B x) (hc : 0 ≤ c ∧ c < C) (hh : 0 ≤ He c ∧ He c < n) (k : K (tb x (He c)) h) : zCb G (d + 1) mX12_classEnds [vr 12 466, vi m, vi bank, vi c] h K := by
  refine eX12_classEnds (bX12_classEnds_0 ⟨by omega, ?_⟩)
  rw [bk.2.2.2 c hc.1 hc.2]
  exact sm_sheafEnds hm hbk hn hr.1.2.1 (bk.1 _ hh.1 hh.2) hx hh k
/-- the model goes through the pairs of classes -/
theorem q_joins {K : Int → zH → Prop} {H D E : zH} {a b F : Int} (hD : mOK D) (hE : mOK E) (ha : 0 ≤ a ∧ a < 14) (hb : 0 ≤ b ∧ b < 14) (ra : mRep H a D) (rb : mRep H b E) {l1 l2 : Int} (p1 : pthOK h l1 D) (p2 : pthOK h l2 E)
    (k : ∀ (h3 : zH) (S : Int → Int) (n acc U : Int) (p : Nat) (Vi De : Int → Int), mK H h3 → jC D E S n → h3 516 = S → h3 466 87 = n → mP h3 n (h (l1 + 7) 10) (h (l2 + 7) 10) (pST h l1 D S) (pST h l2 E S) S Vi De ((p : Int) * 256) → h3 466 88 = U → (p : Int) ≤ U → p ≤ 40 → ((p : Int) = U ∨ 40 < U) → zRL acc → (∀ q, tS acc q ↔ (0 ≤ q ∧ q < (p : Int)) ∧ ztr F (pTk h l1 (h3 519 q / 40)) (pTk h l2 (h3 519 q % 40)) = true) → (∀ q c, 0 ≤ q → q < (p : Int) → 0 ≤ c → c < n → (0 ≤ h3 523 (q * 256 + c) ∧ h3 523 (q * 256 + c) < U) ∧ h3 519 (h3 523 (q * 256 + c)) / 40 = pST h l1 D S (h3 519 q / 40) c ∧ h3 519 (h3 523 (q * 256 + c)) % 40 = pST h l2 E S (h3 519 q % 40) c) → tX12_join_74 G (d + 5) K a b F acc p h3) :
    zCv G (d + 5) mX12_sorts [vr 12 466, vi a, vi 0] H (fun h18 => zCv G (d + 5) mX12_sorts [vr 12 466, vi b, vi 1] h18 (fun h20 => zCv G (d + 5) mX12_cutsBoth [vr 12 466, vi a, vi b] h20 (fun h22 => zCv G (d + 5) mX12_pairsBegin [vr 12 466] h22 (fun h24 => zCi G (d + 5) mX12_pairOf [vr 12 466, vi 0, vi 0, vi (-1), vi 0] h24 (fun x25 h26 => tX12_join_74 G (d + 5) K a b F 0 0 h26))))) := by
  have hp := pth_p p1
  have hq := pth_p p2
  have pn := pP_n hp
  have qn := pP_n hq
  have hB := mO_bl hD
  have hC := mO_bl hE
  obtain ⟨-, b1, t1, R1, -, c1⟩ := id hp
  obtain ⟨-, b2, t2, R2, -, c2⟩ := id hq
  refine sm_sorts (d := d + 1) hD ha ra (Or.inl rfl) b1 t1 c1 (fun h4 fs1 g1 s1 => ?_)
  have k4 := mK_s fs1
  have rb4 : mRep h4 b E := mRep_fr (fun a x y => fs1.1 a (by omega) (by omega)) rb
  refine sm_sorts (d := d + 1) hE hb rb4 (Or.inr rfl) b2 t2 c2 (fun h5 fs2 g2 s2 => ?_)
  have k5 := mK_tr k4 (mK_s fs2)
  have ra5 : mRep h5 a D := mRep_fr (fun a x y => by rw [fs2.1 a (by omega) (by omega), fs1.1 a (by omega) (by omega)]) ra
  have rb5 : mRep h5 b E := mRep_fr (fun a x y => fs2.1 a (by omega) (by omega)) rb4
  have bk1 : bkC h5 0 (h (l1 + 7) 0) (h (l1 + 7) 10) (D 0 4) (h (l1 + 7 + 1)) (h (l1 + 7 + 2)) (h (l1 + 7 + 8)) (h (l1 + 7 + 9)) := by
    obtain ⟨-, x1, x2, -, -⟩ := g1
    obtain ⟨-, y1, y2, -, -⟩ := s1
    refine ⟨fun s s0 s1' => ?_, fun s c s0 s1' c0 c1' => ?_, fun s s0 s1' => ?_, fun c c0 c1' => ?_⟩
    · rw [(fs2.2.1 _ (by omega)).1]
      exact x1 s s0 s1'
    · rw [fs2.2.2.2.1 _ (by omega)]
      exact x2 s c s0 s1' c0 c1'
    · rw [(fs2.2.1 _ (by omega)).2.2.2.1]
      exact y1 s s0 s1'
    · rw [(fs2.2.1 _ (by omega)).2.2.2.2]
      exact y2 c c0 c1'
  have bk2 : bkC h5 1 (h (l2 + 7) 0) (h (l2 + 7) 10) (E 0 4) (h (l2 + 7 + 1)) (h (l2 + 7 + 2)) (h (l2 + 7 + 8)) (h (l2 + 7 + 9)) := ⟨g2.2.1, g2.2.2.1, s2.2.1, s2.2.2.1⟩
  refine sm_cutsBoth (d := d + 4) hD hE ha hb ra5 rb5 (fun h6 v1 v2 jc lr => ?_)
  obtain ⟨S, eS⟩ : ∃ S, h6 516 = S := ⟨_, rfl⟩
  obtain ⟨n, en⟩ : ∃ n, h6 466 87 = n := ⟨_, rfl⟩
  rw [eS, en] at jc lr
  have hS := jc.1
  have n256 := hS.1
  refine sm_pairsBegin (fun h7 w1 w2 w3 w4 => sm_pairOf0 (n := n) (S := S) (C1 := h (l1 + 7) 10) (C2 := h (l2 + 7) 10) (f := pST h l1 D S) (g := pST h l2 E S) (by omega) w3 w4 (fun h8 z1 z2 z3 z4 => ?_))
  -- what stays
  obtain ⟨FX, eFX⟩ : ∃ FX : zH → Prop, FX = fun h9 => (∀ a, ¬ (519 ≤ a ∧ a ≤ 523) → ¬ a = 466 → h9 a = h6 a) ∧ (∀ l, ¬ l = 88 → h9 466 l = h6 466 l) := ⟨_, rfl⟩
  have fxx : ∀ h9, FX h9 → (∀ a, ¬ (519 ≤ a ∧ a ≤ 523) → ¬ a = 466 → h9 a = h6 a) ∧ (∀ l, ¬ l = 88 → h9 466 l = h6 466 l) ∧ mK H h9 ∧ mRep h9 a D ∧ mRep h9 b E ∧ bkC h9 0 (h (l1 + 7) 0) (h (l1 + 7) 10) (D 0 4) (h (l1 + 7 + 1)) (h (l1 + 7 + 2)) (h (l1 + 7 + 8)) (h (l1 + 7 + 9)) ∧ bkC h9 1 (h (l2 + 7) 0) (h (l2 + 7) 10) (E 0 4) (h (l2 + 7 + 1)) (h (l2 + 7 + 2)) (h (l2 + 7 + 8)) (h (l2 + 7 + 9)) := fun h9 q => by
    rw [eFX] at q
    have e65 : ∀ a, ¬ a = 466 → ¬ (516 ≤ a ∧ a ≤ 523) → h9 a = h5 a := fun a x y => by rw [q.1 a (by omega) x, v1 a x (by omega)]
    refine ⟨q.1, q.2, mK_tr k5 ⟨fun a k => e65 a (by unfold kp at k; omega) (by unfold kp at k; omega), e65 0 (by decide) (by decide), fun j k => by rw [q.2 j (by unfold kms at k; omega), v2 j (by unfold kms at k; omega)]⟩, mRep_fr (fun a x y => e65 a (by omega) (by omega)) ra5, mRep_fr (fun a x y => e65 a (by omega) (by omega)) rb5, bkC_fr (fun a x => e65 a (by omega) (by omega)) bk1, bkC_fr (fun a x => e65 a (by omega) (by omega)) bk2⟩
  have FX8 : FX h8 := by
    rw [eFX]
    exact ⟨fun a x y => by rw [z1 a (by omega) y, w1 a (by omega) y], fun l x => by rw [z2 l x, w2 l x]⟩
  -- a pair's row
  have l151 : ∀ (f : Nat) (p c : Nat) (acc : Int) (h9 : zH) (Vi De : Int → Int), FX h9 → (p : Int) < 40 → (p : Int) < h9 466 88 → (c : Int) + f = n → mP h9 n (h (l1 + 7) 10) (h (l2 + 7) 10) (pST h l1 D S) (pST h l2 E S) S Vi De ((p : Int) * 256 + c) → (∀ q c', 0 ≤ q → 0 ≤ c' → c' < n → q < (p : Int) ∨ (q = p ∧ c' < (c : Int)) → (0 ≤ h9 523 (q * 256 + c') ∧ h9 523 (q * 256 + c') < h9 466 88) ∧ h9 519 (h9 523 (q * 256 + c')) / 40 = pST h l1 D S (h9 519 q / 40) c' ∧ h9 519 (h9 523 (q * 256 + c')) % 40 = pST h l2 E S (h9 519 q % 40) c') → (∀ q, 0 ≤ q → q < (p : Int) + 1 → h9 519 q = h9 519 q) → (∀ (h10 : zH) (Vi' De' : Int → Int), FX h10 → h9 466 88 ≤ h10 466 88 → (∀ i, 0 ≤ i → i < h9 466 88 → h10 519 i = h9 519 i) → mP h10 n (h (l1 + 7) 10) (h (l2 + 7) 10) (pST h l1 D S) (pST h l2 E S) S Vi' De' (((p : Int) + 1) * 256) → (∀ q c', 0 ≤ q → 0 ≤ c' → c' < n → q < (p : Int) + 1 → (0 ≤ h10 523 (q * 256 + c') ∧ h10 523 (q * 256 + c') < h10 466 88) ∧ h10 519 (h10 523 (q * 256 + c')) / 40 = pST h l1 D S (h10 519 q / 40) c' ∧ h10 519 (h10 523 (q * 256 + c')) % 40 = pST h l2 E S (h10 519 q % 40) c') → tX12_join_74 G (d + 5) K a b F acc ((p : Int) + 1) h10) → tX12_join_151 G (d + 5) K a b F acc p (h9 519 p / 40) (h9 519 p % 40) c h9 := by
    intro f
    induction f with
    | zero =>
      intro p c acc h9 Vi De f9 p4 pu cf mp tab _ nx
      obtain ⟨x1, x2, x3, x4, x5, x6, x7⟩ := fxx h9 f9
      refine bX12_join_151 ?_
      rw [x2 87 (by decide), en]
      refine ⟨⟨by omega, by omega⟩, ⟨by omega, by omega⟩, fun _ => nx h9 Vi De f9 (Int.le_refl _) (fun _ _ _ => rfl) ?_ (fun q c' q0 c0 c1' q1 => tab q c' q0 c0 c1' (by omega)), fun z => absurd (by omega) z⟩
      have ec : (c : Int) = n := by omega
      rw [ec] at mp
      exact ⟨pbf_skip n256.2 mp.1, mp.2⟩
    | succ f ih =>
      intro p c acc h9 Vi De f9 p4 pu cf mp tab _ nx
      obtain ⟨x1, x2, x3, x4, x5, x6, x7⟩ := fxx h9 f9
      have pp := mp.1.2.1 p (by omega) pu
      have s5 := hS.2.2.1 c (by omega) (by omega)
      have lrc := lr c (by omega) (by omega)
      have db1 := (dB_ok hD s5.1).1
      have db2 := (dB_ok hE s5.1).1
      have e517 : h9 517 c = dB D (S c) := by rw [x1 517 (by decide) (by decide), lrc.1]
      have st1 := pP_step hp hD (c := h9 519 p / 40) (b := dB D (S c)) pp.1.1 pp.1.2 db1.1 db1.2
      have st2 := pP_step hq hE (c := h9 519 p % 40) (b := dB E (S c)) pp.2.1.1 pp.2.1.2 db2.1 db2.2
      refine bX12_join_151 ?_
      rw [x2 87 (by decide), en, e517]
      refine ⟨⟨by omega, by omega⟩, ⟨by omega, by omega⟩, fun z => absurd z (by omega), fun _ => ⟨by omega, sm_classGoesB (d := d + 4) (Or.inl rfl) x6 (by omega) hB.2 pn.2.2 pp.1 st1.1 db1 st1.2.1 ⟨by omega, ?_⟩⟩⟩
      have e518 : h9 518 c = dB E (S c) := by rw [x1 518 (by decide) (by decide), lrc.2]
      rw [e518]
      refine sm_classGoesB (d := d + 4) (Or.inr rfl) x7 (by omega) hC.2 qn.2.2 pp.2.1 st2.1 db2 st2.2.1 ⟨by omega, ?_⟩
      have e516 : h9 516 c = S c := by rw [x1 516 (by decide) (by decide), eS]
      rw [e516]
      have eA : h (l1 + 7 + 8) (h (l1 + 7 + 2) (h (l1 + 7 + 9) (h9 519 p / 40) * 128 + dB D (S c))) = pST h l1 D S (h9 519 p / 40) c := rfl
      have eB : h (l2 + 7 + 8) (h (l2 + 7 + 2) (h (l2 + 7 + 9) (h9 519 p % 40) * 128 + dB E (S c))) = pST h l2 E S (h9 519 p % 40) c := rfl
      rw [eA, eB]
      have fa : 0 ≤ pST h l1 D S (h9 519 p / 40) c ∧ pST h l1 D S (h9 519 p / 40) c < h (l1 + 7) 10 := st1.2.2
      have fb : 0 ≤ pST h l2 E S (h9 519 p % 40) c ∧ pST h l2 E S (h9 519 p % 40) c < h (l2 + 7) 10 := st2.2.2
      refine sm_pairOf2 (S := S) n256.2 (by omega) mp (by omega) (by omega) ⟨fa, fb⟩ rfl rfl rfl (fun h10 Vi' De' u1 u2 u3 u4 u5 => ⟨by omega, ?_⟩)
      obtain ⟨j, hj, ja, jb, -⟩ := u3.1.2.2.2.1 p c (by omega) (by omega) (by omega) (by omega) (by omega)
      have ja : h10 519 j / 40 = pST h l1 D S (h10 519 p / 40) c := ja
      have jb : h10 519 j % 40 = pST h l2 E S (h10 519 p % 40) c := jb
      have nj := (u3.1.2.1 j hj.1 hj.2).2.2
      have nj : h10 520 (h10 519 j / 40 * 40 + h10 519 j % 40) = j := nj
      have e9p := u5 p (by omega) pu
      rw [ja, jb, e9p] at nj
      rw [nj]
      have o : ∀ a, ¬ a = 523 → (zup h10 523 ((p : Int) * 256 + c) j) a = h10 a := fun a x => zup_ne x
      have f11 : FX (zup h10 523 ((p : Int) * 256 + c) j) := by
        rw [eFX]
        rw [eFX] at f9
        exact ⟨fun a x y => by rw [o a (by omega), u1 a (by omega) y, f9.1 a x y], fun l x => by rw [o 466 (by decide), u2 l x, f9.2 l x]⟩
      have e519 : ∀ i, (zup h10 523 ((p : Int) * 256 + c) j) 519 i = h10 519 i := fun i => by rw [o 519 (by decide)]
      have e88 : (zup h10 523 ((p : Int) * 256 + c) j) 466 88 = h10 466 88 := by rw [o 466 (by decide)]
      have := ih p (c + 1) acc (zup h10 523 ((p : Int) * 256 + c) j) Vi' De' f11 p4 (by rw [e88]; omega) (by omega) (mP_fr e88 (fun a x y => o a (by omega)) (by rw [show ((c + 1 : Nat) : Int) = (c : Int) + 1 by omega]; exact u3)) (fun q c' q0 c0 c1' hq' => by
        rw [e88, e519, e519]
        by_cases w : q * 256 + c' = (p : Int) * 256 + c
        · have w1 : q = p := by omega
          have w2 : c' = c := by omega
          rw [w1, w2, zup_eq]
          exact ⟨hj, ja, jb⟩
        · have t := tab q c' q0 c0 c1' (by omega)
          have q9 : h10 519 q = h9 519 q := u5 q q0 (by omega)
          have e523 : h10 523 (q * 256 + c') = h9 523 (q * 256 + c') := by rw [u1 523 (by decide) (by decide)]
          rw [zup_ns w, e523, q9, u5 _ t.1.1 t.1.2]
          exact ⟨by omega, t.2⟩) (fun _ _ _ => rfl) (fun h12 Vi2 De2 y1 y2 y3 y4 y5 => nx h12 Vi2 De2 y1 (by rw [e88] at y2; omega) (fun i i0 i1 => by rw [y3 i i0 (by rw [e88]; omega), e519, u5 i i0 i1]) y4 y5)
      rw [e519, e9p] at this
      rwa [show ((c + 1 : Nat) : Int) = (c : Int) + 1 by omega] at this
  have l74 : ∀ (f : Nat) (p : Nat) (acc : Int) (h9 : zH) (Vi De : Int → Int), p + f = 40 → FX h9 → (p : Int) ≤ h9 466 88 → mP h9 n (h (l1 + 7) 10) (h (l2 + 7) 10) (pST h l1 D S) (pST h l2 E S) S Vi De ((p : Int) * 256) → zRL acc → (∀ q, tS acc q ↔ (0 ≤ q ∧ q < (p : Int)) ∧ ztr F (pTk h l1 (h9 519 q / 40)) (pTk h l2 (h9 519 q % 40)) = true) → (∀ q c', 0 ≤ q → 0 ≤ c' → c' < n → q < (p : Int) → (0 ≤ h9 523 (q * 256 + c') ∧ h9 523 (q * 256 + c') < h9 466 88) ∧ h9 519 (h9 523 (q * 256 + c')) / 40 = pST h l1 D S (h9 519 q / 40) c' ∧ h9 519 (h9 523 (q * 256 + c')) % 40 = pST h l2 E S (h9 519 q % 40) c') → tX12_join_74 G (d + 5) K a b F acc p h9 := by
    intro f
    have stop : ∀ (p : Nat) (acc : Int) (h9 : zH) (Vi De : Int → Int), p ≤ 40 → ((p : Int) = h9 466 88 ∨ 40 < h9 466 88) → FX h9 → (p : Int) ≤ h9 466 88 → mP h9 n (h (l1 + 7) 10) (h (l2 + 7) 10) (pST h l1 D S) (pST h l2 E S) S Vi De ((p : Int) * 256) → zRL acc → (∀ q, tS acc q ↔ (0 ≤ q ∧ q < (p : Int)) ∧ ztr F (pTk h l1 (h9 519 q / 40)) (pTk h l2 (h9 519 q % 40)) = true) → (∀ q c', 0 ≤ q → 0 ≤ c' → c' < n → q < (p : Int) → (0 ≤ h9 523 (q * 256 + c') ∧ h9 523 (q * 256 + c') < h9 466 88) ∧ h9 519 (h9 523 (q * 256 + c')) / 40 = pST h l1 D S (h9 519 q / 40) c' ∧ h9 519 (h9 523 (q * 256 + c')) % 40 = pST h l2 E S (h9 519 q % 40) c') → tX12_join_74 G (d + 5) K a b F acc p h9 := by
      intro p acc h9 Vi De p4 hs f9 pu mp z0 z1 tab
      obtain ⟨x1, x2, x3, -⟩ := fxx h9 f9
      exact k h9 S n acc _ p Vi De x3 jc (by rw [x1 516 (by decide) (by decide), eS]) (by rw [x2 87 (by decide), en]) mp rfl pu p4 hs z0 z1 (fun q c q0 q1 c0 c1' => tab q c q0 c0 c1' q1)
    induction f with
    | zero =>
      intro p acc h9 Vi De pf f9 pu mp z0 z1 tab
      exact stop p acc h9 Vi De (by omega) (by omega) f9 pu mp z0 z1 tab
    | succ f ih =>
      intro p acc h9 Vi De pf f9 pu mp z0 z1 tab
      by_cases s1 : (p : Int) = h9 466 88
      · exact stop p acc h9 Vi De (by omega) (Or.inl s1) f9 pu mp z0 z1 tab
      by_cases s2 : 40 < h9 466 88
      · exact stop p acc h9 Vi De (by omega) (Or.inr s2) f9 pu mp z0 z1 tab
      obtain ⟨x1, x2, x3, x4, x5, x6, x7⟩ := fxx h9 f9
      have pp := mp.1.2.1 p (by omega) (by omega)
      have p19 := mp.2.2 p (by omega) (by omega)
      have st1 := cl_He c1 pp.1.1 pp.1.2
      have st2 := cl_He c2 pp.2.1.1 pp.2.1.2
      refine bX12_join_74 ⟨⟨by omega, by omega⟩, ⟨by omega, by omega⟩, fun z => absurd z (by omega), fun _ => ⟨⟨by omega, by omega⟩, fun z => absurd z s2, fun _ => ⟨by omega, by omega, by omega, by omega, sm_classEndsB (d := d + 4) ha x4 (Or.inl rfl) x6 (by omega) pn.2.2 t1 pp.1 st1 (sm_classEndsB (d := d + 4) hb x5 (Or.inr rfl) x7 (by omega) qn.2.2 t2 pp.2.1 st2 (sm_holds ?_))⟩⟩⟩
      have nx : ∀ acc', zRL acc' → (∀ q, tS acc' q ↔ (0 ≤ q ∧ q < (p : Int) + 1) ∧ ztr F (pTk h l1 (h9 519 q / 40)) (pTk h l2 (h9 519 q % 40)) = true) → tX12_join_151 G (d + 5) K a b F acc' p (h9 519 p / 40) (h9 519 p % 40) 0 h9 := by
        intro acc' y0 y1
        refine l151 n.toNat p 0 acc' h9 Vi De f9 (by omega) (by omega) (by omega) (by rw [show ((0 : Nat) : Int) = 0 from rfl, Int.add_zero]; exact mp) (fun q c' q0 c0 c1' hq' => tab q c' q0 c0 c1' (by omega)) (fun _ _ _ => rfl) (fun h10 Vi' De' u1 u2 u3 u4 u5 => ?_)
        have := ih (p + 1) acc' h10 Vi' De' (by omega) u1 (by omega) (by rw [show ((p + 1 : Nat) : Int) = (p : Int) + 1 by omega]; exact u4) y0 (fun q => by
          rw [y1 q, show ((p + 1 : Nat) : Int) = (p : Int) + 1 by omega]
          constructor
          · rintro ⟨w1, w2⟩
            exact ⟨w1, by rw [u3 q w1.1 (by omega)]; exact w2⟩
          · rintro ⟨w1, w2⟩
            rw [u3 q w1.1 (by omega)] at w2
            exact ⟨w1, w2⟩) (by rw [show ((p + 1 : Nat) : Int) = (p : Int) + 1 by omega]; exact u5)
        rwa [show ((p + 1 : Nat) : Int) = (p : Int) + 1 by omega] at this
      have tt : ztr F (tb (h (l1 + 7) 6) (h (l1 + 7 + 9) (h9 519 p / 40))) (tb (h (l2 + 7) 6) (h (l2 + 7 + 9) (h9 519 p % 40))) = ztr F (pTk h l1 (h9 519 p / 40)) (pTk h l2 (h9 519 p % 40)) := rfl
      rw [tt]
      refine ⟨fun w => nx acc z0 (fun q => ?_), fun w => nx _ (zlor_R _ _) (fun q => ?_)⟩
      · rw [z1 q]
        constructor
        · rintro ⟨y1, y2⟩
          exact ⟨by omega, y2⟩
        · rintro ⟨y1, y2⟩
          by_cases v : q = p
          · rw [v, w] at y2
            cases y2
          · exact ⟨by omega, y2⟩
      · rw [tS_lor, tS_shl (by omega) (by omega), z1 q]
        constructor
        · rintro (⟨y1, y2⟩ | y)
          · exact ⟨by omega, y2⟩
          · rw [y]
            exact ⟨by omega, w⟩
        · rintro ⟨y1, y2⟩
          by_cases v : q = p
          · exact Or.inr v
          · exact Or.inl ⟨by omega, y2⟩
  exact l74 40 0 0 h8 _ _ (by omega) FX8 (by rw [z3]; decide) z4 zRL_0 (fun q => ⟨fun z => absurd z tS_0, fun z => absurd z.1.2 (by omega)⟩) (fun q c q0 _ _ q1 => absurd q1 (by omega))
end JJ
