/-! ===== the model finds the ranges of a set ===== -/
def mR (h h' : zH) : Prop := (∀ a, ¬ a = 466 → ¬ (468 ≤ a ∧ a ≤ 470) → h' a = h a) ∧ ∀ j, ¬ (6 ≤ j ∧ j ≤ 11) → ¬ j = 13 → ¬ j = 14 → ¬ j = 17 → h' 466 j = h 466 j
theorem mR_r (h : zH) : mR h h := ⟨fun _ _ _ => rfl, fun _ _ _ _ _ => rfl⟩
theorem mR_t {h1 h2 h3 : zH} (a : mR h1 h2) (b : mR h2 h3) : mR h1 h3 := ⟨fun x p q => (b.1 x p q).trans (a.1 x p q), fun j p q r s => (b.2 j p q r s).trans (a.2 j p q r s)⟩
theorem mR_B {T : Int} {h h' : zH} (f : mB T h h') : mR h h' := ⟨fun a p q => f.1 a p (by omega), fun j p q r _ => f.2.1 j p q r⟩
def MFR (h h' : zH) (n s : Int) : Prop := mR h h' ∧ FS h' n s
def scI (S : Int → Bool) (x c : Int) (lo hi : Int → Int) : Prop := (0 ≤ c ∧ c ≤ x) ∧ (∀ k, 0 ≤ k → k < c → 0 ≤ lo k ∧ lo k ≤ hi k ∧ hi k < x) ∧ (∀ k, 0 ≤ k → k + 1 < c → hi k + 1 < lo (k + 1)) ∧ (∀ z, 0 ≤ z → z < x → (S z = true ↔ ∃ k, (0 ≤ k ∧ k < c) ∧ lo k ≤ z ∧ z ≤ hi k)) ∧ (x < 65536 → S x = true → ∀ k, 0 ≤ k → k < c → hi k + 1 < x)
theorem scI_no {S : Int → Bool} {x y c : Int} {lo hi : Int → Int} (s : scI S x c lo hi) (xy : x < y) (no : ∀ z, x ≤ z → z < y → S z = false) : scI S y c lo hi := by
  obtain ⟨s1, s2, s3, s4, s5⟩ := s
  refine ⟨by omega, fun k a b => by have := s2 k a b; omega, s3, fun z z0 z1 => ?_, fun _ _ k a b => by have := s2 k a b; omega⟩
  by_cases w : z < x
  · exact s4 z z0 w
  · rw [no z (by omega) z1]
    refine ⟨fun q => (by cases q), fun ⟨k, k0, k1, k2⟩ => ?_⟩
    have := s2 k k0.1 k0.2
    omega
theorem scI_yes {S : Int → Bool} {x y c : Int} {lo hi : Int → Int} (s : scI S x c lo hi) (xy : x < y ∧ y ≤ 65536) (yes : ∀ z, x ≤ z → z < y → S z = true) (e : y < 65536 → S y = false) : scI S y (c + 1) (fup lo c x) (fup hi c (y - 1)) := by
  obtain ⟨s1, s2, s3, s4, s5⟩ := s
  have s5 := s5 (by omega) (yes x (by omega) xy.1)
  refine ⟨by omega, fun k a b => ?_, fun k a b => ?_, fun z z0 z1 => ?_, fun y1 y2 => ?_⟩
  · by_cases w : k = c
    · rw [w, fup_eq, fup_eq]
      omega
    · rw [fup_ne w, fup_ne w]
      have := s2 k a (by omega)
      omega
  · rw [fup_ne (show ¬ k = c by omega)]
    by_cases w : k + 1 = c
    · rw [w, fup_eq]
      exact s5 k a (by omega)
    · rw [fup_ne w]
      exact s3 k a (by omega)
  · by_cases w : z < x
    · rw [s4 z z0 w]
      constructor
      · rintro ⟨k, k0, k1⟩
        exact ⟨k, by omega, by rw [fup_ne (show ¬ k = c by omega), fup_ne (show ¬ k = c by omega)]; exact k1⟩
      · rintro ⟨k, k0, k1⟩
        by_cases v : k = c
        · rw [v, fup_eq, fup_eq] at k1
          omega
        · rw [fup_ne v, fup_ne v] at k1
          exact ⟨k, by omega, k1⟩
    · rw [yes z (by omega) z1]
      exact ⟨fun _ => ⟨c, by omega, by rw [fup_eq, fup_eq]; omega⟩, fun _ => rfl⟩
  · rw [e y1] at y2
    cases y2
section MF2
variable {G : zG} {d : Nat} {h : zH} {bs : Int → Int} {n : Int} {K Sp V En : Int → Int} {m i : Int} {L : List nsT}
theorem sm_bitAt {Q : Bool → zH → Prop} {S : Int → Bool} {x : Int} (b : bSt h 0 S) (hx : 0 ≤ x ∧ x < 65536) (k : Q (S x) h) : zCb G (d + 1) mX12_bitAt [vr 12 466, vi x] h Q := by
  refine eX12_bitAt (bX12_bitAt_0 ⟨by omega, by omega, by omega, sm_bit (by omega) ?_⟩)
  have := b x hx.1 hx.2
  rw [show (0 : Int) * 1024 + x / 64 = x / 64 by omega] at this
  rwa [this]
theorem bSt_w {S : Int → Bool} {x : Int} (b : bSt h 0 S) (hx : 0 ≤ x ∧ x < 65536) (x6 : x % 64 = 0) {v : Int} {c : Bool} (hv : ∀ k, 0 ≤ k → k < 64 → tb v k = c) (e : zcmp (h 468 (x / 64)) v = 0) : ∀ z, x ≤ z → z < x + 64 → S z = c := fun z z0 z1 => by
  have t := zcmp_tb.mp e (z % 64) (by omega) (by omega)
  rw [hv _ (by omega) (by omega), show x / 64 = z / 64 by omega] at t
  have := b z (by omega) (by omega)
  rw [show (0 : Int) * 1024 + z / 64 = z / 64 by omega] at this
  rw [← this, t]
theorem sm_foundRange {Q : Int → zH → Prop} {S : Int → Bool} {x c : Int} (b : bSt h 0 S) (hx : 0 ≤ x ∧ x < 65536) (sx : S x = true) (hc : h 466 17 = c) (c0 : 0 ≤ c ∧ c ≤ 65536) (k : ∀ (y : Int) (h' : zH), x < y ∧ y ≤ 65536 → (∀ z, x ≤ z → z < y → S z = true) → (y < 65536 → S y = false) → (∀ a, ¬ a = 466 → ¬ a = 469 → ¬ a = 470 → h' a = h a) → (∀ j, ¬ j = 17 → h' 466 j = h 466 j) → h' 466 17 = c + 1 → (c < 24 → h' 469 = fup (h 469) c x ∧ h' 470 = fup (h 470) c (y - 1)) → (¬ c < 24 → h' 469 = h 469 ∧ h' 470 = h 470) → Q y h') : zCi G (d + 2) mX12_foundRange [vr 12 466, vi x] h Q := by
  have fin : ∀ y, x < y ∧ y ≤ 65536 → (∀ z, x ≤ z → z < y → S z = true) → (y < 65536 → S y = false) → zR (h 466 17) ∧ (24 ≤ (h 466 17) → Q y (zup h 466 17 ((h 466 17) + 1))) ∧ (¬ 24 ≤ (h 466 17) → (0 ≤ (h 466 17) ∧ (h 466 17) < 24) ∧ (0 ≤ (h 466 17) ∧ (h 466 17) < 24) ∧ Q y (zup (zup (zup h 469 (h 466 17) x) 470 (h 466 17) (y - 1)) 466 17 ((h 466 17) + 1))) := fun y y0 al e => by
    rw [hc]
    refine ⟨⟨by omega, by omega⟩, fun g => k y _ y0 al e (fun a p _ _ => zup_ne p) (fun j p => zup_ns p) zup_eq (fun z => absurd z (by omega)) (fun _ => ⟨zup_ne (by decide), zup_ne (by decide)⟩), fun l => ⟨by omega, by omega, k y _ y0 al e (fun a p q r => by rw [zup_ne p, zup_ne r, zup_ne q]) (fun j p => by rw [zup_ns p, zup_ne (by decide), zup_ne (by decide)]) zup_eq (fun _ => ⟨by rw [zup_ne (by decide), zup_ne (by decide), zup_r], by rw [zup_ne (by decide), zup_r, zup_ne (by decide)]⟩) (fun z => absurd (by omega) z)⟩⟩
  have go : ∀ (f : Nat) (y : Int), x ≤ y ∧ y ≤ 65536 → 65536 - y ≤ f → (∀ z, x ≤ z → z < y → S z = true) → tX12_foundRange_2 G (d + 1) Q x y h := by
    intro f
    induction f with
    | zero =>
      intro y y0 yf al
      exact bX12_foundRange_2 ⟨⟨by omega, by omega⟩, fun _ => fin y (by omega) al (fun z => absurd z (by omega)), fun z => absurd (by omega) z⟩
    | succ f ih =>
      intro y y0 yf al
      by_cases w : 65536 ≤ y
      · exact bX12_foundRange_2 ⟨⟨by omega, by omega⟩, fun _ => fin y (by omega) al (fun z => absurd z (by omega)), fun z => absurd w z⟩
      · refine bX12_foundRange_2 ⟨⟨by omega, by omega⟩, fun z => absurd z w, fun _ => sm_bitAt b (by omega) ⟨fun e => fin y ⟨?_, by omega⟩ al (fun _ => e), fun e => ⟨by omega, fun n6 => ?_, fun e6 => ⟨by omega, by omega, fun nz => ?_, fun ez => ?_⟩⟩⟩⟩
        · by_cases q : y = x
          · rw [q, sx] at e
            cases e
          · omega
        · refine ih (y + 1) (by omega) (by omega) (fun z z0 z1 => ?_)
          by_cases q : z = y
          · rw [q]; exact e
          · exact al z z0 (by omega)
        · refine ih (y + 1) (by omega) (by omega) (fun z z0 z1 => ?_)
          by_cases q : z = y
          · rw [q]; exact e
          · exact al z z0 (by omega)
        · have := bSt_w b (by omega) e6 tb_all1 ez
          refine ih (y + 64) (by omega) (by omega) (fun z z0 z1 => ?_)
          by_cases q : z < y
          · exact al z z0 q
          · exact this z (by omega) z1
  exact eX12_foundRange (bX12_foundRange_0 (go 65536 x (by omega) (by omega) (fun z z0 z1 => absurd z1 (by omega))))
/-- all ranges of row 0 -/
theorem sm_scan {Q : zH → Prop} {S : Int → Bool} {at_ : Int} (b : bSt h 0 S) (h17 : h 466 17 = 0) (k : ∀ (c : Int) (lo hi : Int → Int) (h' : zH), (∀ a, ¬ a = 466 → ¬ a = 469 → ¬ a = 470 → h' a = h a) → (∀ j, ¬ j = 17 → h' 466 j = h 466 j) → h' 466 17 = c → 0 ≤ c ∧ c ≤ 65536 → rgs lo hi 0 c S → (∀ q, 0 ≤ q → q < c → q < 24 → h' 469 q = lo q ∧ h' 470 q = hi q) → zR (h' 466 17) ∧ ((h' 466 17) ≤ 24 → Q h') ∧ (¬ (h' 466 17) ≤ 24 → zCv G (d + 2) mX12_wrongThere [vr 12 466, vi 5, vi at_] h' (fun h2 => Q h2))) : tX12_readSet_34 G (d + 2) Q at_ 0 h := by
  have go : ∀ (f : Nat) (x c : Int) (lo hi : Int → Int) (h1 : zH), 0 ≤ x ∧ x ≤ 65536 → 65536 - x ≤ f → (∀ a, ¬ a = 466 → ¬ a = 469 → ¬ a = 470 → h1 a = h a) → (∀ j, ¬ j = 17 → h1 466 j = h 466 j) → h1 466 17 = c → scI S x c lo hi → (∀ q, 0 ≤ q → q < c → q < 24 → h1 469 q = lo q ∧ h1 470 q = hi q) → tX12_readSet_34 G (d + 2) Q at_ x h1 := by
    intro f
    induction f with
    | zero =>
      intro x c lo hi h1 x0 xf g1 g2 g3 sc g4
      obtain ⟨s1, s2, s3, s4, s5⟩ := sc
      exact bX12_readSet_34 ⟨⟨by omega, by omega⟩, fun _ => k c lo hi h1 g1 g2 g3 (by omega) ⟨fun q a e => by have := s2 q a e; omega, s3, fun z z0 z1 => s4 z z0 (by omega)⟩ g4, fun z => absurd (by omega) z⟩
    | succ f ih =>
      intro x c lo hi h1 x0 xf g1 g2 g3 sc g4
      by_cases w : 65536 ≤ x
      · obtain ⟨s1, s2, s3, s4, s5⟩ := sc
        exact bX12_readSet_34 ⟨⟨by omega, by omega⟩, fun _ => k c lo hi h1 g1 g2 g3 (by omega) ⟨fun q a e => by have := s2 q a e; omega, s3, fun z z0 z1 => s4 z z0 (by omega)⟩ g4, fun z => absurd w z⟩
      · have b1 : bSt h1 0 S := bSt_fr (fun w _ _ => by rw [g1 468 (by decide) (by decide) (by decide)]) b
        have c0 := sc.1
        have one : zCb G (d + 2) mX12_bitAt [vr 12 466, vi x] h1 (fun x3 h4 => (x3 = true → zCi G (d + 2) mX12_foundRange [vr 12 466, vi x] h4 (fun x5 h6 => tX12_readSet_34 G (d + 2) Q at_ x5 h6)) ∧ (x3 = false → tX12_readSet_34 G (d + 2) Q at_ (x + 1) h4)) := by
          refine sm_bitAt (d := d + 1) b1 (by omega) ⟨fun e => sm_foundRange b1 (by omega) e g3 (by omega) (fun y h' y0 al ey u1 u2 u3 u4 u5 => ?_), fun e => ih (x + 1) c lo hi h1 (by omega) (by omega) g1 g2 g3 (scI_no sc (by omega) (fun z z0 z1 => by rw [show z = x by omega]; exact e)) g4⟩
          refine ih y (c + 1) _ _ h' (by omega) (by omega) (fun a p q r => by rw [u1 a p q r, g1 a p q r]) (fun j p => by rw [u2 j p, g2 j p]) u3 (scI_yes sc y0 al ey) (fun q q0 q1 q2 => ?_)
          by_cases v : c < 24
          · rw [(u4 v).1, (u4 v).2]
            by_cases e2 : q = c
            · rw [e2, fup_eq, fup_eq, fup_eq, fup_eq]
              exact ⟨rfl, rfl⟩
            · rw [fup_ne e2, fup_ne e2, fup_ne e2, fup_ne e2]
              exact g4 q q0 (by omega) q2
          · rw [(u5 v).1, (u5 v).2, fup_ne (show ¬ q = c by omega), fup_ne (show ¬ q = c by omega)]
            exact g4 q q0 (by omega) q2
        refine bX12_readSet_34 ⟨⟨by omega, by omega⟩, fun z => absurd z w, fun _ => ⟨by omega, by omega, by omega, fun _ => one, fun e6 => ⟨fun _ => one, fun ez => ?_⟩⟩⟩
        exact ih (x + 64) c lo hi h1 (by omega) (by omega) g1 g2 g3 (scI_no sc (by omega) (bSt_w b1 (by omega) e6 tb_all0 ez)) g4
  exact go 65536 0 0 (fun _ => 0) (fun _ => 0) h (by omega) (by omega) (fun _ _ _ _ => rfl) (fun _ _ => rfl) h17 ⟨by omega, fun k a e => absurd e (by omega), fun k a e => absurd e (by omega), fun z z0 z1 => absurd z1 (by omega), fun _ _ k a e => absurd e (by omega)⟩ (fun q a e => absurd e (by omega))
theorem sm_readSet {Q : zH → Prop} (ts : tkS bs n K Sp V En m) (tb : TBm h L) (t : MT bs n K Sp V En m h i) (kF : ¬ (bd2 K Sp V L i).1 = 0 → ∀ h' : zH, MFR h h' (bd2 K Sp V L i).1 (bd2 K Sp V L i).2.1 → Q h') (kC : (bd2 K Sp V L i).1 = 0 → ∀ h' : zH, mR h h' → MT bs n K Sp V En m h' (bd2 K Sp V L i).2.2.1 → i < (bd2 K Sp V L i).2.2.1 → (0 ≤ h' 466 17 ∧ h' 466 17 ≤ 24) → rgs (h' 469) (h' 470) 0 (h' 466 17) (bd2 K Sp V L i).2.2.2 → Q h') : zCv G (d + 60) mX12_readSet [vr 12 466] h Q := by
  have tk := tkS_TK ts
  obtain ⟨h1, e1⟩ : ∃ h1, h1 = zup (zup (zup h 466 13 0) 466 14 0) 466 17 0 := ⟨_, rfl⟩
  have o1 : ∀ a, ¬ a = 466 → h1 a = h a := fun a p => by rw [e1, zup_ne p, zup_ne p, zup_ne p]
  have o2 : ∀ j, ¬ j = 13 → ¬ j = 14 → ¬ j = 17 → h1 466 j = h 466 j := fun j p q r => by rw [e1, zup_ns r, zup_ns q, zup_ns p]
  have fr1 : mR h h1 := ⟨fun a p _ => o1 a p, fun j _ q r s => o2 j q r s⟩
  have t1 : MT bs n K Sp V En m h1 i := MT_fr t (fun j p q => o2 j (by omega) (by omega) (by omega)) (o1 467 (by decide))
  have tb1 : TBm h1 L := by
    unfold TBm
    rw [o2 23 (by decide) (by decide) (by decide), o1 474 (by decide), o1 471 (by decide), o1 472 (by decide), o1 473 (by decide)]
    exact tb
  have e17 : h1 466 17 = 0 := by rw [e1, zup_eq]
  obtain ⟨PP, RR⟩ := mb_PR (G := G) (L := L) ts 902
  obtain ⟨r1, er1⟩ : ∃ r1, pr K Sp V L 902 false i 0 ff ff = r1 := ⟨_, rfl⟩
  obtain ⟨r, er⟩ : ∃ r, bod K Sp V L 902 i 0 = r := ⟨_, rfl⟩
  have eq : r = if ¬ r1.1 = 0 then r1 else pr K Sp V L 902 true r1.2.2.1 0 (fun _ => false) r1.2.2.2 := by
    rw [← er, ← er1]
    rfl
  have m9 := tk.1
  have i0 := t.2.2.2
  unfold bd2 at kF kC
  rw [er] at kF kC
  have esp : h 466 8 = Sp i := t.2.2.1.1
  have QB : ∀ h2 : zH, (¬ r.1 = 0 → MF 0 h1 h2 r.1 r.2.1 → zR (h2 466 10) ∧ ((h2 466 10) ≤ 0 → tX12_readSet_34 G (d + 57 + 2) Q (h 466 8) 0 h2) ∧ (¬ (h2 466 10) ≤ 0 → Q h2)) := fun h2 n0 mf => by
    have hf := FS_n mf.2
    rw [if_pos n0] at kF
    exact ⟨⟨by omega, by omega⟩, fun z => absurd z (by omega), fun _ => kF n0 h2 ⟨mR_t fr1 (mR_B mf.1), mf.2⟩⟩
  rw [show d + 60 = d + 57 + 2 + 1 by omega]
  refine eX12_readSet (bX12_readSet_0 ?_)
  rw [← e1]
  refine eX12_readBody (bX12_readBody_0 (eX12_readMeet (bX12_readMeet_0 (PP i 0 0 12 d h1 _ (by omega) t1 tb1 (by decide) (by rw [e1, zup_ns (by decide), zup_ns (by decide), zup_eq]) (by rw [e1, zup_ns (by decide), zup_eq]) (by decide) (by decide) r1 er1 (fun n0 h3 mf3 e3 => ?_) (fun z0 h3 fr3 t3 ip e3 e4 b3 => ?_)))))
  · rw [if_pos n0] at eq
    refine bX12_readMeet_4 (sm_is_f (FS_n mf3.2) ⟨fun z => (by cases z), fun _ => sm_is_f (FS_n mf3.2) ⟨fun _ => bX12_readBody_4 (sm_passes_f (FS_n mf3.2) ⟨fun _ => QB h3 (by rw [eq]; exact n0) (by rw [eq]; exact mf3), fun z => (by cases z)⟩), fun z => (by cases z)⟩⟩)
  · rw [if_neg (show ¬ ¬ _ from fun z => z z0)] at eq
    have X := RR r1.2.2.1 0 0 false 12 d h3 ff r1.2.2.2 (fun h2 => zR (h2 466 10) ∧ ((h2 466 10) ≤ 0 → tX12_readSet_34 G (d + 57 + 2) Q (h 466 8) 0 h2) ∧ (¬ (h2 466 10) ≤ 0 → Q h2)) (by omega) t3 (TBm_B fr3 tb1) (by decide) (by rw [e3, bi_f]; decide) e4 (by decide) (by decide) ⟨fun z => (by cases z), fun _ => ⟨rfl, b3⟩⟩ r eq.symm (fun n0 h4 mf4 e4' => QB h4 n0 (MF_t fr3 mf4)) (fun s0 h4 fr4 t4 ip4 u13 u14 b4 => ?_)
    · have cv : mKm G (d + 9 + 4 * 12 + 1) (fun h2 => zR (h2 466 10) ∧ ((h2 466 10) ≤ 0 → tX12_readSet_34 G (d + 57 + 2) Q (h 466 8) 0 h2) ∧ (¬ (h2 466 10) ≤ 0 → Q h2)) false = fun h4 => tX12_readBody_4 G (d + 9 + 4 * 12 + 1) (fun h2 => zR (h2 466 10) ∧ ((h2 466 10) ≤ 0 → tX12_readSet_34 G (d + 57 + 2) Q (h 466 8) 0 h2) ∧ (¬ (h2 466 10) ≤ 0 → Q h2)) h4 := by
        funext x
        exact propext ⟨fun y => y.2 rfl, fun y => ⟨fun z => (by cases z), fun _ => y⟩⟩
      rw [cv] at X
      exact X
    · rw [t4.1]
      refine ⟨⟨by decide, by decide⟩, fun _ => ?_, fun z => absurd (by decide) z⟩
      have frR : mR h h4 := mR_t fr1 (mR_t (mR_B fr3) (mR_B fr4))
      have e17' : h4 466 17 = 0 := by rw [fr4.2.1 17 (by decide) (by decide) (by decide), fr3.2.1 17 (by decide) (by decide) (by decide), e17]
      rw [if_neg (show ¬ ¬ _ from fun z => z s0)] at kF kC
      refine sm_scan b4 e17' (fun c lo hi h5 g1 g2 g3 c0 rg g4 => ?_)
      have fr5 : mR h h5 := mR_t frR ⟨fun a p q => g1 a p (by omega) (by omega), fun j p q r s => g2 j s⟩
      rw [g3]
      refine ⟨⟨by omega, by omega⟩, fun le => ?_, fun gt => ?_⟩
      · have rc : rcn r.2.2.2 24 := rgs_rcn rg (by omega)
        rw [if_neg (show ¬ rcB r.2.2.2 = false by rw [rcB_t.mpr rc]; decide)] at kC
        refine kC s0 h5 fr5 (MT_fr t4 (fun j p q => g2 j (by omega)) (g1 467 (by decide) (by decide) (by decide))) (by omega) (by omega) ?_
        rw [g3]
        obtain ⟨q1, q2, q3⟩ := rg
        refine ⟨fun k a e => ?_, fun k a e => ?_, fun z a e => ?_⟩
        · rw [(g4 k a e (by omega)).1, (g4 k a e (by omega)).2]
          exact q1 k a e
        · rw [(g4 k a (by omega) (by omega)).2, (g4 (k + 1) (by omega) e (by omega)).1]
          exact q2 k a e
        · rw [q3 z a e]
          constructor
          · rintro ⟨k, k0, k1⟩
            exact ⟨k, k0, by rw [(g4 k k0.1 k0.2 (by omega)).1, (g4 k k0.1 k0.2 (by omega)).2]; exact k1⟩
          · rintro ⟨k, k0, k1⟩
            rw [(g4 k k0.1 k0.2 (by omega)).1, (g4 k k0.1 k0.2 (by omega)).2] at k1
            exact ⟨k, k0, k1⟩
      · have nrc : rcB r.2.2.2 = false := by
          cases q : rcB r.2.2.2
          · rfl
          · have := rgs_rc rg (by omega) (rcB_t.mp q)
            omega
        rw [if_pos nrc] at kF
        rw [esp]
        refine sm_wrongThere (by rw [g2 10 (by decide), t4.1]) (by decide) (fun h6 y1 y2 y3 y4 y5 => kF (show ¬ (5 : Int) = 0 by decide) h6 ⟨mR_t fr5 ⟨fun a p _ => y1 a p, fun j p q r s => y2 j (by omega) (by omega) (by omega)⟩, y3, y4, y5, show 0 < (5 : Int) ∧ (5 : Int) ≤ 8 by decide⟩)
end MF2
