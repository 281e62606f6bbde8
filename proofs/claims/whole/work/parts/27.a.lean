/-! ===== questions about sheaves and classes ===== -/
/-- what the model keeps while it works -/
def mK (H h3 : zH) : Prop := (∀ a, kp a → h3 a = H a) ∧ h3 0 = H 0 ∧ ∀ j, kms j → h3 466 j = H 466 j
theorem mK_refl (H : zH) : mK H H := ⟨fun _ _ => rfl, rfl, fun _ _ => rfl⟩
theorem mK_tr {H h3 h4 : zH} (a : mK H h3) (b : mK h3 h4) : mK H h4 := ⟨fun x k => (b.1 x k).trans (a.1 x k), b.2.1.trans a.2.1, fun j k => (b.2.2 j k).trans (a.2.2 j k)⟩
theorem mK_s {H h3 : zH} {bank : Int} (f : mFs bank H h3) : mK H h3 := ⟨fun a k => f.1 a (by unfold kp at k; omega) (by unfold kp at k; omega), f.1 0 (by decide) (by decide), fun j k => f.2.2.2.2 j (by unfold kms at k; omega)⟩
theorem mK_r {H h3 : zH} {bank : Int} (f : mFr bank H h3) : mK H h3 := ⟨fun a k => f.1 a (by unfold kp at k; omega), f.1 0 (by decide), fun j _ => by rw [f.1 466 (by decide)]⟩
theorem Inv_k {h h1 h3 : zH} {w : Int} (hI : Inv h) (hw : 0 ≤ w ∧ w ≤ 5 ∧ ¬ w = 4) (f1 : ∀ a, kp a → h1 a = h a) (f10 : h1 0 = h 0) (f1m : h1 466 = h 466) (k : mK (zup (zup h1 0 14 w) 466 0 0) h3) : Inv (zup (zup h3 466 1 w) 466 2 (-1)) := Inv_q2 hI hw f1 f10 f1m k.1 k.2.1 k.2.2
/-- the model's work begins in H, where the bench is that of h -/
def bK (h H : zH) : Prop := (∀ a, kp a → H a = h a) ∧ ∀ j, kms j → H 466 j = h 466 j
theorem bK_w {h h1 : zH} {w : Int} (f1 : ∀ a, kp a → h1 a = h a) (f1m : h1 466 = h 466) : bK h (zup (zup h1 0 14 w) 466 0 0) := ⟨fun a k => by rw [zup_ne (by unfold kp at k; omega), zup_ne (by unfold kp at k; omega), f1 a k], fun j k => by rw [zup_ns (by unfold kms at k; omega), zup_ne (by decide), f1m]⟩
theorem bK_m {h H h3 : zH} (a : bK h H) (b : mK H h3) : bK h h3 := ⟨fun x k => (b.1 x k).trans (a.1 x k), fun j k => (b.2.2 j k).trans (a.2 j k)⟩
theorem mRep_b {h H : zH} {i : Int} {D : zH} (f : bK h H) (k : mRep h i D) : mRep H i D := mRep_fr (fun a x y => f.1 a (by unfold kp; omega)) k
/-- paths, by their own cell -/
def pthP (h : zH) (p : Int) (D : zH) : Prop := h p 7 = D 0 4 ∧ bfs D (h p 0) (h (p + 1)) (h (p + 2)) (h (p + 3)) (h (p + 4)) (h (p + 5)) (h p 0 * 128) ∧ tkOK D (h p 0) (h (p + 1)) (h p 6) ∧ ∃ R : Nat, h p 15 = R ∧ clOK (h p 0) (h (p + 2)) (D 0 4) (tb (h p 6)) R (h p 10) (h (p + 8)) (h (p + 9)) (h (p + 10))
theorem pth_p {h : zH} {m : Int} {D : zH} (k : pthOK h m D) : pthP h (m + 7) D := by
  unfold pthP
  rw [show m + 7 + 1 = m + 8 by omega, show m + 7 + 2 = m + 9 by omega, show m + 7 + 3 = m + 10 by omega, show m + 7 + 4 = m + 11 by omega, show m + 7 + 5 = m + 12 by omega, show m + 7 + 8 = m + 15 by omega, show m + 7 + 9 = m + 16 by omega, show m + 7 + 10 = m + 17 by omega]
  exact k
theorem bfs_T {D : zH} {n : Int} {B T Pa Vi De : Int → Int} (h : bfs D n B T Pa Vi De (n * 128)) {s b : Int} (s0 : 0 ≤ s) (s1 : s < n) (b0 : 0 ≤ b) (b1 : b < D 0 4) (hD : mOK D) : 0 ≤ T (s * 128 + b) ∧ T (s * 128 + b) < n := by
  have := mO_bl hD
  exact (h.2.2.2.2.1 s b s0 s1 b0 b1 (by omega)).1
theorem cl_Ki {n : Int} {T : Int → Int} {nb : Int} {E : Int → Bool} {R : Nat} {C : Int} {Ki He Ap : Int → Int} (h : clOK n T nb E R C Ki He Ap) {s : Int} (s0 : 0 ≤ s) (s1 : s < n) : 0 ≤ Ki s ∧ Ki s < C := (h.2.2.1.1.2.1 s s0 s1).1
theorem cl_He {n : Int} {T : Int → Int} {nb : Int} {E : Int → Bool} {R : Nat} {C : Int} {Ki He Ap : Int → Int} (h : clOK n T nb E R C Ki He Ap) {c : Int} (c0 : 0 ≤ c) (c1 : c < C) : 0 ≤ He c ∧ He c < n := (h.2.2.1.1.2.2.1 c c0 c1).1
theorem cl_C {n : Int} {T : Int → Int} {nb : Int} {E : Int → Bool} {R : Nat} {C : Int} {Ki He Ap : Int → Int} (h : clOK n T nb E R C Ki He Ap) : 0 ≤ C ∧ C ≤ n := h.2.2.1.1.1
/-- bank 0, without its nought -/
theorem mG0 {D h : zH} {n : Int} {B T Pa Vi : Int → Int} (k : mGt D h 0 n B T Pa Vi) : h 506 0 = n ∧ (∀ s, 0 ≤ s → s < n → h 505 s = B s) ∧ (∀ s b, 0 ≤ s → s < n → 0 ≤ b → b < D 0 4 → h 507 (s * 128 + b) = T (s * 128 + b)) ∧ (∀ t, 0 ≤ t → t < n → h 508 t = Pa t) ∧ (∀ t, 0 < t → t < n → h 509 t = D 7 (Vi t)) := by
  obtain ⟨a, b, c, d, e⟩ := k
  refine ⟨a, fun s x y => ?_, fun s z x y u v => ?_, fun s x y => ?_, fun s x y => ?_⟩
  · have := b s x y
    rwa [show (0 : Int) * 40 + s = s by omega] at this
  · have := c s z x y u v
    rwa [show (0 : Int) * 40 + s = s by omega] at this
  · have := d s x y
    rwa [show (0 : Int) * 40 + s = s by omega] at this
  · have := e s x y
    rwa [show (0 : Int) * 40 + s = s by omega] at this
theorem mS0 {h : zH} {n C : Int} {Ki He Ap : Int → Int} {R : Nat} (k : mSo h 0 n C Ki He Ap R) : h 512 0 = C ∧ (∀ s, 0 ≤ s → s < n → h 510 s = Ki s) ∧ (∀ c, 0 ≤ c → c < C → h 511 c = He c) ∧ (∀ s t, 0 ≤ s → s < n → 0 ≤ t → t < n → h 513 (s * 40 + t) = Ap (s * 40 + t)) ∧ h 466 75 = R := by
  obtain ⟨a, b, c, d, e⟩ := k
  refine ⟨a, fun s x y => ?_, fun s x y => ?_, d, e⟩
  · have := b s x y
    rwa [show (0 : Int) * 40 + s = s by omega] at this
  · have := c s x y
    rwa [show (0 : Int) * 40 + s = s by omega] at this
/-- the machine of a number -/
noncomputable def dOf (h : zH) (i : Int) : zH := Classical.choose (Classical.propDecidable (macOK h i) |> fun inst => (by
  by_cases hh : macOK h i
  · exact ⟨Classical.choose hh, fun _ => Classical.choose_spec hh⟩
  · exact ⟨fun _ _ => 0, fun q => absurd q hh⟩ : ∃ D : zH, macOK h i → mOK D ∧ cRep h (h 3 i) D ∧ mRep h i D ∧ pthOK h (h 3 i) D))
theorem dOf_ok {h : zH} {i : Int} (hh : macOK h i) : mOK (dOf h i) ∧ cRep h (h 3 i) (dOf h i) ∧ mRep h i (dOf h i) ∧ pthOK h (h 3 i) (dOf h i) := by
  unfold dOf
  exact Classical.choose_spec (p := fun D : zH => macOK h i → mOK D ∧ cRep h (h 3 i) D ∧ mRep h i D ∧ pthOK h (h 3 i) D) _ hh
theorem iM_d {h : zH} (hI : Inv h) {i : Int} (h0 : 0 ≤ i) (h1 : i < h 0 13) : (0 ≤ i ∧ i < 10) ∧ mcell (h 3 i) ∧ mOK (dOf h i) ∧ cRep h (h 3 i) (dOf h i) ∧ mRep h i (dOf h i) ∧ pthOK h (h 3 i) (dOf h i) := by
  have a := hI.1.2.2.1
  exact ⟨⟨h0, by omega⟩, hI.2.2.2.2.1.1 i h0 (by omega), dOf_ok (hI.2.2.2.2.1.2.2.2.2.2 i h0 h1)⟩
section CJ
variable {G : zG} {d : Nat} {h : zH}
theorem q_isClass {K : Bool → zH → Prop} {m c : Int} (hI : Inv h) (hm : zR m) (hc : zR c) (k1 : 0 ≤ m ∧ m < h 0 13 → 0 ≤ c ∧ c < h (h 3 m + 7) 10 → K true h) (k2 : ¬ ((0 ≤ m ∧ m < h 0 13) ∧ (0 ≤ c ∧ c < h (h 3 m + 7) 10)) → K false h) : zCb G (d + 2) mX11_isClass [vr 11 0, vi m, vi c] h K := by
  refine eX11_isClass (bX11_isClass_0 (q_mach hI hm (fun q => ⟨fun z => (by cases z), fun _ => ?_⟩) (fun q => ⟨fun _ => k2 (fun z => q z.1), fun z => (by cases z)⟩)))
  obtain ⟨m10, mc, D, o1, o2, o3, p7, pb, pt, R, pR, pc⟩ := iM_get hI q.1 q.2
  have nn := pb.1
  have cc := cl_C pc
  refine ⟨m10, sp_isIn hc ⟨by omega, by omega⟩ ⟨fun z => k2 (fun y => of_decide_eq_false z y.2), fun z => k1 q (of_decide_eq_true z)⟩⟩
theorem q_machB {K : Bool → zH → Prop} {H : zH} {m : Int} (hI : Inv h) (hH : bK h H) (hm : zR m) (k1 : 0 ≤ m ∧ m < h 0 13 → K true H) (k2 : ¬ (0 ≤ m ∧ m < h 0 13) → K false H) : zCb G d mX12_isMachine [vr 12 466, vi m] H K := by
  obtain ⟨n1, n2, n3⟩ := iM_n hI
  have e : H 466 64 = h 0 13 := by rw [hH.2 64 (by unfold kms; omega), n3]
  refine sm_isMachine hm (by rw [e]; exact ⟨by omega, by omega⟩) ?_
  rw [e]
  by_cases q : 0 ≤ m ∧ m < h 0 13
  · rw [decide_eq_true q]
    exact k1 q
  · rw [decide_eq_false q]
    exact k2 q
/-- the model sorts a machine that is on the bench -/
theorem q_sorts {K : zH → Prop} {H D : zH} {m : Int} {R : Nat} (hH : bK h H) (m10 : 0 ≤ m ∧ m < 10) (o1 : mOK D) (o3 : mRep h m D) {x n C : Int} {B T Pa Vi De Ki He Ap : Int → Int} (pb : bfs D n B T Pa Vi De (n * 128)) (pt : tkOK D n B x) (pc : clOK n T (D 0 4) (tb x) R C Ki He Ap) (k : ∀ h3 : zH, mK H h3 → mGt D h3 0 n B T Pa Vi → mSo h3 0 n C Ki He Ap R → K h3) : zCv G (d + 4) mX12_sorts [vr 12 466, vi m, vi 0] H K :=
  sm_sorts o1 (by omega) (mRep_b hH o3) (Or.inl rfl) pb pt pc (fun h3 f g s => k h3 (mK_s f) g s)
theorem q_isClassM {K : Bool → zH → Prop} {H : zH} {m c : Int} (hI : Inv h) (hH : bK h H) (hm : zR m) (hc : zR c) (k1 : 0 ≤ m ∧ m < h 0 13 → 0 ≤ c ∧ c < h (h 3 m + 7) 10 → ∀ R : Nat, h (h 3 m + 7) 15 = R → ∀ h3 : zH, mK H h3 → mGt (dOf h m) h3 0 (h (h 3 m + 7) 0) (h (h 3 m + 7 + 1)) (h (h 3 m + 7 + 2)) (h (h 3 m + 7 + 3)) (h (h 3 m + 7 + 4)) → mSo h3 0 (h (h 3 m + 7) 0) (h (h 3 m + 7) 10) (h (h 3 m + 7 + 8)) (h (h 3 m + 7 + 9)) (h (h 3 m + 7 + 10)) R → K true h3) (k2 : ¬ ((0 ≤ m ∧ m < h 0 13) ∧ (0 ≤ c ∧ c < h (h 3 m + 7) 10)) → ∀ h3 : zH, mK H h3 → K false h3) : zCb G (d + 5) mX12_isClass [vr 12 466, vi m, vi c] H K := by
  refine eX12_isClass (bX12_isClass_0 (q_machB hI hH hm (fun q => ⟨fun z => (by cases z), fun _ => ⟨hc, fun c0 => ?_, fun c0 => k2 (fun y => c0 y.2.1) H (mK_refl H)⟩⟩) (fun q => ⟨fun _ => k2 (fun z => q z.1) H (mK_refl H), fun z => (by cases z)⟩)))
  obtain ⟨m10, mc, o1, o2, o3, o4⟩ := iM_d hI q.1 q.2
  have o5 := pth_p o4
  have o6 := o5
  obtain ⟨p7, pb, pt, R, pR, pc⟩ := o5
  have nn := pb.1
  have cc := cl_C pc
  refine q_sorts hH m10 o1 o3 pb pt pc (fun h3 f g s => ?_)
  rw [s.1]
  exact ⟨hc, ⟨by omega, by omega⟩, fun y => k2 (fun y2 => by omega) h3 f, fun y => k1 q ⟨c0, by omega⟩ R pR h3 f g s⟩
theorem sp_classStep {K : Int → zH → Prop} {p c b : Int} (hc : 0 ≤ c ∧ c < 40) (hh : 0 ≤ h (p + 9) c ∧ h (p + 9) c < 40) (hb : 0 ≤ b ∧ b < 128) (ht : 0 ≤ h (p + 2) (h (p + 9) c * 128 + b) ∧ h (p + 2) (h (p + 9) c * 128 + b) < 40) (k : K (h (p + 8) (h (p + 2) (h (p + 9) c * 128 + b))) h) : zCi G (d + 1) mX7_classStep [vr 7 p, vi c, vi b] h K := eX7_classStep (bX7_classStep_0 ⟨hc, sp_sheafStep hh hb ⟨ht, k⟩⟩)
theorem sp_classTakes {K : Bool → zH → Prop} {p c : Int} (hc : 0 ≤ c ∧ c < 40) (hh : 0 ≤ h (p + 9) c ∧ h (p + 9) c < 40) (k : K (tb (h p 6) (h (p + 9) c)) h) : zCb G (d + 1) mX7_classTakes [vr 7 p, vi c] h K := eX7_classTakes (bX7_classTakes_0 ⟨hc, sp_sheafTakes (by omega) k⟩)
theorem sm_classGoes {K : Int → zH → Prop} {D : zH} {n C : Int} {B T Pa Vi Ki He Ap : Int → Int} {R : Nat} {c b : Int} (hn : n ≤ 40) (hb4 : D 0 4 ≤ 128) (g : mGt D h 0 n B T Pa Vi) (s : mSo h 0 n C Ki He Ap R) (hc : 0 ≤ c ∧ c < C) (hC : C ≤ n) (hh : 0 ≤ He c ∧ He c < n) (hb : 0 ≤ b ∧ b < D 0 4) (ht : 0 ≤ T (He c * 128 + b) ∧ T (He c * 128 + b) < n) (k : K (Ki (T (He c * 128 + b))) h) : zCi G (d + 1) mX12_classGoes [vr 12 466, vi 0, vi c, vi b] h K := by
  obtain ⟨s1, s2, s3, s4, s5⟩ := mS0 s
  obtain ⟨g1, g2, g3, g4, g5⟩ := mG0 g
  refine eX12_classGoes (bX12_classGoes_0 ⟨⟨by omega, by omega⟩, ?_⟩)
  rw [show (0 : Int) * 40 + c = c by omega, s3 c hc.1 hc.2]
  refine sm_goesTo (Or.inl rfl) (by omega) (by omega) ?_
  rw [show ((0 : Int) * 40 + He c) * 128 + b = He c * 128 + b by omega, g3 (He c) b hh.1 hh.2 hb.1 hb.2]
  refine ⟨⟨by omega, by omega⟩, ?_⟩
  rw [show (0 : Int) * 40 + T (He c * 128 + b) = T (He c * 128 + b) by omega, s2 _ ht.1 ht.2]
  exact k
theorem sm_classEnds {K : Bool → zH → Prop} {D : zH} {n C x m : Int} {B T Pa Vi Ki He Ap : Int → Int} {R : Nat} {c : Int} (hm : 0 ≤ m ∧ m < 14) (hr : mRep h m D) (hn : n ≤ 40) (g : mGt D h 0 n B T Pa Vi) (s : mSo h 0 n C Ki He Ap R) (hx : tkOK D n B x) (hc : 0 ≤ c ∧ c < C) (hC : C ≤ n) (hh : 0 ≤ He c ∧ He c < n) (k : K (tb x (He c)) h) : zCb G (d + 1) mX12_classEnds [vr 12 466, vi m, vi 0, vi c] h K := by
  obtain ⟨s1, s2, s3, s4, s5⟩ := mS0 s
  refine eX12_classEnds (bX12_classEnds_0 ⟨⟨by omega, by omega⟩, ?_⟩)
  rw [show (0 : Int) * 40 + c = c by omega, s3 c hc.1 hc.2]
  exact sm_sheafEnds (n := n) (B := B) (x := x) (D := D) hm (Or.inl rfl) hn hr.1.2.1 (g.2.1 _ hh.1 hh.2) hx hh k
theorem c_rounds {m : Int} (hI : Inv h) (hm : zR m) : twI G (d + 6) mX11_rounds mX12_rounds [vi m] h := by
  refine eX11_rounds (bX11_rounds_0 (q_mach hI hm (fun q => ⟨fun _ => ?_, fun z => (by cases z)⟩) (fun q => ⟨fun z => (by cases z), fun _ => sp_refused (eX12_rounds (bX12_rounds_0 (q_machM hI rfl hm (fun z => absurd z q) (fun _ => ⟨fun z => (by cases z), fun _ => sm_refused ⟨zR_m1, rfl, Inv_w hI (by omega)⟩⟩))))⟩)))
  obtain ⟨m10, mc, D, o1, o2, o3, o4⟩ := iM_get hI q.1 q.2
  obtain ⟨p7, pb, pt, R, pR, pc⟩ := pth_p o4
  have R40 := pc.2.2.2.2
  refine ⟨m10, ?_⟩
  refine sp_granted (eX12_rounds (bX12_rounds_0 (q_machM hI rfl hm (fun _ => ⟨fun _ => q_sorts (bK_w (fun _ _ => rfl) rfl) m10 o1 o3 pb pt pc (fun h3 f g s => sm_good ⟨?_, ?_, Inv_k hI (by omega) (fun _ _ => rfl) rfl rfl f⟩), fun z => (by cases z)⟩) (fun z => absurd q z))))
  · rw [pR]
    exact ⟨by omega, by omega⟩
  · rw [pR, s.2.2.2.2]
theorem c_sheaf {m i : Int} (hI : Inv h) (hm : zR m) (hi : zR i) : twL G (d + 6) mX11_sheaf mX12_sheaf [vi m, vi i] h := by
  have no : ∀ {H : zH} {w : Int}, zCi G (d + 5) mX12_refused [vr 12 466, vi 1] H (fun x3 h4 => zR x3 ∧ zRL (-1) ∧ -1 = x3 ∧ Inv h4) ↔ zCi G (d + 5) mX12_refused [vr 12 466, vi 1] H (fun x3 h4 => zR x3 ∧ zRL (-1) ∧ -1 = x3 ∧ Inv h4) := fun {_ _} => Iff.rfl
  refine eX11_sheaf (bX11_sheaf_0 (q_mach hI hm (fun q => ⟨fun z => (by cases z), fun _ => ?_⟩) (fun q => ⟨fun _ => sp_refused ⟨zR_m1, eX12_sheaf (bX12_sheaf_0 (q_machM hI rfl hm (fun z => absurd z q) (fun _ => ⟨fun _ => sm_refused ⟨zR_m1, ⟨by decide, by decide⟩, rfl, Inv_w hI (by omega)⟩, fun z => (by cases z)⟩)))⟩, fun z => (by cases z)⟩)))
  obtain ⟨m10, mc, D, o1, o2, o3, o4⟩ := iM_get hI q.1 q.2
  obtain ⟨p7, pb, pt, R, pR, pc⟩ := o4
  have nn := pb.1
  refine ⟨m10, sp_isIn hi ⟨by omega, by omega⟩ ⟨fun q2 => ⟨m10, ?_⟩, fun q2 => sp_refused ⟨zR_m1, eX12_sheaf (bX12_sheaf_0 (q_machM hI rfl hm (fun _ => ⟨fun z => (by cases z), fun _ => ⟨hi, fun i0 => ?_, fun i0 => sm_refused ⟨zR_m1, ⟨by decide, by decide⟩, rfl, Inv_w hI (by omega)⟩⟩⟩) (fun z => absurd q z)))⟩⟩⟩
  · have q2 := of_decide_eq_true q2
    refine ⟨by omega, sp_grantedLong (eX12_sheaf (bX12_sheaf_0 (q_machM hI rfl hm (fun _ => ⟨fun z => (by cases z), fun _ => ⟨hi, fun i0 => ?_, fun z => absurd q2.1 z⟩⟩) (fun z => absurd q z))))⟩
    refine sm_gathers o1 (by omega) (mRep_2 (fun a _ _ => rfl) o3) (Or.inl rfl) pb (Or.inl rfl) (fun _ h3 f g => ?_) (fun z => absurd rfl z)
    obtain ⟨g1, g2, -⟩ := mG0 g
    rw [g1]
    refine ⟨hi, ⟨by omega, by omega⟩, fun _ => ⟨by omega, sm_goodLong ⟨pb.2.2.1 i q2.1 q2.2, ?_, Inv_k hI (by omega) (fun _ _ => rfl) rfl rfl (mK_r f)⟩⟩, fun z => absurd q2.2 z⟩
    exact (g2 i q2.1 q2.2).symm
  · have q2 := of_decide_eq_false q2
    refine sm_gathers o1 (by omega) (mRep_2 (fun a _ _ => rfl) o3) (Or.inl rfl) pb (Or.inl rfl) (fun _ h3 f g => ?_) (fun z => absurd rfl z)
    rw [g.1]
    exact ⟨hi, ⟨by omega, by omega⟩, fun z => absurd ⟨i0, z⟩ q2, fun _ => sm_refused ⟨zR_m1, ⟨by decide, by decide⟩, rfl, Inv_k hI (by omega) (fun _ _ => rfl) rfl rfl (mK_r f)⟩⟩
theorem c_go {m c x : Int} (hI : Inv h) (hm : zR m) (hc : zR c) (hx : zR x) : twI G (d + 7) mX11_go mX12_go [vi m, vi c, vi x] h := by
  refine eX11_go (bX11_go_0 (q_isClass hI hm hc (fun q q2 => ⟨fun _ => ?_, fun z => (by cases z)⟩) (fun q => ⟨fun z => (by cases z), fun _ => sp_refused (eX12_go (bX12_go_0 (q_isClassM hI (bK_w (fun _ _ => rfl) rfl) hm hc (fun z1 z2 => absurd ⟨z1, z2⟩ q) (fun _ h3 f => ⟨fun z => (by cases z), fun _ => sm_refused ⟨zR_m1, rfl, Inv_k hI (by omega) (fun _ _ => rfl) rfl rfl f⟩⟩))))⟩)))
  refine sp_isIn hx ⟨by decide, by decide⟩ ⟨fun q3 => ?_, fun q3 => sp_refused (eX12_go (bX12_go_0 (q_isClassM hI (bK_w (fun _ _ => rfl) rfl) hm hc (fun _ _ R _ h3 f _ _ => ⟨fun _ => sm_isLetter hx ⟨fun z => absurd (of_decide_eq_true z) (by have := of_decide_eq_false q3; omega), fun _ => sm_refused ⟨zR_m1, rfl, Inv_k hI (by omega) (fun _ _ => rfl) rfl rfl f⟩⟩, fun z => (by cases z)⟩) (fun z => absurd ⟨q, q2⟩ z))))⟩
  have q3 := of_decide_eq_true q3
  obtain ⟨m10, mc, o1, o2, o3, o4⟩ := iM_d hI q.1 q.2
  obtain ⟨p7, pb, pt, R, pR, pc⟩ := pth_p o4
  have nn := pb.1
  have cc := cl_C pc
  have hB := mO_bl o1
  have bb := dB_ok o1 q3.1
  have hh := cl_He pc q2.1 q2.2
  have ht := bfs_T pb hh.1 hh.2 bb.1.1 bb.1.2 o1
  have hk := cl_Ki pc ht.1 ht.2
  refine ⟨m10, m10, sp_blockOf o1 o2 hx (sp_classStep (by omega) (by omega) (by omega) (by omega) (sp_granted (eX12_go (bX12_go_0 (q_isClassM hI (bK_w (fun _ _ => rfl) rfl) hm hc (fun _ _ R2 e4 h3 f g s => ⟨fun _ => sm_isLetter hx ⟨fun _ => ?_, fun z => absurd (of_decide_eq_false z) (by omega)⟩, fun z => (by cases z)⟩) (fun z => absurd ⟨q, q2⟩ z))))))⟩
  refine sm_blockAt o1 (by omega) (mRep_b (bK_m (bK_w (fun _ _ => rfl) rfl) f) o3) hx q3.1 (sm_classGoes (by omega) hB.2 g s q2 cc.2 hh bb.1 ht (sm_good ⟨⟨by omega, by omega⟩, rfl, Inv_k hI (by omega) (fun _ _ => rfl) rfl rfl f⟩))
theorem c_takes {m c : Int} (hI : Inv h) (hm : zR m) (hc : zR c) : twI G (d + 7) mX11_takes mX12_takes [vi m, vi c] h := by
  refine eX11_takes (bX11_takes_0 (q_isClass hI hm hc (fun q q2 => ⟨fun _ => ?_, fun z => (by cases z)⟩) (fun q => ⟨fun z => (by cases z), fun _ => sp_refused (eX12_takes (bX12_takes_0 (q_isClassM hI (bK_w (fun _ _ => rfl) rfl) hm hc (fun z1 z2 => absurd ⟨z1, z2⟩ q) (fun _ h3 f => ⟨fun z => (by cases z), fun _ => sm_refused ⟨zR_m1, rfl, Inv_k hI (by omega) (fun _ _ => rfl) rfl rfl f⟩⟩))))⟩)))
  obtain ⟨m10, mc, o1, o2, o3, o4⟩ := iM_d hI q.1 q.2
  obtain ⟨p7, pb, pt, R, pR, pc⟩ := pth_p o4
  have nn := pb.1
  have cc := cl_C pc
  have hh := cl_He pc q2.1 q2.2
  have two : ∀ x, zR x → (tb (h (h 3 m + 7) 6) (h (h 3 m + 7 + 9) c) = false → x = 0) → (tb (h (h 3 m + 7) 6) (h (h 3 m + 7 + 9) c) = true → x = 1) → zCi G (d + 7) mX12_takes [vr 12 466, vi m, vi c] (zup h 0 14 0) (fun y h4 => zR x ∧ x = y ∧ Inv h4) := fun x hx x0 x1 => eX12_takes (bX12_takes_0 (q_isClassM hI (bK_w (fun _ _ => rfl) rfl) hm hc (fun _ _ R2 e4 h3 f g s => ⟨fun _ => sm_classEnds (by omega) (mRep_b (bK_m (bK_w (fun _ _ => rfl) rfl) f) o3) (by omega) g s pt q2 cc.2 hh ⟨fun z => sm_good ⟨hx, x0 z, Inv_k hI (by omega) (fun _ _ => rfl) rfl rfl f⟩, fun z => sm_good ⟨hx, x1 z, Inv_k hI (by omega) (fun _ _ => rfl) rfl rfl f⟩⟩, fun z => (by cases z)⟩) (fun z => absurd ⟨q, q2⟩ z)))
  refine ⟨m10, sp_classTakes (by omega) (by omega) ⟨fun z => sp_granted (two 0 ⟨by decide, by decide⟩ (fun _ => rfl) (fun y => absurd (z.symm.trans y) (by decide))), fun z => sp_granted (two 1 ⟨by decide, by decide⟩ (fun y => absurd (z.symm.trans y) (by decide)) (fun _ => rfl))⟩⟩
end CJ
