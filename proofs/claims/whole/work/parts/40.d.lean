/-! ===== the model's tokens ===== -/
theorem ub_k : ∀ k < 256, ziand ((k : Nat) - 128 : Int) 255 = if (k : Nat) < 128 then ((k : Nat) : Int) + 128 else ((k : Nat) : Int) - 128 := by decide +kernel
def ub (x : Int) : Int := if x < 0 then x + 256 else x
theorem ub_e {x : Int} (hx : -128 ≤ x ∧ x < 128) : ziand x 255 = ub x := by
  have := ub_k (x + 128).toNat (by omega)
  rw [show (((x + 128).toNat : Nat) : Int) - 128 = x by omega] at this
  rw [this]
  unfold ub
  by_cases c : x < 0
  · rw [if_pos (by omega), if_pos c]
    omega
  · rw [if_neg (by omega), if_neg c]
    first | done | omega
/-- the model's token -/
def mT (h : zH) (p k v e : Int) : Prop := h 466 8 = p ∧ (k = 0 → h 466 7 = 1 ∧ h 466 6 = e) ∧ (k = 1 → h 466 7 = 0) ∧ (k = 2 ∨ (5 ≤ k ∧ k ≤ 10) → h 466 7 = 2 ∧ h 466 11 = v ∧ h 466 6 = e) ∧ (k = 3 → h 466 7 = 3 ∧ h 466 9 = v ∧ h 466 6 = e) ∧ (k = 4 → h 466 7 = 4 ∧ h 466 6 = e) ∧ (33 ≤ k → h 466 7 = 5 ∧ h 466 9 = k ∧ h 466 6 = e)
/-- what kinds there are, what values -/
theorem tok_k {bs : Int → Int} {n p k v e : Int} (t : tokAt bs n p k v e) : k = 0 ∨ k = 1 ∨ ((k = 2 ∨ (5 ≤ k ∧ k ≤ 10)) ∧ k = kdW v ∧ 0 ≤ v ∧ v ≤ 34359738368) ∨ (k = 3 ∧ 0 ≤ v ∧ v < 100000) ∨ k = 4 ∨ isSg k := by
  rcases t with ⟨-, t, -⟩ | ⟨-, e', rn, e0, t⟩ | ⟨-, e', rn, e0, t⟩ | ⟨-, -, t⟩ | ⟨-, sg, t, -⟩ | ⟨-, -, -, -, -, t⟩
  · exact Or.inl t
  · rcases t with ⟨t0, t1, t2, -⟩ | ⟨-, t⟩
    · have vr := vOf_rg (bs := bs) (zero := 96) (base := 32) (p := p) (by decide) (e' - p).toNat (fun i i0 i1 => by have := rn.2.2.1 (p + i) (by omega) (by omega); omega)
      have p6 : ∀ L < 8, (32 : Int) ^ L ≤ 34359738368 := by decide
      have p7 := p6 (e' - p).toNat (by omega)
      have := kdW_rg v
      rw [← t1] at vr
      exact Or.inr (Or.inr (Or.inl ⟨by omega, t2, by omega, by omega⟩))
    · exact Or.inr (Or.inl t)
  · rcases t with ⟨t0, t1, t2, -⟩ | ⟨-, t⟩
    · have vr := vOf_rg (bs := bs) (zero := 48) (base := 10) (p := p) (by decide) (e' - p).toNat (fun i i0 i1 => by have := rn.2.2.1 (p + i) (by omega) (by omega); omega)
      have p6 : ∀ L < 6, (10 : Int) ^ L ≤ 100000 := by decide
      have p7 := p6 (e' - p).toNat (by omega)
      rw [← t1] at vr
      exact Or.inr (Or.inr (Or.inr (Or.inl ⟨t2, by omega, by omega⟩)))
    · exact Or.inr (Or.inl t)
  · rcases t with ⟨-, -, t, -⟩ | ⟨-, t⟩
    · exact Or.inr (Or.inr (Or.inr (Or.inr (Or.inl t))))
    · exact Or.inr (Or.inl t)
  · rw [t]
    exact Or.inr (Or.inr (Or.inr (Or.inr (Or.inr sg))))
  · exact Or.inr (Or.inl t)
def nF (h h' : zH) : Prop := (∀ a, ¬ a = 466 → h' a = h a) ∧ ∀ j, ¬ (6 ≤ j ∧ j ≤ 9) → ¬ j = 11 → h' 466 j = h 466 j
theorem nF_r (h : zH) : nF h h := ⟨fun _ _ => rfl, fun _ _ _ => rfl⟩
theorem nF_t {h1 h2 h3 : zH} (a : nF h1 h2) (b : nF h2 h3) : nF h1 h3 := ⟨fun x p => (b.1 x p).trans (a.1 x p), fun j p q => (b.2 j p q).trans (a.2 j p q)⟩
theorem nF_u {h h1 : zH} {j x : Int} (hj : (6 ≤ j ∧ j ≤ 9) ∨ j = 11) (a : nF h h1) : nF h (zup h1 466 j x) := ⟨fun y p => by rw [zup_ne p]; exact a.1 y p, fun i p q => by rw [zup_ns (by omega)]; exact a.2 i p q⟩
/-- the tape that the model reads -/
def tpe (h : zH) (bs : Int → Int) (n : Int) : Prop := h 466 5 = n ∧ (0 ≤ n ∧ n ≤ 900) ∧ ∀ i, 0 ≤ i → i < n → (-128 ≤ bs i ∧ bs i < 128) ∧ h 467 i = bs i
theorem tpe_n {h h' : zH} {bs : Int → Int} {n : Int} (f : nF h h') (t : tpe h bs n) : tpe h' bs n := by
  obtain ⟨a, b, c⟩ := t
  refine ⟨by rw [f.2 5 (by decide) (by decide), a], b, fun i i0 i1 => ?_⟩
  rw [f.1 467 (by decide)]
  exact c i i0 i1
section NX
variable {G : zG} {d : Nat} {h : zH} {bs : Int → Int} {n : Int}
theorem sm_byteAt {K : Int → zH → Prop} {p : Int} (t : tpe h bs n) (hp : 0 ≤ p ∧ p ≤ 2000) (k1 : n ≤ p → K (-1) h) (k2 : p < n → K (ub (bs p)) h) : zCi G d mX12_byteAt [vr 12 466, vi p] h K := by
  obtain ⟨a, b, c⟩ := t
  refine eX12_byteAt (bX12_byteAt_0 ?_)
  rw [a]
  refine ⟨⟨by omega, by omega⟩, ⟨by omega, by omega⟩, k1, fun q => ⟨by omega, ?_⟩⟩
  obtain ⟨c1, c2⟩ := c p hp.1 (by omega)
  rw [c2, ub_e c1]
  exact k2 (by omega)
theorem sm_isSmall {K : Bool → zH → Prop} {x : Int} (hx : zR x) (k : K (decide (97 ≤ x ∧ x ≤ 122)) h) : zCb G d mX12_isSmall [vi x] h K := by
  refine eX12_isSmall (bX12_isSmall_0 ⟨hx, fun q => ?_, fun q => ⟨hx, fun q2 => ?_, fun q2 => ?_⟩⟩)
  · rwa [decide_eq_false (by omega)] at k
  · rwa [decide_eq_false (by omega)] at k
  · rwa [decide_eq_true (by omega)] at k
theorem sm_isDigit {K : Bool → zH → Prop} {x : Int} (hx : zR x) (k : K (decide (48 ≤ x ∧ x ≤ 57)) h) : zCb G d mX12_isDigit [vi x] h K := by
  refine eX12_isDigit (bX12_isDigit_0 ⟨hx, fun q => ?_, fun q => ⟨hx, fun q2 => ?_, fun q2 => ?_⟩⟩)
  · rwa [decide_eq_false (by omega)] at k
  · rwa [decide_eq_false (by omega)] at k
  · rwa [decide_eq_true (by omega)] at k
theorem sm_isSign {K : Bool → zH → Prop} {x : Int} (hx : zR x) (k1 : isSg x → K true h) (k2 : ¬ isSg x → K false h) : zCb G d mX12_isSign [vi x] h K := by
  unfold isSg at k1 k2
  exact eX12_isSign (bX12_isSign_0 ⟨hx, fun q => k1 (by omega), fun q0 => ⟨hx, fun q => k1 (by omega), fun q1 => ⟨hx, fun q => k1 (by omega), fun q2 => ⟨hx, fun q => k1 (by omega), fun q3 => ⟨hx, fun q => k1 (by omega), fun q4 => ⟨hx, fun q => k1 (by omega), fun q5 => ⟨hx, fun q => k1 (by omega), fun q6 => ⟨hx, fun q => k1 (by omega), fun q7 => ⟨hx, fun q => k1 (by omega), fun q8 => ⟨hx, fun q => k2 (by omega), fun q => k1 (by omega)⟩⟩⟩⟩⟩⟩⟩⟩⟩⟩)
theorem ub_rg {x : Int} (hx : -128 ≤ x ∧ x < 128) : 0 ≤ ub x ∧ ub x < 256 ∧ (x < 0 → 128 ≤ ub x) ∧ (0 ≤ x → ub x = x) := by
  unfold ub
  by_cases c : x < 0
  · rw [if_pos c]; omega
  · rw [if_neg c]; omega
theorem sm_nextName {K : zH → Prop} {p e : Int} (t : tpe h bs n) (h6 : h 466 6 = p) (p0 : 0 ≤ p) (rn : isRn bs n 97 122 p e) (h7 : h 466 7 = 0) (k : ∀ h' : zH, nF h h' → h' 466 8 = h 466 8 → h' 466 6 = e → (e - p ≤ 7 → h' 466 7 = 2 ∧ h' 466 11 = vOf bs 96 32 p (e - p).toNat) → (7 < e - p → h' 466 7 = 0) → K h') : zCv G (d + 1) mX12_nextName [vr 12 466] h K := by
  obtain ⟨r1, r2, r3, r4⟩ := rn
  have n9 := t.2.1
  have go : ∀ (f c : Nat) (h1 : zH), (c : Int) + f = e - p → nF h h1 → h1 466 8 = h 466 8 → h1 466 7 = 0 → h1 466 6 = p + c → ((c : Int) ≤ 7 → h1 466 11 = vOf bs 96 32 p c) → tX12_nextName_7 G d K c h1 := by
    intro f
    induction f with
    | zero =>
      intro c h1 cf f1 e8 e7 e6 e11
      have ec : p + (c : Int) = e := by omega
      have stop : ∀ x, zR x → ¬ (97 ≤ x ∧ x ≤ 122) → zCb G d mX12_isSmall [vi x] h1 (fun x3 h4 => (x3 = false → zR (c : Int) ∧ (7 < (c : Int) → K h4) ∧ (¬ 7 < (c : Int) → K (zup h4 466 7 2))) ∧ (x3 = true → zR (c : Int) ∧ (7 ≤ (c : Int) → tX12_nextName_7 G d K ((c : Int) + 1) (zup h4 466 6 ((h4 466 6) + 1))) ∧ (¬ 7 ≤ (c : Int) → zCi G d mX12_byteAt [vr 12 466, vi (h4 466 6)] h4 (fun x5 h6 => zR (x5 - 96) ∧ tX12_nextName_7 G d K ((c : Int) + 1) (zup (zup h6 466 11 ((32 * (h4 466 11)) + (x5 - 96))) 466 6 ((h6 466 6) + 1)))))) := fun x hx nx => by
        refine sm_isSmall hx ?_
        rw [decide_eq_false nx]
        refine ⟨fun _ => ⟨⟨by omega, by omega⟩, fun g7 => k h1 f1 e8 (by omega) (fun z => absurd z (by omega)) (fun _ => e7), fun l7 => k _ (nF_u (by omega) f1) (by rw [zup_ns (by decide)]; exact e8) (by rw [zup_ns (by decide)]; omega) (fun _ => ⟨zup_eq, ?_⟩) (fun z => absurd z (by omega))⟩, fun z => (by cases z)⟩
        rw [zup_ns (by decide), e11 (by omega), show (e - p).toNat = c by omega]
      refine bX12_nextName_7 ?_
      rw [e6]
      refine sm_byteAt (tpe_n f1 t) (by omega) (fun q => stop _ zR_m1 (by omega)) (fun q => ?_)
      have b := t.2.2 (p + c) (by omega) q
      have u := ub_rg b.1
      have ne := r4 (by omega)
      rw [← ec] at ne
      exact stop _ ⟨by omega, by omega⟩ (by omega)
    | succ f ih =>
      intro c h1 cf f1 e8 e7 e6 e11
      have b := t.2.2 (p + c) (by omega) (by omega)
      have u := ub_rg b.1
      have al := r3 (p + c) (by omega) (by omega)
      refine bX12_nextName_7 ?_
      rw [e6]
      refine sm_byteAt (tpe_n f1 t) (by omega) (fun q => absurd q (by omega)) (fun q => sm_isSmall ⟨by omega, by omega⟩ ?_)
      rw [decide_eq_true (by omega)]
      refine ⟨fun z => (by cases z), fun _ => ⟨⟨by omega, by omega⟩, fun g7 => ?_, fun l7 => ?_⟩⟩
      · have := ih (c + 1) (zup h1 466 6 (h1 466 6 + 1)) (by omega) (nF_u (by omega) f1) (by rw [zup_ns (by decide)]; exact e8) (by rw [zup_ns (by decide)]; exact e7) (by rw [zup_eq]; omega) (fun z => absurd z (by omega))
        rwa [show ((c + 1 : Nat) : Int) = (c : Int) + 1 by omega] at this
      · rw [e6]
        refine sm_byteAt (tpe_n f1 t) (by omega) (fun q => absurd q (by omega)) (fun q => ⟨⟨by omega, by omega⟩, ?_⟩)
        have := ih (c + 1) (zup (zup h1 466 11 ((32 * (h1 466 11)) + (ub (bs (p + c)) - 96))) 466 6 ((h1 466 6) + 1)) (by omega) (nF_u (by omega) (nF_u (by omega) f1)) (by rw [zup_ns (by decide), zup_ns (by decide)]; exact e8) (by rw [zup_ns (by decide), zup_ns (by decide)]; exact e7) (by rw [zup_eq]; omega) (fun _ => by
          rw [zup_ns (by decide), zup_eq, e11 (by omega)]
          show _ = vOf bs 96 32 p c * 32 + bs (p + c) - 96
          omega)
        rwa [show ((c + 1 : Nat) : Int) = (c : Int) + 1 by omega] at this
  exact eX12_nextName (bX12_nextName_0 (go (e - p).toNat 0 _ (by omega) (nF_u (by omega) (nF_r h)) (by rw [zup_ns (by decide)]) (by rw [zup_ns (by decide)]; exact h7) (by rw [zup_ns (by decide)]; omega) (fun _ => zup_eq)))
theorem sm_nextWhole {K : zH → Prop} {p e : Int} (t : tpe h bs n) (h6 : h 466 6 = p) (p0 : 0 ≤ p) (rn : isRn bs n 48 57 p e) (h7 : h 466 7 = 0) (k : ∀ h' : zH, nF h h' → h' 466 8 = h 466 8 → h' 466 6 = e → (e - p ≤ 5 → h' 466 7 = 3 ∧ h' 466 9 = vOf bs 48 10 p (e - p).toNat) → (5 < e - p → h' 466 7 = 0) → K h') : zCv G (d + 1) mX12_nextWhole [vr 12 466] h K := by
  obtain ⟨r1, r2, r3, r4⟩ := rn
  have n9 := t.2.1
  have go : ∀ (f c : Nat) (h1 : zH), (c : Int) + f = e - p → nF h h1 → h1 466 8 = h 466 8 → h1 466 7 = 0 → h1 466 6 = p + c → ((c : Int) ≤ 5 → h1 466 9 = vOf bs 48 10 p c) → tX12_nextWhole_7 G d K c h1 := by
    intro f
    induction f with
    | zero =>
      intro c h1 cf f1 e8 e7 e6 e11
      have ec : p + (c : Int) = e := by omega
      have stop : ∀ x, zR x → ¬ (48 ≤ x ∧ x ≤ 57) → zCb G d mX12_isDigit [vi x] h1 (fun x3 h4 => (x3 = false → zR (c : Int) ∧ (5 < (c : Int) → K h4) ∧ (¬ 5 < (c : Int) → K (zup h4 466 7 3))) ∧ (x3 = true → zR (c : Int) ∧ (5 ≤ (c : Int) → tX12_nextWhole_7 G d K ((c : Int) + 1) (zup h4 466 6 ((h4 466 6) + 1))) ∧ (¬ 5 ≤ (c : Int) → zCi G d mX12_byteAt [vr 12 466, vi (h4 466 6)] h4 (fun x5 h6 => tX12_nextWhole_7 G d K ((c : Int) + 1) (zup (zup h6 466 9 (((10 * (h4 466 9)) + x5) - 48)) 466 6 ((h6 466 6) + 1)))))) := fun x hx nx => by
        refine sm_isDigit hx ?_
        rw [decide_eq_false nx]
        refine ⟨fun _ => ⟨⟨by omega, by omega⟩, fun g7 => k h1 f1 e8 (by omega) (fun z => absurd z (by omega)) (fun _ => e7), fun l7 => k _ (nF_u (by omega) f1) (by rw [zup_ns (by decide)]; exact e8) (by rw [zup_ns (by decide)]; omega) (fun _ => ⟨zup_eq, ?_⟩) (fun z => absurd z (by omega))⟩, fun z => (by cases z)⟩
        rw [zup_ns (by decide), e11 (by omega), show (e - p).toNat = c by omega]
      refine bX12_nextWhole_7 ?_
      rw [e6]
      refine sm_byteAt (tpe_n f1 t) (by omega) (fun q => stop _ zR_m1 (by omega)) (fun q => ?_)
      have b := t.2.2 (p + c) (by omega) q
      have u := ub_rg b.1
      have ne := r4 (by omega)
      rw [← ec] at ne
      exact stop _ ⟨by omega, by omega⟩ (by omega)
    | succ f ih =>
      intro c h1 cf f1 e8 e7 e6 e11
      have b := t.2.2 (p + c) (by omega) (by omega)
      have u := ub_rg b.1
      have al := r3 (p + c) (by omega) (by omega)
      refine bX12_nextWhole_7 ?_
      rw [e6]
      refine sm_byteAt (tpe_n f1 t) (by omega) (fun q => absurd q (by omega)) (fun q => sm_isDigit ⟨by omega, by omega⟩ ?_)
      rw [decide_eq_true (by omega)]
      refine ⟨fun z => (by cases z), fun _ => ⟨⟨by omega, by omega⟩, fun g7 => ?_, fun l7 => ?_⟩⟩
      · have := ih (c + 1) (zup h1 466 6 (h1 466 6 + 1)) (by omega) (nF_u (by omega) f1) (by rw [zup_ns (by decide)]; exact e8) (by rw [zup_ns (by decide)]; exact e7) (by rw [zup_eq]; omega) (fun z => absurd z (by omega))
        rwa [show ((c + 1 : Nat) : Int) = (c : Int) + 1 by omega] at this
      · rw [e6]
        refine sm_byteAt (tpe_n f1 t) (by omega) (fun q => absurd q (by omega)) (fun q => ?_)
        have := ih (c + 1) (zup (zup h1 466 9 (((10 * (h1 466 9)) + ub (bs (p + c))) - 48)) 466 6 ((h1 466 6) + 1)) (by omega) (nF_u (by omega) (nF_u (by omega) f1)) (by rw [zup_ns (by decide), zup_ns (by decide)]; exact e8) (by rw [zup_ns (by decide), zup_ns (by decide)]; exact e7) (by rw [zup_eq]; omega) (fun _ => by
          rw [zup_ns (by decide), zup_eq, e11 (by omega)]
          show _ = vOf bs 48 10 p c * 10 + bs (p + c) - 48
          omega)
        rwa [show ((c + 1 : Nat) : Int) = (c : Int) + 1 by omega] at this
  exact eX12_nextWhole (bX12_nextWhole_0 (go (e - p).toNat 0 _ (by omega) (nF_u (by omega) (nF_r h)) (by rw [zup_ns (by decide)]) (by rw [zup_ns (by decide)]; exact h7) (by rw [zup_ns (by decide)]; omega) (fun _ => zup_eq)))
/-- behind a fault there is no token any more -/
theorem sm_next_f {K : zH → Prop} (hf : 0 < h 466 10 ∧ h 466 10 ≤ 8) (k : K h) : zCv G (d + 2) mX12_next [vr 12 466] h K := eX12_next (bX12_next_0 ⟨⟨by omega, by omega⟩, fun z => absurd z (by omega), fun _ => k⟩)
theorem sm_next {K : zH → Prop} {p0 p kd v e : Int} (hf : h 466 10 = 0) (t : tpe h bs n) (h6 : h 466 6 = p0) (pp : 0 ≤ p0 ∧ p0 ≤ p ∧ p ≤ n) (sp : ∀ x, p0 ≤ x → x < p → bs x = 32) (ns : p < n → ¬ bs p = 32) (tk : tokAt bs n p kd v e) (k : ∀ h' : zH, nF h h' → mT h' p kd v e → K h') : zCv G (d + 2) mX12_next [vr 12 466] h K := by
  have n9 := t.2.1
  have at_ : ∀ (h1 : zH), nF h h1 → h1 466 6 = p → tX12_next_8 G (d + 1) K h1 := by
    intro h1 f1 e6
    have t1 := tpe_n f1 t
    have tz : tpe (zup (zup h1 466 8 p) 466 7 0) bs n := tpe_n (nF_u (by omega) (nF_u (by omega) (nF_r h1))) t1
    have fz : nF h (zup (zup h1 466 8 p) 466 7 0) := nF_u (by omega) (nF_u (by omega) f1)
    have z6 : (zup (zup h1 466 8 p) 466 7 0) 466 6 = p := by rw [zup_ns (by decide), zup_ns (by decide), e6]
    have z7 : (zup (zup h1 466 8 p) 466 7 0) 466 7 = 0 := zup_eq
    have z8 : (zup (zup h1 466 8 p) 466 7 0) 466 8 = p := by rw [zup_ns (by decide), zup_eq]
    have tok : ¬ n ≤ p ∨ p = n := by omega
    refine bX12_next_8 ?_
    rw [e6]
    obtain ⟨hz, ehz⟩ : ∃ hz, hz = zup (zup h1 466 8 p) 466 7 0 := ⟨_, rfl⟩
    rw [← ehz] at tz fz z6 z7 z8
    refine sm_byteAt t1 (by omega) (fun q => ⟨zR_m1, fun _ => ?_, fun z => absurd z (by decide)⟩) (fun q => ?_)
    · rw [e6, ← ehz]
      refine sm_byteAt tz (by omega) (fun _ => ⟨zR_m1, fun z => absurd rfl z, fun _ => k _ (nF_u (by omega) fz) ?_⟩) (fun z => absurd z (by omega))
      have ep : p = n := by omega
      have kn : kd = 0 ∧ e = n := by
        rcases tk with ⟨-, x, y⟩ | ⟨x, -⟩ | ⟨x, -⟩ | ⟨x, -⟩ | ⟨x, -⟩ | ⟨x, -⟩
        · exact ⟨x, y⟩
        all_goals omega
      rw [kn.1, kn.2]
      exact ⟨by rw [zup_ns (by decide)]; exact z8, fun _ => ⟨zup_eq, by rw [zup_ns (by decide), z6, ep]⟩, fun z => absurd z (by decide), fun z => absurd z (by omega), fun z => absurd z (by decide), fun z => absurd z (by decide), fun z => absurd z (by decide)⟩
    · have b := (t.2.2 p (by omega) q).1
      have u := ub_rg b
      have n32 := ns q
      refine ⟨⟨by omega, by omega⟩, fun _ => ?_, fun z => absurd z (by omega)⟩
      rw [e6, ← ehz]
      refine sm_byteAt tz (by omega) (fun z => absurd z (by omega)) (fun _ => ⟨⟨by omega, by omega⟩, fun _ => sm_isSmall ⟨by omega, by omega⟩ ?_, fun z => absurd z (by omega)⟩)
      by_cases c1 : 97 ≤ bs p ∧ bs p ≤ 122
      · rw [decide_eq_true (by omega)]
        refine ⟨fun z => (by cases z), fun _ => ?_⟩
        rcases tk with ⟨x, -⟩ | ⟨-, e', rn, x0, tt⟩ | ⟨-, e', rn, x0, -⟩ | ⟨-, x, -⟩ | ⟨-, x, -⟩ | ⟨-, x, -⟩
        · omega
        · refine sm_nextName tz z6 (by omega) rn z7 (fun h2 f2 w8 w6 w1 w2 => k h2 (nF_t fz f2) ?_)
          rcases tt with ⟨t0, t1, t2, t3⟩ | ⟨t0, t1⟩
          · have kr := kdW_rg v
            have := w1 t0
            rw [← t1] at this
            exact ⟨by rw [w8, z8], fun z => absurd z (by omega), fun z => absurd z (by omega), fun _ => ⟨this.1, this.2, by rw [w6, t3]⟩, fun z => absurd z (by omega), fun z => absurd z (by omega), fun z => absurd z (by omega)⟩
          · rw [t1]
            exact ⟨by rw [w8, z8], fun z => absurd z (by decide), fun _ => w2 t0, fun z => absurd z (by omega), fun z => absurd z (by decide), fun z => absurd z (by decide), fun z => absurd z (by decide)⟩
        · have := rn.2.2.1 p (by omega) x0
          omega
        · omega
        · unfold isSg at x
          omega
        · exact absurd c1 x
      · rw [decide_eq_false (by omega)]
        refine ⟨fun _ => sm_isDigit ⟨by omega, by omega⟩ ?_, fun z => (by cases z)⟩
        by_cases c2 : 48 ≤ bs p ∧ bs p ≤ 57
        · rw [decide_eq_true (by omega)]
          refine ⟨fun z => (by cases z), fun _ => ?_⟩
          rcases tk with ⟨x, -⟩ | ⟨-, e', rn, x0, -⟩ | ⟨-, e', rn, x0, tt⟩ | ⟨-, x, -⟩ | ⟨-, x, -⟩ | ⟨-, -, x, -⟩
          · omega
          · have := rn.2.2.1 p (by omega) x0
            omega
          · refine sm_nextWhole tz z6 (by omega) rn z7 (fun h2 f2 w8 w6 w1 w2 => k h2 (nF_t fz f2) ?_)
            rcases tt with ⟨t0, t1, t2, t3⟩ | ⟨t0, t1⟩
            · have := w1 t0
              rw [← t1] at this
              rw [t2]
              exact ⟨by rw [w8, z8], fun z => absurd z (by decide), fun z => absurd z (by decide), fun z => absurd z (by omega), fun _ => ⟨this.1, this.2, by rw [w6, t3]⟩, fun z => absurd z (by decide), fun z => absurd z (by decide)⟩
            · rw [t1]
              exact ⟨by rw [w8, z8], fun z => absurd z (by decide), fun _ => w2 t0, fun z => absurd z (by omega), fun z => absurd z (by decide), fun z => absurd z (by decide), fun z => absurd z (by decide)⟩
          · omega
          · unfold isSg at x
            omega
          · exact absurd c2 x
        · rw [decide_eq_false (by omega)]
          refine ⟨fun _ => ⟨⟨by omega, by omega⟩, fun c3 => sm_isSign ⟨by omega, by omega⟩ (fun sg => ⟨fun z => (by cases z), fun _ => ?_⟩) (fun sg => ⟨fun _ => k _ fz ?_, fun z => (by cases z)⟩), fun c3 => ?_⟩, fun z => (by cases z)⟩
          · have sgb : isSg (bs p) := by unfold isSg at sg ⊢; omega
            have ke : kd = bs p ∧ e = p + 1 := by
              rcases tk with ⟨x, -⟩ | ⟨-, e', rn, x0, -⟩ | ⟨-, e', rn, x0, -⟩ | ⟨-, x, -⟩ | ⟨-, x, y, z⟩ | ⟨-, -, -, -, x, -⟩
              · omega
              · have := rn.2.2.1 p (by omega) x0
                omega
              · have := rn.2.2.1 p (by omega) x0
                omega
              · omega
              · exact ⟨y, z⟩
              · exact absurd sgb x
            have ubp : ub (bs p) = bs p := u.2.2.2 (by unfold isSg at sgb; omega)
            refine eX12_nextSign (bX12_nextSign_0 (k _ (nF_u (by omega) (nF_u (by omega) (nF_u (by omega) fz))) ?_))
            rw [ke.1, ke.2, ubp]
            unfold isSg at sgb
            exact ⟨by rw [zup_ns (by decide), zup_ns (by decide), zup_ns (by decide)]; exact z8, fun z => absurd z (by omega), fun z => absurd z (by omega), fun z => absurd z (by omega), fun z => absurd z (by omega), fun z => absurd z (by omega), fun _ => ⟨by rw [zup_ns (by decide), zup_ns (by decide), zup_eq], by rw [zup_ns (by decide), zup_eq], by rw [zup_eq, z6]⟩⟩
          · have sgb : ¬ isSg (bs p) := by unfold isSg at sg ⊢; omega
            have ke : kd = 1 := by
              rcases tk with ⟨x, -⟩ | ⟨-, e', rn, x0, -⟩ | ⟨-, e', rn, x0, -⟩ | ⟨-, x, -⟩ | ⟨-, x, -⟩ | ⟨-, -, -, -, -, x⟩
              · omega
              · have := rn.2.2.1 p (by omega) x0
                omega
              · have := rn.2.2.1 p (by omega) x0
                omega
              · omega
              · exact absurd x sgb
              · exact x
            rw [ke]
            exact ⟨z8, fun z => absurd z (by decide), fun _ => z7, fun z => absurd z (by omega), fun z => absurd z (by decide), fun z => absurd z (by decide), fun z => absurd z (by decide)⟩
          · have b46 : bs p = 46 := by omega
            refine eX12_nextDots (bX12_nextDots_0 ?_)
            rw [z6]
            rcases tk with ⟨x, -⟩ | ⟨-, e', rn, x0, -⟩ | ⟨-, e', rn, x0, -⟩ | ⟨-, -, tt⟩ | ⟨-, x, -⟩ | ⟨-, -, -, x, -⟩
            · omega
            · have := rn.2.2.1 p (by omega) x0
              omega
            · have := rn.2.2.1 p (by omega) x0
              omega
            · rcases tt with ⟨t0, t1, t2, t3⟩ | ⟨t0, t1⟩
              · refine sm_byteAt tz (by omega) (fun z => absurd z (by omega)) (fun _ => ?_)
                have u1 : ub (bs (p + 1)) = 46 := by rw [t1]; rfl
                rw [u1]
                refine ⟨⟨by decide, by decide⟩, fun _ => k _ (nF_u (by omega) (nF_u (by omega) fz)) (by rw [t2, t3]; exact ⟨by rw [zup_ns (by decide), zup_ns (by decide)]; exact z8, fun z => absurd z (by decide), fun z => absurd z (by decide), fun z => absurd z (by omega), fun z => absurd z (by decide), fun _ => ⟨by rw [zup_ns (by decide), zup_eq], by rw [zup_eq, z6]⟩, fun z => absurd z (by decide)⟩), fun z => absurd rfl z⟩
              · have fin : mT hz p kd v e := by
                  rw [t1]
                  exact ⟨z8, fun z => absurd z (by decide), fun _ => z7, fun z => absurd z (by omega), fun z => absurd z (by decide), fun z => absurd z (by decide), fun z => absurd z (by decide)⟩
                refine sm_byteAt tz (by omega) (fun _ => ⟨zR_m1, fun z => absurd z (by decide), fun _ => k _ fz fin⟩) (fun q1 => ?_)
                have b1 := (t.2.2 (p + 1) (by omega) q1).1
                have u1 := ub_rg b1
                have ne : ¬ bs (p + 1) = 46 := fun z => t0 ⟨q1, z⟩
                exact ⟨⟨by omega, by omega⟩, fun z => absurd z (by omega), fun _ => k _ fz fin⟩
            · unfold isSg at x
              omega
            · exact absurd b46 x
  have go : ∀ (f : Nat) (x : Int) (h1 : zH), p0 ≤ x → x + f = p → nF h h1 → h1 466 6 = x → tX12_next_8 G (d + 1) K h1 := by
    intro f
    induction f with
    | zero =>
      intro x h1 x0 xf f1 e6
      exact at_ h1 f1 (by omega)
    | succ f ih =>
      intro x h1 x0 xf f1 e6
      have s := sp x x0 (by omega)
      refine bX12_next_8 ?_
      rw [e6]
      refine sm_byteAt (tpe_n f1 t) (by omega) (fun q => absurd q (by omega)) (fun q => ?_)
      have u1 : ub (bs x) = 32 := by rw [s]; rfl
      rw [u1]
      refine ⟨⟨by decide, by decide⟩, fun z => absurd rfl z, fun _ => ih (x + 1) _ (by omega) (by omega) (nF_u (by omega) f1) (by rw [zup_eq, e6])⟩
  refine eX12_next (bX12_next_0 ?_)
  rw [hf]
  exact ⟨⟨by decide, by decide⟩, fun _ => go (p - p0).toNat p0 h (by omega) (by omega) (nF_r h) h6, fun z => absurd (by decide) z⟩
end NX
