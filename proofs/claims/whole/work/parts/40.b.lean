/-! ===== tokens ===== -/
def isRn (bs : Int → Int) (n lo hi p e : Int) : Prop := p ≤ e ∧ e ≤ n ∧ (∀ i, p ≤ i → i < e → lo ≤ bs i ∧ bs i ≤ hi) ∧ (e < n → ¬ (lo ≤ bs e ∧ bs e ≤ hi))
theorem isRn_u {bs : Int → Int} {n lo hi p e e' : Int} (a : isRn bs n lo hi p e) (b : isRn bs n lo hi p e') : e = e' := by
  obtain ⟨a1, a2, a3, a4⟩ := a
  obtain ⟨b1, b2, b3, b4⟩ := b
  rcases Int.lt_trichotomy e e' with c | c | c
  · exact absurd (b3 e a1 c) (a4 (by omega))
  · exact c
  · exact absurd (a3 e' b1 c) (b4 (by omega))
def vOf (bs : Int → Int) (zero base p : Int) : Nat → Int
  | 0 => 0
  | k + 1 => vOf bs zero base p k * base + bs (p + k) - zero
theorem vOf_rg {bs : Int → Int} {zero base p : Int} (hb : 1 ≤ base) : ∀ k : Nat, (∀ i : Int, 0 ≤ i → i < k → 0 ≤ bs (p + i) - zero ∧ bs (p + i) - zero < base) → 0 ≤ vOf bs zero base p k ∧ vOf bs zero base p k < base ^ k
  | 0, _ => ⟨Int.le_refl _, by show (0 : Int) < base ^ 0; rw [Int.pow_zero]; omega⟩
  | k + 1, h => by
    obtain ⟨i1, i2⟩ := vOf_rg hb k (fun i a b => h i a (by omega))
    obtain ⟨b1, b2⟩ := h k (by omega) (by omega)
    show 0 ≤ vOf bs zero base p k * base + bs (p + k) - zero ∧ vOf bs zero base p k * base + bs (p + k) - zero < base ^ (k + 1)
    have m0 : 0 ≤ vOf bs zero base p k * base := Int.mul_nonneg i1 (by omega)
    have m1 : (vOf bs zero base p k + 1) * base ≤ base ^ k * base := Int.mul_le_mul_of_nonneg_right (by omega) (by omega)
    rw [Int.add_mul, Int.one_mul] at m1
    rw [Int.pow_succ]
    omega
noncomputable def kdW (c : Int) : Int := if c = cd 0 then 5 else if c = cd 1 then 6 else if c = cd 2 then 7 else if c = cd 3 then 8 else if c = cd 4 then 9 else if c = cd 5 then 10 else 2
/-- what token begins at p -/
def tokAt (bs : Int → Int) (n p k v e : Int) : Prop :=
  (p = n ∧ k = 0 ∧ e = n) ∨
  (p < n ∧ ∃ e', isRn bs n 97 122 p e' ∧ p < e' ∧ ((e' - p ≤ 7 ∧ v = vOf bs 96 32 p (e' - p).toNat ∧ k = kdW v ∧ e = e') ∨ (7 < e' - p ∧ k = 1))) ∨
  (p < n ∧ ∃ e', isRn bs n 48 57 p e' ∧ p < e' ∧ ((e' - p ≤ 5 ∧ v = vOf bs 48 10 p (e' - p).toNat ∧ k = 3 ∧ e = e') ∨ (5 < e' - p ∧ k = 1))) ∨
  (p < n ∧ bs p = 46 ∧ ((p + 1 < n ∧ bs (p + 1) = 46 ∧ k = 4 ∧ e = p + 2) ∨ (¬ (p + 1 < n ∧ bs (p + 1) = 46) ∧ k = 1))) ∨
  (p < n ∧ isSg (bs p) ∧ k = bs p ∧ e = p + 1) ∨
  (p < n ∧ ¬ (97 ≤ bs p ∧ bs p ≤ 122) ∧ ¬ (48 ≤ bs p ∧ bs p ≤ 57) ∧ ¬ bs p = 46 ∧ ¬ isSg (bs p) ∧ k = 1)
theorem cd_R : ∀ k < 6, zRL (cd (k : Nat)) := by
  have : ∀ k < 6, -9223372036854775808 ≤ cd (k : Nat) ∧ cd (k : Nat) < 9223372036854775808 := by decide +kernel
  exact fun k hk => this k hk
theorem kdW_rg (v : Int) : kdW v = 2 ∨ (5 ≤ kdW v ∧ kdW v ≤ 10) := by
  unfold kdW
  by_cases c0 : v = cd 0
  · rw [if_pos c0]; omega
  rw [if_neg c0]
  by_cases c1 : v = cd 1
  · rw [if_pos c1]; omega
  rw [if_neg c1]
  by_cases c2 : v = cd 2
  · rw [if_pos c2]; omega
  rw [if_neg c2]
  by_cases c3 : v = cd 3
  · rw [if_pos c3]; omega
  rw [if_neg c3]
  by_cases c4 : v = cd 4
  · rw [if_pos c4]; omega
  rw [if_neg c4]
  by_cases c5 : v = cd 5
  · rw [if_pos c5]; omega
  · rw [if_neg c5]; omega
section TK
variable {G : zG} {d : Nat} {h : zH}
theorem sp_kindOf {K : Int → zH → Prop} {v : Int} (hv : zRL v) (k : K (kdW v) h) : zCi G (d + 6) mX10_kindOf [vl v] h K := by
  unfold kdW at k
  have z := fun (j : Nat) (hj : j < 6) => (zcmp_lt hv (cd_R j hj)).2.1
  refine eX10_kindOf (bX10_kindOf_0 (sp_codeOf (k := 0) (by decide) ⟨fun q0 => ?_, fun q0 => ?_⟩))
  · have c0 : ¬ v = cd 0 := fun e => q0 ((z 0 (by decide)).mpr e)
    rw [if_neg c0] at k
    refine sp_codeOf (k := 1) (by decide) ⟨fun q1 => ?_, fun q1 => ?_⟩
    · have c1 : ¬ v = cd 1 := fun e => q1 ((z 1 (by decide)).mpr e)
      rw [if_neg c1] at k
      refine sp_codeOf (k := 2) (by decide) ⟨fun q2 => ?_, fun q2 => ?_⟩
      · have c2 : ¬ v = cd 2 := fun e => q2 ((z 2 (by decide)).mpr e)
        rw [if_neg c2] at k
        refine sp_codeOf (k := 3) (by decide) ⟨fun q3 => ?_, fun q3 => ?_⟩
        · have c3 : ¬ v = cd 3 := fun e => q3 ((z 3 (by decide)).mpr e)
          rw [if_neg c3] at k
          refine sp_codeOf (k := 4) (by decide) ⟨fun q4 => ?_, fun q4 => ?_⟩
          · have c4 : ¬ v = cd 4 := fun e => q4 ((z 4 (by decide)).mpr e)
            rw [if_neg c4] at k
            refine sp_codeOf (k := 5) (by decide) ⟨fun q5 => ?_, fun q5 => ?_⟩
            · rwa [if_neg (show ¬ v = cd 5 from fun e => q5 ((z 5 (by decide)).mpr e))] at k
            · rwa [if_pos (show v = cd 5 from (z 5 (by decide)).mp q5)] at k
          · rwa [if_pos (show v = cd 4 from (z 4 (by decide)).mp q4)] at k
        · rwa [if_pos (show v = cd 3 from (z 3 (by decide)).mp q3)] at k
      · rwa [if_pos (show v = cd 2 from (z 2 (by decide)).mp q2)] at k
    · rwa [if_pos (show v = cd 1 from (z 1 (by decide)).mp q1)] at k
  · rwa [if_pos (show v = cd 0 from (z 0 (by decide)).mp q0)] at k
theorem zl1_ : zln 1 = 900 := by decide +kernel
theorem sp_runOf {K : Int → zH → Prop} {n p lo hi : Int} (hn : 0 ≤ n ∧ n ≤ 900) (hp : 0 ≤ p ∧ p ≤ n) (hl : zR lo) (hh : zR hi) (hb : ∀ i, 0 ≤ i → i < n → -128 ≤ h 1 i ∧ h 1 i < 128) (k : ∀ e, isRn (h 1) n lo hi p e → K (e - p) h) : zCi G d mX10_runOf [vr 15 1, vi p, vi n, vi lo, vi hi] h K := by
  have go : ∀ (f : Nat) (r : Int), 0 ≤ r → p + r + f = n → (∀ i, p ≤ i → i < p + r → lo ≤ h 1 i ∧ h 1 i ≤ hi) → tX10_runOf_3 G d K 1 p n lo hi r h := by
    intro f
    induction f with
    | zero =>
      intro r r0 rf al
      have := k (p + r) ⟨by omega, by omega, al, fun z => absurd z (by omega)⟩
      rw [show p + r - p = r by omega] at this
      exact bX10_runOf_3 ⟨⟨by omega, by omega⟩, ⟨by omega, by omega⟩, fun _ => this, fun z => absurd (by omega) z⟩
    | succ f ih =>
      intro r r0 rf al
      have b := hb (p + r) (by omega) (by omega)
      have stop : ¬ (lo ≤ h 1 (p + r) ∧ h 1 (p + r) ≤ hi) → K r h := fun q => by
        have := k (p + r) ⟨by omega, by omega, al, fun _ => q⟩
        rwa [show p + r - p = r by omega] at this
      refine bX10_runOf_3 ⟨⟨by omega, by omega⟩, ⟨by omega, by omega⟩, fun z => absurd z (by omega), fun _ => ⟨by rw [zl1_]; omega, ⟨by omega, by omega⟩, hl, fun q => stop (by omega), fun q => ⟨by rw [zl1_]; omega, ⟨by omega, by omega⟩, hh, fun q2 => stop (by omega), fun q2 => ih (r + 1) (by omega) (by omega) (fun i i0 i1 => ?_)⟩⟩⟩
      by_cases w : i = p + r
      · rw [w]
        omega
      · exact al i i0 (by omega)
  exact eX10_runOf (bX10_runOf_0 (go (n - p).toNat 0 (by omega) (by omega) (fun i i0 i1 => absurd i1 (by omega))))
theorem sp_valueOf {K : Int → zH → Prop} {p zero base : Int} {L : Nat} (hp : 0 ≤ p ∧ p + L ≤ 900) (hz : zR zero) (hbs : zR base) (hb : ∀ i, p ≤ i → i < p + L → -128 ≤ h 1 i ∧ h 1 i < 128) (k : K (vOf (h 1) zero base p L) h) : zCl G d mX10_valueOf [vr 15 1, vi p, vi L, vi zero, vi base] h K := by
  have go : ∀ (f i : Nat), i + f = L → tX10_valueOf_6 G d K 1 p L zero base (vOf (h 1) zero base p i) (p + i) h := by
    intro f
    induction f with
    | zero =>
      intro i e
      have e : i = L := by omega
      subst e
      exact bX10_valueOf_6 ⟨⟨by omega, by omega⟩, ⟨by omega, by omega⟩, fun _ => k, fun z => absurd (Int.le_refl _) z⟩
    | succ f ih =>
      intro i e
      have b := hb (p + i) (by omega) (by omega)
      refine bX10_valueOf_6 ⟨⟨by omega, by omega⟩, ⟨by omega, by omega⟩, fun z => absurd z (by omega), fun _ => ⟨hbs, by rw [zl1_]; omega, ⟨by omega, by omega⟩, hz, ?_⟩⟩
      have := ih (i + 1) (by omega)
      rwa [show p + ((i + 1 : Nat) : Int) = p + i + 1 by omega] at this
  refine eX10_valueOf (bX10_valueOf_0 ?_)
  have := go L 0 (by omega)
  rwa [show p + ((0 : Nat) : Int) = p by omega] at this
/-- a token more -/
def tAd (h h' : zH) (k p v : Int) : Prop := (∀ a, ¬ (13 ≤ a ∧ a ≤ 16) → h' a = h a) ∧ (∀ j, ¬ j = 3 → h' 13 j = h 13 j) ∧ h' 13 3 = h 13 3 + 1 ∧ h' 14 = fup (h 14) (h 13 3) k ∧ h' 15 = fup (h 15) (h 13 3) p ∧ h' 16 = fup (h 16) (h 13 3) v
theorem sp_tadd {K : zH → Prop} {k p v : Int} (hm : 0 ≤ h 13 3 ∧ h 13 3 < 901) (kk : ∀ h' : zH, tAd h h' k p v → K h') : zCv G d mX10_add [vr 10 13, vi k, vi p, vl v] h K := by
  refine eX10_add (bX10_add_0 ⟨⟨by omega, by omega⟩, fun z => absurd z (by omega), fun _ => ⟨hm, hm, hm, kk _ ⟨fun a x => ?_, fun j x => ?_, ?_, ?_, ?_, ?_⟩⟩⟩)
  · rw [zup_ne (by omega), zup_ne (by omega), zup_ne (by omega), zup_ne (by omega)]
  · rw [zup_ns x, zup_ne (by decide), zup_ne (by decide), zup_ne (by decide)]
  · rw [zup_eq]
  · rw [zup_ne (by decide), zup_ne (by decide), zup_ne (by decide), zup_r]
  · rw [zup_ne (by decide), zup_ne (by decide), zup_r, zup_ne (by decide)]
  · rw [zup_ne (by decide), zup_r, zup_ne (by decide), zup_ne (by decide)]
theorem sp_addToken {K : Int → zH → Prop} {n p : Int} (hn : 0 ≤ n ∧ n ≤ 900) (hp : 0 ≤ p ∧ p < n) (hm : 0 ≤ h 13 3 ∧ h 13 3 < 901) (hb : ∀ i, 0 ≤ i → i < n → -128 ≤ h 1 i ∧ h 1 i < 128) (k1 : ∀ k v e, tokAt (h 1) n p k v e → ¬ k = 0 → ¬ k = 1 → p < e → e ≤ n → ∀ h' : zH, tAd h h' k p v → K (e - p) h') (k0 : (∀ v e, tokAt (h 1) n p 1 v e) → K 0 h) : zCi G (d + 7) mX10_addToken [vr 10 13, vr 15 1, vi p, vi n] h K := by
  have bp := hb p hp.1 hp.2
  -- dots and signs
  have tail : ¬ (48 ≤ h 1 p ∧ h 1 p ≤ 57 ∧ False) → (97 ≤ h 1 p ∧ h 1 p ≤ 122 → ∀ v e, tokAt (h 1) n p 1 v e) → (48 ≤ h 1 p ∧ h 1 p ≤ 57 → ∀ v e, tokAt (h 1) n p 1 v e) → zCi G (d + 6) mX10_runOf [vr 15 1, vi p, vi n, vi 46, vi 46] h (fun x5 h6 => zR x5 ∧ (x5 < 2 → (0 ≤ p ∧ p < zln 1) ∧ zR (h6 1 p) ∧ (h6 1 p ≤ 0 → K 0 h6) ∧ (¬ h6 1 p ≤ 0 → zCi G (d + 6) mJ0_indexOf_0f7a4 [(40, 6), vi (zi2c (h6 1 p))] h6 (fun x7 h8 => zR x7 ∧ (x7 < 0 → K 0 h8) ∧ (¬ x7 < 0 → zCv G (d + 6) mX10_add [vr 10 13, vi (h6 1 p), vi p, vl 0] h8 (fun h10 => K 1 h10))))) ∧ (¬ x5 < 2 → zCv G (d + 6) mX10_add [vr 10 13, vi 4, vi p, vl 0] h6 (fun h12 => K 2 h12))) := by
    intro _ sm dg
    refine sp_runOf hn (by omega) ⟨by decide, by decide⟩ ⟨by decide, by decide⟩ hb (fun e rn => ⟨⟨by have := rn.1; have := rn.2.1; omega, by have := rn.1; have := rn.2.1; omega⟩, fun l2 => ⟨by rw [zl1_]; omega, ⟨by omega, by omega⟩, fun q => k0 ?_, fun q => sp_sindex (d := d + 2) (by omega) (fun sg j j0 j1 => ⟨⟨by omega, by omega⟩, fun z => absurd z (by omega), fun _ => ?_⟩) (fun ns => ⟨zR_m1, fun _ => k0 ?_, fun z => absurd (by decide) z⟩)⟩, fun g2 => ?_⟩)
    · exact fun v e => Or.inr (Or.inr (Or.inr (Or.inr (Or.inr ⟨hp.2, by omega, by omega, by omega, by unfold isSg; omega, rfl⟩))))
    · refine sp_tadd hm (fun h' ta => ?_)
      have := k1 (h 1 p) 0 (p + 1) (Or.inr (Or.inr (Or.inr (Or.inr (Or.inl ⟨hp.2, sg, rfl, rfl⟩))))) (by unfold isSg at sg; omega) (by unfold isSg at sg; omega) (by omega) (by omega) h' ta
      rwa [show p + 1 - p = 1 by omega] at this
    · by_cases c1 : 97 ≤ h 1 p ∧ h 1 p ≤ 122
      · exact sm c1
      by_cases c2 : 48 ≤ h 1 p ∧ h 1 p ≤ 57
      · exact dg c2
      by_cases c3 : h 1 p = 46
      · refine fun v e' => Or.inr (Or.inr (Or.inr (Or.inl ⟨hp.2, c3, Or.inr ⟨fun z => ?_, rfl⟩⟩)))
        obtain ⟨r1, r2, r3, r4⟩ := rn
        have e1 : ¬ e = p := fun y => by
          rw [y] at r4
          exact r4 hp.2 (by omega)
        have e2 : e = p + 1 := by omega
        rw [e2] at r4
        exact r4 z.1 (by omega)
      · exact fun v e => Or.inr (Or.inr (Or.inr (Or.inr (Or.inr ⟨hp.2, c1, c2, c3, ns, rfl⟩))))
    · refine sp_tadd hm (fun h' ta => ?_)
      have a1 := rn.2.2.1 p (by omega) (by omega)
      have a2 := rn.2.2.1 (p + 1) (by omega) (by omega)
      have := k1 4 0 (p + 2) (Or.inr (Or.inr (Or.inr (Or.inl ⟨hp.2, by omega, Or.inl ⟨by have := rn.2.1; omega, by omega, rfl, rfl⟩⟩)))) (by decide) (by decide) (by omega) (by have := rn.2.1; omega) h' ta
      rwa [show p + 2 - p = 2 by omega] at this
  -- digits
  have digs : (97 ≤ h 1 p ∧ h 1 p ≤ 122 → ∀ v e, tokAt (h 1) n p 1 v e) → zCi G (d + 6) mX10_runOf [vr 15 1, vi p, vi n, vi 48, vi 57] h (fun x3 h4 => zR x3 ∧ (x3 ≤ 0 → zCi G (d + 6) mX10_runOf [vr 15 1, vi p, vi n, vi 46, vi 46] h4 (fun x5 h6 => zR x5 ∧ (x5 < 2 → (0 ≤ p ∧ p < zln 1) ∧ zR (h6 1 p) ∧ (h6 1 p ≤ 0 → K 0 h6) ∧ (¬ h6 1 p ≤ 0 → zCi G (d + 6) mJ0_indexOf_0f7a4 [(40, 6), vi (zi2c (h6 1 p))] h6 (fun x7 h8 => zR x7 ∧ (x7 < 0 → K 0 h8) ∧ (¬ x7 < 0 → zCv G (d + 6) mX10_add [vr 10 13, vi (h6 1 p), vi p, vl 0] h8 (fun h10 => K 1 h10))))) ∧ (¬ x5 < 2 → zCv G (d + 6) mX10_add [vr 10 13, vi 4, vi p, vl 0] h6 (fun h12 => K 2 h12)))) ∧ (¬ x3 ≤ 0 → zR x3 ∧ (5 < x3 → zCi G (d + 6) mX10_runOf [vr 15 1, vi p, vi n, vi 46, vi 46] h4 (fun x5 h6 => zR x5 ∧ (x5 < 2 → (0 ≤ p ∧ p < zln 1) ∧ zR (h6 1 p) ∧ (h6 1 p ≤ 0 → K 0 h6) ∧ (¬ h6 1 p ≤ 0 → zCi G (d + 6) mJ0_indexOf_0f7a4 [(40, 6), vi (zi2c (h6 1 p))] h6 (fun x7 h8 => zR x7 ∧ (x7 < 0 → K 0 h8) ∧ (¬ x7 < 0 → zCv G (d + 6) mX10_add [vr 10 13, vi (h6 1 p), vi p, vl 0] h8 (fun h10 => K 1 h10))))) ∧ (¬ x5 < 2 → zCv G (d + 6) mX10_add [vr 10 13, vi 4, vi p, vl 0] h6 (fun h12 => K 2 h12)))) ∧ (¬ 5 < x3 → zCl G (d + 6) mX10_valueOf [vr 15 1, vi p, vi x3, vi 48, vi 10] h4 (fun x21 h22 => zCv G (d + 6) mX10_add [vr 10 13, vi 3, vi p, vl x21] h22 (fun h24 => K x3 h24))))) := by
    intro sm
    refine sp_runOf hn (by omega) ⟨by decide, by decide⟩ ⟨by decide, by decide⟩ hb (fun e rn => ?_)
    have r1 := rn.1
    have r2 := rn.2.1
    refine ⟨⟨by omega, by omega⟩, fun l0 => tail (fun z => z.2.2) sm (fun q => ?_), fun g0 => ⟨⟨by omega, by omega⟩, fun g5 => tail (fun z => z.2.2) sm (fun _ v e' => Or.inr (Or.inr (Or.inl ⟨hp.2, e, rn, by omega, Or.inr ⟨by omega, rfl⟩⟩))), fun l5 => ?_⟩⟩
    · have ep : e = p := by omega
      exact absurd q (by have := rn.2.2.2; rw [ep] at this; exact this hp.2)
    · obtain ⟨L, eL⟩ : ∃ L : Nat, (L : Int) = e - p := ⟨(e - p).toNat, by omega⟩
      rw [← eL]
      refine sp_valueOf (by omega) ⟨by decide, by decide⟩ ⟨by decide, by decide⟩ (fun i i0 i1 => hb i (by omega) (by omega)) (sp_tadd hm (fun h' ta => ?_))
      rw [eL]
      exact k1 3 _ e (Or.inr (Or.inr (Or.inl ⟨hp.2, e, rn, by omega, Or.inl ⟨by omega, by rw [show (e - p).toNat = L by omega], rfl, rfl⟩⟩))) (by decide) (by decide) (by omega) r2 h' ta
  refine eX10_addToken (bX10_addToken_0 (sp_runOf hn (by omega) ⟨by decide, by decide⟩ ⟨by decide, by decide⟩ hb (fun e rn => ?_)))
  have r1 := rn.1
  have r2 := rn.2.1
  refine ⟨⟨by omega, by omega⟩, fun l0 => digs (fun q => ?_), fun g0 => ⟨⟨by omega, by omega⟩, fun g7 => digs (fun _ v e' => Or.inr (Or.inl ⟨hp.2, e, rn, by omega, Or.inr ⟨by omega, rfl⟩⟩)), fun l7 => ?_⟩⟩
  · have ep : e = p := by omega
    exact absurd q (by have := rn.2.2.2; rw [ep] at this; exact this hp.2)
  · obtain ⟨L, eL⟩ : ∃ L : Nat, (L : Int) = e - p := ⟨(e - p).toNat, by omega⟩
    rw [← eL]
    have vr := vOf_rg (bs := h 1) (zero := 96) (base := 32) (p := p) (by decide) L (fun i i0 i1 => by have := rn.2.2.1 (p + i) (by omega) (by omega); omega)
    have p6 : ∀ L < 8, (32 : Int) ^ L ≤ 34359738368 := by decide
    have p7 := p6 L (by omega)
    refine sp_valueOf (by omega) ⟨by decide, by decide⟩ ⟨by decide, by decide⟩ (fun i i0 i1 => hb i (by omega) (by omega)) (sp_kindOf ⟨by omega, by omega⟩ (sp_tadd hm (fun h' ta => ?_)))
    rw [eL]
    have kr := kdW_rg (vOf (h 1) 96 32 p L)
    exact k1 _ _ e (Or.inr (Or.inl ⟨hp.2, e, rn, by omega, Or.inl ⟨by omega, by rw [show (e - p).toNat = L by omega], rfl, rfl⟩⟩)) (by omega) (by omega) (by omega) r2 h' ta
end TK
