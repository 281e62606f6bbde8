/-! ===== the class's sets ===== -/
def lsP (h : zH) (r : Int) (S : Int → Bool) (Dl : List Int) : Prop := lsOK h r ∧ (∀ z, 0 ≤ z → z < 65536 → (inn (fun i => h (r + 1) i) (h r 1) z ↔ S z = true)) ∧ ∀ i, 0 ≤ i → i < h r 1 → h (r + 1) i ∈ Dl
theorem lsP_fr {h h' : zH} {r : Int} {S : Int → Bool} {Dl : List Int} (e1 : h' r = h r) (e2 : h' (r + 1) = h (r + 1)) (k : lsP h r S Dl) : lsP h' r S Dl := by
  unfold lsP lsOK at k ⊢
  rw [e1, e2]
  exact k
theorem lsP_f {h : zH} {r : Int} {S S' : Int → Bool} {Dl : List Int} (e : ∀ z, 0 ≤ z → z < 65536 → S z = S' z) (k : lsP h r S Dl) : lsP h r S' Dl := ⟨k.1, fun z a b => by rw [← e z a b]; exact k.2.1 z a b, k.2.2⟩
section LS
variable {G : zG} {d : Nat} {h : zH} {Dl : List Int}
theorem sp_cmb {K : zH → Prop} {o x y f : Int} {S T : Int → Bool} (ox : ¬ o = x ∧ ¬ o = x + 1 ∧ ¬ o + 1 = x) (oy : ¬ o = y ∧ ¬ o = y + 1 ∧ ¬ o + 1 = y) (hx : lsP h x S Dl) (hy : lsP h y T Dl) (hl : (Dl.length : Int) ≤ zln (o + 1)) (h0 : (0 : Int) ∈ Dl) (h1 : (65536 : Int) ∈ Dl) (k : ∀ h' : zH, (∀ a, ¬ a = o → ¬ a = o + 1 → h' a = h a) → (∀ j, ¬ j = 1 → h' o j = h o j) → lsP h' o (fun z => ztr f (S z) (T z)) Dl → K h') : zCv G (d + 1) mX3_combine [vr 3 o, vr 3 x, vr 3 y, vi f] h K :=
  sp_combine ox oy hx.1 hy.1 hl h0 h1 hx.2.2 hy.2.2 (fun h' g1 g2 g3 g4 g5 => k h' g1 g2 ⟨g3, fun z z0 z1 => g5 z z0 z1 (S z) (T z) (hx.2.1 z z0 z1).symm (hy.2.1 z z0 z1).symm, g4⟩)
theorem sp_clear {K : zH → Prop} {r : Int} (k : ∀ h' : zH, (∀ a, ¬ a = r → h' a = h a) → (∀ j, ¬ j = 1 → h' r j = h r j) → lsP h' r (fun _ => false) Dl → K h') : zCv G d mX3_clear [vr 3 r] h K := by
  refine eX3_clear (bX3_clear_0 (k _ (fun a q => zup_ne q) (fun j q => zup_ns q) ⟨⟨?_, ?_⟩, fun z _ _ => ?_, fun i i0 i1 => ?_⟩))
  · rw [zup_eq]
    exact ⟨Int.le_refl _, rfl, fun i a b => absurd b (by omega), fun i j a b c => absurd c (by omega)⟩
  · rw [zup_eq]
    exact zln_nn _
  · rw [zup_eq]
    constructor
    · rintro ⟨p, hp, q, -⟩
      omega
    · intro q
      cases q
  · rw [zup_eq] at i1
    omega
theorem sp_become {K : zH → Prop} {r a b : Int} (hl : 2 ≤ zln (r + 1)) (ab : 0 ≤ a ∧ a ≤ b ∧ b < 65536) (da : a ∈ Dl) (db : b + 1 ∈ Dl) (k : ∀ h' : zH, (∀ x, ¬ x = r → ¬ x = r + 1 → h' x = h x) → (∀ j, ¬ j = 1 → h' r j = h r j) → lsP h' r (fun z => decide (a ≤ z ∧ z ≤ b)) Dl → K h') : zCv G d mX3_become [vr 3 r, vi a, vi b] h K := by
  have e1 : (zup (zup (zup (zup h r 1 0) (r + 1) 0 a) (r + 1) 1 (b + 1)) r 1 2) r 1 = 2 := zup_eq
  have e2 : (zup (zup (zup (zup h r 1 0) (r + 1) 0 a) (r + 1) 1 (b + 1)) r 1 2) (r + 1) 0 = a := by rw [zup_ne (by omega), zup_ns (by decide), zup_eq]
  have e3 : (zup (zup (zup (zup h r 1 0) (r + 1) 0 a) (r + 1) 1 (b + 1)) r 1 2) (r + 1) 1 = b + 1 := by rw [zup_ne (by omega), zup_eq]
  have ok : cOK (fun i => (zup (zup (zup (zup h r 1 0) (r + 1) 0 a) (r + 1) 1 (b + 1)) r 1 2) (r + 1) i) 2 := by
    refine ⟨by decide, rfl, fun i i0 i1 => ?_, fun i j i0 i1 i2 => ?_⟩
    · by_cases w : i = 0
      · rw [w]
        show 0 ≤ (zup (zup (zup (zup h r 1 0) (r + 1) 0 a) (r + 1) 1 (b + 1)) r 1 2) (r + 1) 0 ∧ (zup (zup (zup (zup h r 1 0) (r + 1) 0 a) (r + 1) 1 (b + 1)) r 1 2) (r + 1) 0 ≤ 65536
        rw [e2]
        omega
      · have w : i = 1 := by omega
        rw [w]
        show 0 ≤ (zup (zup (zup (zup h r 1 0) (r + 1) 0 a) (r + 1) 1 (b + 1)) r 1 2) (r + 1) 1 ∧ (zup (zup (zup (zup h r 1 0) (r + 1) 0 a) (r + 1) 1 (b + 1)) r 1 2) (r + 1) 1 ≤ 65536
        rw [e3]
        omega
    · have wi : i = 0 := by omega
      have wj : j = 1 := by omega
      rw [wi, wj]
      show (zup (zup (zup (zup h r 1 0) (r + 1) 0 a) (r + 1) 1 (b + 1)) r 1 2) (r + 1) 0 < (zup (zup (zup (zup h r 1 0) (r + 1) 0 a) (r + 1) 1 (b + 1)) r 1 2) (r + 1) 1
      rw [e2, e3]
      omega
  refine eX3_become (bX3_become_0 ⟨fun z => absurd z (by omega), fun _ => ⟨by omega, by omega, k _ (fun x p q => ?_) (fun j q => ?_) ⟨⟨by rw [e1]; exact ok, by rw [e1]; exact hl⟩, fun z z0 z1 => ?_, fun i i0 i1 => ?_⟩⟩⟩)
  · rw [zup_ne p, zup_ne q, zup_ne q, zup_ne p]
  · rw [zup_ns q, zup_ne (by omega), zup_ne (by omega), zup_ns q]
  · rw [e1, inn_cIn ok, decide_eq_true_iff]
    constructor
    · rintro ⟨i, i0, i1, i2, i3⟩
      have w : i = 0 := by omega
      rw [w] at i2 i3
      have i2 : (zup (zup (zup (zup h r 1 0) (r + 1) 0 a) (r + 1) 1 (b + 1)) r 1 2) (r + 1) 0 ≤ z := i2
      have i3 : z < (zup (zup (zup (zup h r 1 0) (r + 1) 0 a) (r + 1) 1 (b + 1)) r 1 2) (r + 1) 1 := i3
      rw [e2] at i2
      rw [e3] at i3
      omega
    · intro q
      refine ⟨0, by omega, by omega, ?_, ?_⟩
      · show (zup (zup (zup (zup h r 1 0) (r + 1) 0 a) (r + 1) 1 (b + 1)) r 1 2) (r + 1) 0 ≤ z
        rw [e2]
        exact q.1
      · show z < (zup (zup (zup (zup h r 1 0) (r + 1) 0 a) (r + 1) 1 (b + 1)) r 1 2) (r + 1) 1
        rw [e3]
        omega
  · rw [e1] at i1
    by_cases w : i = 0
    · rw [w, e2]
      exact da
    · have w : i = 1 := by omega
      rw [w, e3]
      exact db
theorem sp_copy {K : zH → Prop} {r x : Int} {S : Int → Bool} (rx : ¬ r = x ∧ ¬ r = x + 1 ∧ ¬ r + 1 = x) (hx : lsP h x S Dl) (hl : h x 1 ≤ zln (r + 1)) (k : ∀ h' : zH, (∀ a, ¬ a = r → ¬ a = r + 1 → h' a = h a) → (∀ j, ¬ j = 1 → h' r j = h r j) → h' r 1 = h x 1 → (∀ i, 0 ≤ i → i < h x 1 → h' (r + 1) i = h (x + 1) i) → lsP h' r S Dl → K h') : zCv G (d + 1) mX3_copy [vr 3 r, vr 3 x] h K := by
  have lx := zln_le (x + 1)
  have lr := zln_le (r + 1)
  have n0 := hx.1.1.1
  have go : ∀ (f : Nat) (i : Int) (h1 : zH), 0 ≤ i → i + f = h x 1 → (∀ a, ¬ a = r → ¬ a = r + 1 → h1 a = h a) → (∀ j, ¬ j = 1 → h1 r j = h r j) → h1 r 1 = i → (∀ j, 0 ≤ j → j < i → h1 (r + 1) j = h (x + 1) j) → tX3_copy_7 G d K r x i h1 := by
    intro f
    induction f with
    | zero =>
      intro i h1 i0 iff g1 g2 g3 g4
      refine bX3_copy_7 ?_
      rw [g1 x (by omega) (by omega)]
      refine ⟨⟨by omega, by omega⟩, ⟨by omega, by omega⟩, fun _ => ?_, fun z => absurd (by omega) z⟩
      have g5 : ∀ j, 0 ≤ j → j < h x 1 → h1 (r + 1) j = h (x + 1) j := fun j a b => g4 j a (by omega)
      have e1 : h1 r 1 = h x 1 := by omega
      refine k h1 g1 g2 e1 g5 ⟨⟨?_, by rw [e1]; exact hl⟩, fun z z0 z1 => ?_, fun j a b => ?_⟩
      · obtain ⟨c1, c2, c3, c4⟩ := hx.1.1
        rw [e1]
        refine ⟨c1, c2, fun j a b => ?_, fun i j a b c => ?_⟩
        · show 0 ≤ h1 (r + 1) j ∧ h1 (r + 1) j ≤ 65536
          rw [g5 j a b]
          exact c3 j a b
        · show h1 (r + 1) i < h1 (r + 1) j
          rw [g5 i a (by omega), g5 j (by omega) c]
          exact c4 i j a b c
      · rw [← hx.2.1 z z0 z1, e1]
        unfold inn
        constructor
        · rintro ⟨p, hp, q, a, b⟩
          exact ⟨p, hp, q, fun i i0 i1 => by have := a i i0 i1; rwa [show (fun i => h1 (r + 1) i) i = h (x + 1) i from g5 i i0 (by omega)] at this, fun i i0 i1 => by have := b i i0 i1; rwa [show (fun i => h1 (r + 1) i) i = h (x + 1) i from g5 i (by omega) i1] at this⟩
        · rintro ⟨p, hp, q, a, b⟩
          exact ⟨p, hp, q, fun i i0 i1 => by rw [show (fun i => h1 (r + 1) i) i = h (x + 1) i from g5 i i0 (by omega)]; exact a i i0 i1, fun i i0 i1 => by rw [show (fun i => h1 (r + 1) i) i = h (x + 1) i from g5 i (by omega) i1]; exact b i i0 i1⟩
      · rw [g5 j a (by omega)]
        exact hx.2.2 j a (by omega)
    | succ f ih =>
      intro i h1 i0 iff g1 g2 g3 g4
      refine bX3_copy_7 ?_
      rw [g1 x (by omega) (by omega), g1 (x + 1) (by omega) (by omega)]
      have hl2 := hx.1.2
      refine ⟨⟨by omega, by omega⟩, ⟨by omega, by omega⟩, fun z => absurd z (by omega), fun _ => ⟨by omega, eX3_addCut (bX3_addCut_0 ?_)⟩⟩
      rw [g3]
      refine ⟨⟨by omega, by omega⟩, fun z => absurd z (by omega), fun _ => ⟨by omega, ih (i + 1) _ (by omega) (by omega) (fun a p q => ?_) (fun j q => ?_) ?_ (fun j j0 j1 => ?_)⟩⟩
      · rw [zup_ne p, zup_ne q, g1 a p q]
      · rw [zup_ns q, zup_ne (by omega), g2 j q]
      · rw [zup_eq, zup_ne (by omega), g3]
      · rw [zup_ne (by omega)]
        by_cases w : j = i
        · rw [w, zup_eq]
        · rw [zup_ns w]
          exact g4 j j0 (by omega)
  exact eX3_copy (bX3_copy_0 (go (h x 1).toNat 0 _ (by omega) (by omega) (fun a p q => zup_ne p) (fun j q => zup_ns q) zup_eq (fun j j0 j1 => absurd j1 (by omega))))
end LS
/-! ===== the sets of bodies, by their places ===== -/
def bdy (h : zH) : Prop := (∀ j, 0 ≤ j → j < 28 → 24 ≤ bR h j ∧ bR h j ≤ 78 ∧ bR h j % 2 = 0) ∧ ∀ i j, 0 ≤ i → i < j → j < 28 → ¬ bR h i = bR h j
theorem bdy_ne {h : zH} (b : bdy h) {i j : Int} (i0 : 0 ≤ i ∧ i < 28) (j0 : 0 ≤ j ∧ j < 28) (ne : ¬ i = j) : ¬ bR h i = bR h j ∧ ¬ bR h i = bR h j + 1 ∧ ¬ bR h i + 1 = bR h j := by
  have a := b.1 i i0.1 i0.2
  have c := b.1 j j0.1 j0.2
  have : ¬ bR h i = bR h j := by
    rcases Int.lt_trichotomy i j with w | w | w
    · exact b.2 i j i0.1 w j0.2
    · exact absurd w ne
    · exact fun e => b.2 j i j0.1 w i0.2 e.symm
  omega
theorem bdy_ln {r : Int} (h0 : 24 ≤ r ∧ r ≤ 78 ∧ r % 2 = 0) : zln (r + 1) = 902 := by
  have e : ∀ k < 28, zln (24 + 2 * (k : Nat) + 1) = 902 := by decide +kernel
  have := e ((r - 24) / 2).toNat (by omega)
  rwa [show (24 : Int) + 2 * (((r - 24) / 2).toNat : Nat) + 1 = r + 1 by omega] at this
theorem bdy_fr {h h' : zH} (e : ∀ j, 0 ≤ j → j < 28 → bR h' j = bR h j) (b : bdy h) : bdy h' := ⟨fun j a c => by rw [e j a c]; exact b.1 j a c, fun i j a c f => by rw [e i a (by omega), e j (by omega) f]; exact b.2 i j a c f⟩
theorem bdy_sw {h h' : zH} {a c : Int} (ha : 0 ≤ a ∧ a < 28) (hc : 0 ≤ c ∧ c < 28) (ac : ¬ a = c) (e1 : bR h' a = bR h c) (e2 : bR h' c = bR h a) (e : ∀ j, 0 ≤ j → j < 28 → ¬ j = a → ¬ j = c → bR h' j = bR h j) (b : bdy h) : bdy h' := by
  have v : ∀ j, 0 ≤ j → j < 28 → ∃ k, (0 ≤ k ∧ k < 28) ∧ bR h' j = bR h k ∧ (j = a → k = c) ∧ (j = c → k = a) ∧ (¬ j = a → ¬ j = c → k = j) := fun j j0 j1 => by
    by_cases x : j = a
    · exact ⟨c, hc, by rw [x, e1], fun _ => rfl, fun y => absurd (x.symm.trans y) ac, fun y => absurd x y⟩
    · by_cases y : j = c
      · exact ⟨a, ha, by rw [y, e2], fun z => absurd z x, fun _ => rfl, fun _ z => absurd y z⟩
      · exact ⟨j, ⟨j0, j1⟩, e j j0 j1 x y, fun z => absurd z x, fun z => absurd z y, fun _ _ => rfl⟩
  refine ⟨fun j j0 j1 => ?_, fun i j i0 i1 j1 => ?_⟩
  · obtain ⟨k, hk, ek, -⟩ := v j j0 j1
    rw [ek]
    exact b.1 k hk.1 hk.2
  · obtain ⟨k, hk, ek, k1, k2, k3⟩ := v i i0 (by omega)
    obtain ⟨l, hl, el, l1, l2, l3⟩ := v j (by omega) j1
    rw [ek, el]
    exact (bdy_ne b hk hl (by omega)).1
