/-! ===== the model builds ===== -/
section RH
variable {lo hi lo' hi' : Int → Int} {a c : Int} {f g : Int → Bool}
theorem rgs_c (e : ∀ k, a ≤ k → k < c → lo' k = lo k ∧ hi' k = hi k) (h : rgs lo hi a c f) : rgs lo' hi' a c f := by
  obtain ⟨h1, h2, h3⟩ := h
  refine ⟨fun k k0 k1 => ?_, fun k k0 k1 => ?_, fun z z0 z1 => ?_⟩
  · rw [(e k k0 k1).1, (e k k0 k1).2]
    exact h1 k k0 k1
  · rw [(e k k0 (by omega)).2, (e (k + 1) (by omega) k1).1]
    exact h2 k k0 k1
  · rw [h3 z z0 z1]
    exact ⟨fun ⟨k, hk, q⟩ => ⟨k, hk, by rw [(e k hk.1 hk.2).1, (e k hk.1 hk.2).2]; exact q⟩, fun ⟨k, hk, q⟩ => ⟨k, hk, by rw [(e k hk.1 hk.2).1, (e k hk.1 hk.2).2] at q; exact q⟩⟩
theorem rgs_f (e : ∀ z, 0 ≤ z → z < 65536 → f z = g z) (h : rgs lo hi a c f) : rgs lo hi a c g := ⟨h.1, h.2.1, fun z z0 z1 => by rw [← e z z0 z1]; exact h.2.2 z z0 z1⟩
theorem rgs_0 : rgs lo hi a a (fun _ => false) := ⟨fun k x y => absurd y (by omega), fun k x y => absurd y (by omega), fun z _ _ => ⟨fun q => (by cases q), fun ⟨k, hk, _⟩ => absurd hk.2 (by omega)⟩⟩
theorem rgs_add {x y : Int} (h : rgs lo hi a c f) (ac : a ≤ c) (x0 : 0 ≤ x ∧ x ≤ y ∧ y < 65536) (nx : a < c → hi (c - 1) + 1 < x) (eg : ∀ z, 0 ≤ z → z < 65536 → (g z = true ↔ f z = true ∨ (x ≤ z ∧ z ≤ y))) : rgs (fup lo c x) (fup hi c y) a (c + 1) g := by
  obtain ⟨h1, h2, h3⟩ := h
  refine ⟨fun k k0 k1 => ?_, fun k k0 k1 => ?_, fun z z0 z1 => ?_⟩
  · by_cases w : k = c
    · rw [w, fup_eq, fup_eq]
      exact x0
    · rw [fup_ne w, fup_ne w]
      exact h1 k k0 (by omega)
  · rw [fup_ne (show ¬ k = c by omega)]
    by_cases w : k + 1 = c
    · rw [w, fup_eq, show k = c - 1 by omega]
      exact nx (by omega)
    · rw [fup_ne w]
      exact h2 k k0 (by omega)
  · rw [eg z z0 z1, h3 z z0 z1]
    constructor
    · rintro (⟨k, hk, q⟩ | q)
      · exact ⟨k, by omega, by rw [fup_ne (by omega), fup_ne (by omega)]; exact q⟩
      · exact ⟨c, by omega, by rw [fup_eq, fup_eq]; exact q⟩
    · rintro ⟨k, hk, q⟩
      by_cases w : k = c
      · rw [w, fup_eq, fup_eq] at q
        exact Or.inr q
      · rw [fup_ne w, fup_ne w] at q
        exact Or.inl ⟨k, by omega, q⟩
theorem rgs_ext {x y : Int} (h : rgs lo hi a c f) (ac : a < c) (x0 : 0 ≤ x ∧ x ≤ y ∧ y < 65536) (nx : hi (c - 1) + 1 = x) (eg : ∀ z, 0 ≤ z → z < 65536 → (g z = true ↔ f z = true ∨ (x ≤ z ∧ z ≤ y))) : rgs lo (fup hi (c - 1) y) a c g := by
  obtain ⟨h1, h2, h3⟩ := h
  have r := h1 (c - 1) (by omega) (by omega)
  refine ⟨fun k k0 k1 => ?_, fun k k0 k1 => ?_, fun z z0 z1 => ?_⟩
  · by_cases w : k = c - 1
    · rw [w, fup_eq]
      omega
    · rw [fup_ne w]
      exact h1 k k0 k1
  · rw [fup_ne (show ¬ k = c - 1 by omega)]
    exact h2 k k0 k1
  · rw [eg z z0 z1, h3 z z0 z1]
    constructor
    · rintro (⟨k, hk, q⟩ | q)
      · by_cases w : k = c - 1
        · exact ⟨k, hk, by rw [w] at q ⊢; rw [fup_eq]; omega⟩
        · exact ⟨k, hk, by rw [fup_ne w]; exact q⟩
      · exact ⟨c - 1, by omega, by rw [fup_eq]; omega⟩
    · rintro ⟨k, hk, q⟩
      by_cases w : k = c - 1
      · rw [w, fup_eq] at q
        by_cases v : z ≤ hi (c - 1)
        · exact Or.inl ⟨c - 1, by omega, by omega⟩
        · exact Or.inr (by omega)
      · rw [fup_ne w] at q
        exact Or.inl ⟨k, hk, q⟩
/-- at most M ranges -/
def rcn (f : Int → Bool) (M : Nat) : Prop := ∀ (m : Nat) (s : Int → Int), (∀ i : Int, 0 ≤ i → i < m → (0 ≤ s i ∧ s i < 65536) ∧ f (s i) = true ∧ (s i = 0 ∨ f (s i - 1) = false)) → (∀ i j : Int, 0 ≤ i → i < j → j < m → s i < s j) → m ≤ M
theorem rgs_rc {M : Nat} (h : rgs lo hi a c f) (ac : a ≤ c) (r : rcn f M) : c - a ≤ M := by
  have := r (c - a).toNat (fun i => lo (a + i)) (fun i i0 i1 => ?_) (fun i j i0 i1 i2 => ?_)
  · omega
  · have hk : a ≤ a + i ∧ a + i < c := by omega
    have g := h.1 (a + i) hk.1 hk.2
    refine ⟨by omega, rgs_in h (by omega) hk (by omega) (by omega), ?_⟩
    by_cases z : lo (a + i) = 0
    · exact Or.inl z
    · refine Or.inr ?_
      have := rgs_lo h hk (by omega)
      rw [rgs_in h (z := lo (a + i)) (by omega) hk (by omega) (by omega)] at this
      cases q : f (lo (a + i) - 1)
      · rfl
      · rw [q] at this
        exact absurd rfl this
  · have := rgs_m h (j := a + i) (by omega) (j - i - 1).toNat (a + j) (by omega) (by omega)
    have := h.1 (a + i) (by omega) (by omega)
    show lo (a + i) < lo (a + j)
    omega
theorem rcn_pre {M : Nat} {p : Int} (r : rcn f M) (e : ∀ z, 0 ≤ z → z < 65536 → (g z = true ↔ f z = true ∧ z < p)) : rcn g M := by
  intro m s h1 h2
  refine r m s (fun i i0 i1 => ?_) h2
  obtain ⟨a, b, c⟩ := h1 i i0 i1
  have b' := (e _ a.1 a.2).mp b
  refine ⟨a, b'.1, ?_⟩
  by_cases z : s i = 0
  · exact Or.inl z
  · refine Or.inr ?_
    rcases c with c | c
    · exact absurd c z
    · cases q : f (s i - 1)
      · rfl
      · rw [(e _ (by omega) (by omega)).mpr ⟨q, by omega⟩] at c
        exact c
end RH
def bF (h h' : zH) : Prop := (∀ a, ¬ a = 466 → ¬ (486 ≤ a ∧ a ≤ 492) → h' a = h a) ∧ ∀ j, ¬ (47 ≤ j ∧ j ≤ 49) → ¬ j = 51 → h' 466 j = h 466 j
theorem bF_r (h : zH) : bF h h := ⟨fun _ _ _ => rfl, fun _ _ _ => rfl⟩
theorem bF_t {h1 h2 h3 : zH} (a : bF h1 h2) (b : bF h2 h3) : bF h1 h3 := ⟨fun x p q => (b.1 x p q).trans (a.1 x p q), fun j p q => (b.2 j p q).trans (a.2 j p q)⟩
theorem bF_k {h h' : zH} (f : bF h h') : mK h h' := ⟨fun a k => f.1 a (by unfold kp at k; omega) (by unfold kp at k; omega), f.1 0 (by decide) (by decide), fun j k => f.2 j (by unfold kms at k; omega) (by unfold kms at k; omega)⟩
theorem bF_rep {h h' D : zH} {i : Int} (f : bF h h') (r : mRep h i D) : mRep h' i D := mRep_fr (fun a x y => f.1 a (by omega) (by omega)) r
theorem drM_ov {h : zH} {n : Int} {L L' : List eT} {LF : List fT} (a : 160 < L.length) (b : 160 < L'.length) (k : drM h n L LF) : drM h n L' LF := by
  obtain ⟨k1, k2, k3, k4, k5, k6, k7⟩ := k
  exact ⟨k1, k2, fun z => absurd z (by omega), k4, k5, fun z => absurd z.2.1 (by omega), fun _ => k7 (fun z => absurd z.2.1 (by omega))⟩
theorem drM_f {h : zH} {n a b : Int} {L : List eT} {LF : List fT} {f g : Int → Bool} (e : ∀ z, 0 ≤ z → z < 65536 → f z = g z) (k : drM h n (L ++ [(a, b, f)]) LF) : drM h n (L ++ [(a, b, g)]) LF := by
  unfold drM fits at k ⊢
  rw [len_1] at k ⊢
  obtain ⟨k1, k2, k3, k4, k5, k6, k7⟩ := k
  refine ⟨k1, k2, fun z => ⟨(k3 z).1, (k3 z).2.1, fun e' a0 a1 => ?_⟩, k4, k5, k6, k7⟩
  have := (k3 z).2.2 e' a0 a1
  by_cases w : e' = L.length
  · rw [gE_r w] at this ⊢
    exact ⟨this.1, this.2.1, this.2.2.1, rgs_f e this.2.2.2⟩
  · rw [gE_l a0 (by omega)] at this ⊢
    exact this
section BU
variable {G : zG} {d : Nat} {h D : zH} {n : Int} {LE : List eT} {LF : List fT}
theorem sm_builds {K : zH → Prop} (hn : zR n) (k : ∀ h' : zH, (∀ a, ¬ a = 466 → ¬ (486 ≤ a ∧ a ≤ 492) → h' a = h a) → (∀ j, ¬ (47 ≤ j ∧ j ≤ 51) → h' 466 j = h 466 j) → h' 466 50 = 0 → h' 488 0 = 0 → drM h' n [] [] → K h') : zCv G d mX12_builds [vr 12 466, vi n] h K := by
  have one : ∀ v, (n ≤ 40 → v = 0) → (¬ n ≤ 40 → v = 1) → K (zup (zup (zup (zup (zup (zup h 466 47 n) 466 48 0) 466 49 0) 466 50 0) 488 0 0) 466 51 v) := fun v v0 v1 => by
    have r : ∀ j, ¬ j = 51 → (zup (zup (zup (zup (zup (zup h 466 47 n) 466 48 0) 466 49 0) 466 50 0) 488 0 0) 466 51 v) 466 j = (zup (zup (zup (zup h 466 47 n) 466 48 0) 466 49 0) 466 50 0) 466 j := fun j q => by rw [zup_ns q, zup_ne (by decide)]
    have e49 : (zup (zup (zup (zup (zup (zup h 466 47 n) 466 48 0) 466 49 0) 466 50 0) 488 0 0) 466 51 v) 466 49 = 0 := by rw [r 49 (by decide), zup_ns (by decide), zup_eq]
    have e488 : (zup (zup (zup (zup (zup (zup h 466 47 n) 466 48 0) 466 49 0) 466 50 0) 488 0 0) 466 51 v) 488 0 = 0 := by rw [zup_ne (by decide), zup_eq]
    have ft : fits n [] [] ↔ n ≤ 40 := ⟨fun q => q.1, fun q => ⟨q, by decide, by decide⟩⟩
    refine k _ (fun a p q => ?_) (fun j p => ?_) (by rw [r 50 (by decide), zup_eq]) e488 ⟨?_, by rw [e49]; omega, fun _ => ⟨?_, e488, fun e a b => absurd b (by simp; omega)⟩, fun _ => ⟨by rw [e49]; rfl, fun e a b => absurd b (by simp; omega)⟩, fun z => absurd z (by decide), fun z => by rw [zup_eq, v0 (ft.mp z)], fun z => by rw [zup_eq, v1 (fun y => z (ft.mpr y))]⟩
    · rw [zup_ne p, zup_ne (by omega), zup_ne p, zup_ne p, zup_ne p, zup_ne p]
    · rw [r j (by omega), zup_ns (by omega), zup_ns (by omega), zup_ns (by omega), zup_ns (by omega)]
    · rw [r 47 (by decide), zup_ns (by decide), zup_ns (by decide), zup_ns (by decide), zup_eq]
    · rw [r 48 (by decide), zup_ns (by decide), zup_ns (by decide), zup_eq]
      rfl
  exact eX12_builds (bX12_builds_0 ⟨hn, fun q => one 0 (fun _ => rfl) (fun z => absurd q z), fun q => one 1 (fun z => absurd z q) (fun _ => rfl)⟩)
theorem sm_buildsFree {K : zH → Prop} {a b : Int} (k : drM h n LE LF) (kk : ∀ h' : zH, bF h h' → h' 488 = h 488 → drM h' n LE (LF ++ [(a, b)]) → K h') : zCv G d mX12_buildsFree [vr 12 466, vi a, vi b] h K := by
  obtain ⟨k1, k2, k3, k4, k5, k6, k7⟩ := k
  refine eX12_buildsFree (bX12_buildsFree_0 ⟨⟨by omega, by omega⟩, fun q => ⟨by omega, by omega, ?_⟩, fun q => ?_⟩)
  · have ll : LF.length < 64 ∧ h 466 49 = LF.length := by
      by_cases w : LF.length ≤ 64
      · have := (k4 w).1
        omega
      · have := k5 (by omega)
        omega
    have o : ∀ x, ¬ x = 466 → ¬ x = 491 → ¬ x = 492 → (zup (zup (zup h 491 (h 466 49) a) 492 (h 466 49) b) 466 49 (h 466 49 + 1)) x = h x := fun x p q r => by rw [zup_ne p, zup_ne r, zup_ne q]
    have o4 : ∀ j, ¬ j = 49 → (zup (zup (zup h 491 (h 466 49) a) 492 (h 466 49) b) 466 49 (h 466 49 + 1)) 466 j = h 466 j := fun j p => by rw [zup_ns p, zup_ne (by decide), zup_ne (by decide)]
    have fq : fits n LE (LF ++ [(a, b)]) ↔ fits n LE LF := by
      unfold fits
      rw [len_1]
      omega
    refine kk _ ⟨fun x p q => o x p (by omega) (by omega), fun j p q => o4 j (by omega)⟩ (o 488 (by decide) (by decide) (by decide)) ?_
    unfold drM
    rw [fq, o4 47 (by decide), o4 48 (by decide), o4 51 (by decide), o 486 (by decide) (by decide) (by decide), o 487 (by decide) (by decide) (by decide), o 488 (by decide) (by decide) (by decide), o 489 (by decide) (by decide) (by decide), o 490 (by decide) (by decide) (by decide), len_1, zup_eq]
    refine ⟨k1, by omega, k3, fun _ => ⟨by omega, fun i i0 i1 => ?_⟩, fun z => absurd z (by omega), k6, k7⟩
    rw [zup_ne (by decide), zup_ne (by decide), zup_r, zup_ne (by decide), zup_r, zup_ne (by decide)]
    by_cases w : i = LF.length
    · rw [gF_r w, w, ← ll.2, fup_eq, fup_eq]
      exact ⟨rfl, rfl⟩
    · rw [gF_l i0 (by omega), fup_ne (by omega), fup_ne (by omega)]
      exact (k4 (by omega)).2 i i0 (by omega)
  · have ll : 64 ≤ LF.length := by
      by_cases w : LF.length ≤ 64
      · have := (k4 w).1
        omega
      · omega
    have fq : ¬ fits n LE (LF ++ [(a, b)]) := by
      unfold fits
      rw [len_1]
      omega
    have o4 : ∀ j, ¬ j = 51 → (zup h 466 51 1) 466 j = h 466 j := fun j p => zup_ns p
    have o : ∀ x, ¬ x = 466 → (zup h 466 51 1) x = h x := fun x p => zup_ne p
    refine kk _ ⟨fun x p q => o x p, fun j p q => o4 j q⟩ (o 488 (by decide)) ?_
    unfold drM
    rw [o4 47 (by decide), o4 48 (by decide), o4 49 (by decide), o 486 (by decide), o 487 (by decide), o 488 (by decide), o 489 (by decide), o 490 (by decide), o 491 (by decide), o 492 (by decide), len_1]
    exact ⟨k1, k2, k3, fun z => absurd z (by omega), fun _ => by omega, fun z => absurd z fq, fun _ => zup_eq⟩
theorem sm_buildsFrees {K : zH → Prop} {i s : Int} {bk : Bool} (hi : 0 ≤ i ∧ i < 14) (hD : mOK D) (hr : mRep h i D) (k : drM h n LE LF) (kk : ∀ h' : zH, bF h h' → h' 488 = h 488 → drM h' n LE (LF ++ fL D s bk (D 0 3).toNat) → K h') : zCv G (d + 1) mX12_buildsFrees [vr 12 466, vi i, vi s, vi (bi bk)] h K := by
  have F0 := mO_fr hD
  have go : ∀ (f : Nat) (q : Nat) (h1 : zH), (q : Int) + f = D 0 3 → bF h h1 → h1 488 = h 488 → drM h1 n LE (LF ++ fL D s bk q) → tX12_buildsFrees_6 G d K i s bk (i * 64 + q) h1 := by
    intro f
    induction f with
    | zero =>
      intro q h1 e f1 f2 dc
      have r1 := bF_rep f1 hr
      refine bX12_buildsFrees_6 ?_
      rw [r1.1.2.2.2.1]
      exact ⟨hi, ⟨by omega, by omega⟩, ⟨by omega, by omega⟩, fun _ => kk h1 f1 f2 (by rw [show (D 0 3).toNat = q by omega]; exact dc), fun z => absurd (by omega) z⟩
    | succ f ih =>
      intro q h1 e f1 f2 dc
      have r1 := bF_rep f1 hr
      have rf := r1.2.2.1 q (by omega) (by omega)
      refine bX12_buildsFrees_6 ?_
      rw [r1.1.2.2.2.1, rf.1, rf.2]
      refine ⟨hi, ⟨by omega, by omega⟩, ⟨by omega, by omega⟩, fun z => absurd z (by omega), fun _ => ⟨fun z => ⟨by omega, fun _ => ⟨by omega, sm_buildsFree dc (fun h2 g1 g3 g2 => ?_)⟩, fun z2 => absurd (z.symm.trans z2) (by decide)⟩, fun z => ⟨by omega, fun z2 => absurd (z.symm.trans z2) (by decide), fun _ => ⟨by omega, sm_buildsFree dc (fun h2 g1 g3 g2 => ?_)⟩⟩⟩⟩
      · rw [show i * 64 + (q : Int) + 1 = i * 64 + ((q + 1 : Nat) : Int) by omega]
        refine ih (q + 1) h2 (by omega) (bF_t f1 g1) (g3.trans f2) ?_
        rw [fL_s, z, if_neg (by decide), ← List.append_assoc]
        rw [z] at g2
        exact g2
      · rw [show i * 64 + (q : Int) + 1 = i * 64 + ((q + 1 : Nat) : Int) by omega]
        refine ih (q + 1) h2 (by omega) (bF_t f1 g1) (g3.trans f2) ?_
        rw [fL_s, z, if_pos rfl, ← List.append_assoc]
        rw [z] at g2
        exact g2
  refine eX12_buildsFrees (bX12_buildsFrees_0 ?_)
  have := go (D 0 3).toNat 0 h (by omega) (bF_r h) rfl (by show drM h n LE (LF ++ []); rw [List.append_nil]; exact k)
  rwa [show i * 64 + ((0 : Nat) : Int) = i * 64 by omega] at this
theorem sm_buildsEdge {K : Bool → zH → Prop} {a b : Int} (k : drM h n LE LF) (l0 : LE.length ≤ 160) (k1 : LE.length < 160 → ∀ h' : zH, bF h h' → (∀ j, ¬ j = LE.length + 1 → h' 488 j = h 488 j) → h' 488 (LE.length + 1) = h 488 LE.length → drM h' n (LE ++ [(a, b, fun _ => false)]) LF → K true h') (k2 : LE.length = 160 → ∀ h' : zH, bF h h' → h' 488 = h 488 → (∀ x, drM h' n (LE ++ [x]) LF) → K false h') : zCb G d mX12_buildsEdge [vr 12 466, vi a, vi b] h K := by
  obtain ⟨q1, q2, q3, q4, q5, q6, q7⟩ := k
  obtain ⟨e48, e0, es⟩ := q3 l0
  obtain ⟨E, eE⟩ : ∃ x : Int, x = LE.length := ⟨_, rfl⟩
  refine eX12_buildsEdge (bX12_buildsEdge_0 ?_)
  rw [e48, ← eE]
  refine ⟨⟨by omega, by omega⟩, fun z => ⟨by omega, by omega, by omega, by omega, ?_⟩, fun z => ?_⟩
  · rw [show E + 1 - 1 = E by omega]
    have o : ∀ x, ¬ x = 466 → ¬ (486 ≤ x ∧ x ≤ 488) → (zup (zup (zup (zup h 486 E a) 487 E b) 466 48 (E + 1)) 488 (E + 1) (h 488 E)) x = h x := fun x p q => by rw [zup_ne (by omega), zup_ne p, zup_ne (by omega), zup_ne (by omega)]
    have o4 : ∀ j, ¬ j = 48 → (zup (zup (zup (zup h 486 E a) 487 E b) 466 48 (E + 1)) 488 (E + 1) (h 488 E)) 466 j = h 466 j := fun j p => by rw [zup_ne (by decide), zup_ns p, zup_ne (by decide), zup_ne (by decide)]
    have o8 : (zup (zup (zup (zup h 486 E a) 487 E b) 466 48 (E + 1)) 488 (E + 1) (h 488 E)) 488 = fup (h 488) (E + 1) (h 488 E) := by rw [zup_r, zup_ne (by decide), zup_ne (by decide), zup_ne (by decide)]
    have o6 : (zup (zup (zup (zup h 486 E a) 487 E b) 466 48 (E + 1)) 488 (E + 1) (h 488 E)) 486 = fup (h 486) E a := by rw [zup_ne (by decide), zup_ne (by decide), zup_ne (by decide), zup_r]
    have o7 : (zup (zup (zup (zup h 486 E a) 487 E b) 466 48 (E + 1)) 488 (E + 1) (h 488 E)) 487 = fup (h 487) E b := by rw [zup_ne (by decide), zup_ne (by decide), zup_r, zup_ne (by decide)]
    have fq : fits n (LE ++ [(a, b, fun _ => false)]) LF ↔ fits n LE LF := by
      unfold fits
      rw [len_1]
      omega
    refine k1 (by omega) _ ⟨fun x p q => o x p (by omega), fun j p q => o4 j (by omega)⟩ (fun j p => by rw [o8, fup_ne (by omega)]) (by rw [o8, ← eE, fup_eq]) ?_
    unfold drM
    rw [fq, o4 47 (by decide), o4 49 (by decide), o4 51 (by decide), o6, o7, o8, o 489 (by decide) (by decide), o 490 (by decide) (by decide), o 491 (by decide) (by decide), o 492 (by decide) (by decide), len_1]
    refine ⟨q1, q2, fun _ => ⟨by rw [zup_ne (by decide), zup_eq]; omega, by rw [fup_ne (by omega)]; exact e0, fun e a0 a1 => ?_⟩, q4, q5, q6, q7⟩
    by_cases w : e = LE.length
    · rw [gE_r w, w, ← eE, fup_eq, fup_eq, fup_eq, fup_ne (by omega)]
      exact ⟨rfl, rfl, Int.le_refl _, rgs_0⟩
    · rw [gE_l a0 (by omega), fup_ne (by omega), fup_ne (by omega), fup_ne (by omega), fup_ne (by omega)]
      exact es e a0 (by omega)
  · have o4 : ∀ j, ¬ j = 51 → (zup h 466 51 1) 466 j = h 466 j := fun j p => zup_ns p
    have o : ∀ x, ¬ x = 466 → (zup h 466 51 1) x = h x := fun x p => zup_ne p
    refine k2 (by omega) _ ⟨fun x p q => o x p, fun j p q => o4 j q⟩ (o 488 (by decide)) (fun x => ?_)
    have fq : ¬ fits n (LE ++ [x]) LF := by
      unfold fits
      rw [len_1]
      omega
    unfold drM
    rw [o4 47 (by decide), o4 49 (by decide), o 491 (by decide), o 492 (by decide), len_1]
    exact ⟨q1, q2, fun z => absurd z (by omega), q4, q5, fun z => absurd z fq, fun _ => zup_eq⟩
theorem sm_buildsRange {K : zH → Prop} {a b x y : Int} {f g : Int → Bool} (k : drM h n (LE ++ [(a, b, f)]) LF) (l0 : LE.length < 160) (p0 : 0 ≤ h 488 LE.length) (x0 : 0 ≤ x ∧ x ≤ y ∧ y < 65536) (fz : ∀ z, x ≤ z → z < 65536 → f z = false) (eg : ∀ z, 0 ≤ z → z < 65536 → (g z = true ↔ f z = true ∨ (x ≤ z ∧ z ≤ y))) (bd : ∀ (lo hi : Int → Int) (c : Int), h 488 LE.length ≤ c → rgs lo hi (h 488 LE.length) c g → c ≤ 14000) (kk : ∀ h' : zH, bF h h' → (∀ j, ¬ j = LE.length + 1 → h' 488 j = h 488 j) → drM h' n (LE ++ [(a, b, g)]) LF → K h') : zCv G d mX12_buildsRange [vr 12 466, vi x, vi y] h K := by
  unfold drM at k
  rw [len_1] at k
  obtain ⟨q1, q2, q3, q4, q5, q6, q7⟩ := k
  obtain ⟨e48, e0, es⟩ := q3 (by omega)
  obtain ⟨E, eE⟩ : ∃ x : Int, x = LE.length := ⟨_, rfl⟩
  have fq : fits n (LE ++ [(a, b, g)]) LF ↔ fits n (LE ++ [(a, b, f)]) LF := by
    unfold fits
    rw [len_1, len_1]
  have last := es E (by omega) (by omega)
  rw [gE_r eE] at last
  have mono : ∀ e : Int, 0 ≤ e → e < E → h 488 (e + 1) ≤ h 488 E := fun e e0 e1 => by
    have := dfM_mono (h := h) (E := E) (fun e a b => (es e a (by omega)).2.2.1) (e := e + 1) (by omega) (E - e - 1).toNat (by omega)
    rwa [show e + 1 + ((E - e - 1).toNat : Int) = E by omega] at this
  rw [← eE] at bd p0
  have rg : rgs (h 489) (h 490) (h 488 E) (h 488 (E + 1)) f := last.2.2.2
  have ac := last.2.2.1
  have hl : h 488 E < h 488 (E + 1) → 0 ≤ h 490 (h 488 (E + 1) - 1) ∧ h 490 (h 488 (E + 1) - 1) < x := fun z => by
    have r := rg.1 (h 488 (E + 1) - 1) (by omega) (by omega)
    refine ⟨by omega, ?_⟩
    by_cases w : x ≤ h 490 (h 488 (E + 1) - 1)
    · have := fz _ w (by omega)
      rw [rgs_in rg (z := h 490 (h 488 (E + 1) - 1)) (by omega) (k := h 488 (E + 1) - 1) (by omega) (by omega) (by omega)] at this
      cases this
    · omega
  have put : (h 488 E < h 488 (E + 1) → ¬ h 490 (h 488 (E + 1) - 1) + 1 = x) → (0 ≤ h 488 (E + 1) ∧ h 488 (E + 1) < 14000) ∧ K (zup (zup (zup h 489 (h 488 (E + 1)) x) 490 (h 488 (E + 1)) y) 488 (E + 1) (h 488 (E + 1) + 1)) := by
    intro ne
    have ra := rgs_add (g := g) rg ac x0 (fun z => by have := hl z; have := ne z; omega) eg
    have := bd _ _ _ (by omega) ra
    refine ⟨by omega, ?_⟩
    have o : ∀ x', ¬ (488 ≤ x' ∧ x' ≤ 490) → (zup (zup (zup h 489 (h 488 (E + 1)) x) 490 (h 488 (E + 1)) y) 488 (E + 1) (h 488 (E + 1) + 1)) x' = h x' := fun x' p => by rw [zup_ne (by omega), zup_ne (by omega), zup_ne (by omega)]
    have o8 : (zup (zup (zup h 489 (h 488 (E + 1)) x) 490 (h 488 (E + 1)) y) 488 (E + 1) (h 488 (E + 1) + 1)) 488 = fup (h 488) (E + 1) (h 488 (E + 1) + 1) := by rw [zup_r, zup_ne (by decide), zup_ne (by decide)]
    have o9 : (zup (zup (zup h 489 (h 488 (E + 1)) x) 490 (h 488 (E + 1)) y) 488 (E + 1) (h 488 (E + 1) + 1)) 489 = fup (h 489) (h 488 (E + 1)) x := by rw [zup_ne (by decide), zup_ne (by decide), zup_r]
    have o0 : (zup (zup (zup h 489 (h 488 (E + 1)) x) 490 (h 488 (E + 1)) y) 488 (E + 1) (h 488 (E + 1) + 1)) 490 = fup (h 490) (h 488 (E + 1)) y := by rw [zup_ne (by decide), zup_r, zup_ne (by decide)]
    refine kk _ ⟨fun x' p q => o x' (by omega), fun j p q => by rw [o 466 (by decide)]⟩ (fun j p => by rw [o8, fup_ne (by omega)]) ?_
    unfold drM
    rw [fq, o 466 (by decide), o 486 (by decide), o 487 (by decide), o8, o9, o0, o 491 (by decide), o 492 (by decide), len_1]
    refine ⟨q1, q2, fun _ => ⟨by omega, by rw [fup_ne (by omega)]; exact e0, fun e a0 a1 => ?_⟩, q4, q5, q6, q7⟩
    have this := es e a0 a1
    by_cases w : e = LE.length
    · rw [gE_r w] at this
      rw [gE_r w, w, ← eE, fup_eq, fup_ne (by omega)]
      rw [w, ← eE] at this
      exact ⟨this.1, this.2.1, by omega, ra⟩
    · rw [gE_l a0 (by omega)] at this
      rw [gE_l a0 (by omega), fup_ne (by omega), fup_ne (by omega)]
      have mo := mono e a0 (by omega)
      exact ⟨this.1, this.2.1, this.2.2.1, rgs_c (fun k k0 k1 => by rw [fup_ne (by omega), fup_ne (by omega)]; exact ⟨rfl, rfl⟩) this.2.2.2⟩
  refine eX12_buildsRange (bX12_buildsRange_0 ?_)
  rw [e48, show (((LE.length + 1 : Nat) : Int)) = E + 1 by omega, show E + 1 - 1 = E by omega]
  have b14 : h 488 (E + 1) ≤ 14000 := by
    by_cases z : h 488 E < h 488 (E + 1)
    · have hz := hl z
      by_cases w : h 490 (h 488 (E + 1) - 1) + 1 = x
      · exact bd _ _ _ ac (rgs_ext rg z x0 w eg)
      · have := bd _ _ _ (by omega) (rgs_add rg ac x0 (fun _ => by omega) eg)
        omega
    · have := bd _ _ _ (by omega) (rgs_add rg ac x0 (fun q => absurd q z) eg)
      omega
  refine ⟨by omega, by omega, ⟨by omega, by omega⟩, ⟨by omega, by omega⟩, fun z => ?_, fun z => ?_⟩
  · obtain ⟨p1, p2⟩ := put (fun q => absurd q (by omega))
    exact ⟨p1, p1, by omega, by omega, p2⟩
  · have hz := hl (by omega)
    refine ⟨by omega, ⟨by omega, by omega⟩, ⟨by omega, by omega⟩, fun w => ?_, fun w => ⟨by omega, ?_⟩⟩
    · obtain ⟨p1, p2⟩ := put (fun _ => w)
      exact ⟨p1, p1, by omega, by omega, p2⟩
    · have ra := rgs_ext (g := g) rg (by omega) x0 w eg
      have o : ∀ x', ¬ x' = 490 → (zup h 490 (h 488 (E + 1) - 1) y) x' = h x' := fun x' p => zup_ne p
      refine kk _ ⟨fun x' p q => o x' (by omega), fun j p q => by rw [o 466 (by decide)]⟩ (fun j p => by rw [o 488 (by decide)]) ?_
      unfold drM
      rw [fq, o 466 (by decide), o 486 (by decide), o 487 (by decide), o 488 (by decide), o 489 (by decide), zup_r, o 491 (by decide), o 492 (by decide), len_1]
      refine ⟨q1, q2, fun _ => ⟨by omega, e0, fun e a0 a1 => ?_⟩, q4, q5, q6, q7⟩
      have this := es e a0 a1
      by_cases v : e = LE.length
      · rw [gE_r v] at this
        rw [gE_r v, v, ← eE]
        rw [v, ← eE] at this
        exact ⟨this.1, this.2.1, this.2.2.1, ra⟩
      · rw [gE_l a0 (by omega)] at this
        rw [gE_l a0 (by omega)]
        have mo := mono e a0 (by omega)
        exact ⟨this.1, this.2.1, this.2.2.1, rgs_c (fun k k0 k1 => by rw [fup_ne (by omega)]; exact ⟨rfl, rfl⟩) this.2.2.2⟩
end BU
