/-! ===== the model cuts ===== -/
/-- an edge's ranges, in their one normal form -/
def rgs (lo hi : Int → Int) (a c : Int) (f : Int → Bool) : Prop := (∀ k, a ≤ k → k < c → 0 ≤ lo k ∧ lo k ≤ hi k ∧ hi k < 65536) ∧ (∀ k, a ≤ k → k + 1 < c → hi k + 1 < lo (k + 1)) ∧ ∀ z, 0 ≤ z → z < 65536 → (f z = true ↔ ∃ k, (a ≤ k ∧ k < c) ∧ lo k ≤ z ∧ z ≤ hi k)
section RG
variable {lo hi : Int → Int} {a c : Int} {f : Int → Bool}
theorem rgs_m (h : rgs lo hi a c f) {j : Int} (hj : a ≤ j) : ∀ (n : Nat) (k : Int), k = j + 1 + n → k < c → hi j + 1 < lo k
  | 0, k, e, hk => by
    have := h.2.1 j hj (by omega)
    rw [show k = j + 1 by omega]
    exact this
  | n + 1, k, e, hk => by
    have a1 := rgs_m h hj n (k - 1) (by omega) (by omega)
    have a2 := h.2.1 (k - 1) (by omega) (by omega)
    have a3 := h.1 (k - 1) (by omega) (by omega)
    rw [show k - 1 + 1 = k by omega] at a2
    omega
theorem rgs_in (h : rgs lo hi a c f) {z : Int} (hz : 0 ≤ z ∧ z < 65536) {k : Int} (hk : a ≤ k ∧ k < c) (k1 : lo k ≤ z) (k2 : z ≤ hi k) : f z = true := (h.2.2 z hz.1 hz.2).mpr ⟨k, hk, k1, k2⟩
theorem rgs_out (h : rgs lo hi a c f) {z : Int} (hz : 0 ≤ z ∧ z < 65536) (q : ∀ k, a ≤ k → k < c → z < lo k ∨ hi k < z) : f z = false := by
  cases e : f z with
  | false => rfl
  | true =>
    obtain ⟨k, hk, k1, k2⟩ := (h.2.2 z hz.1 hz.2).mp e
    have := q k hk.1 hk.2
    omega
theorem rgs_lo (h : rgs lo hi a c f) {k : Int} (hk : a ≤ k ∧ k < c) (k0 : 0 < lo k) : ¬ f (lo k) = f (lo k - 1) := by
  have r := h.1 k hk.1 hk.2
  rw [rgs_in h (z := lo k) (by omega) hk (by omega) (by omega), rgs_out h (z := lo k - 1) (by omega) (fun j j0 j1 => ?_)]
  · decide
  · rcases Int.lt_trichotomy j k with w | w | w
    · have := rgs_m h j0 (k - j - 1).toNat k (by omega) hk.2
      omega
    · rw [w]
      omega
    · have := rgs_m h hk.1 (j - k - 1).toNat j (by omega) j1
      omega
theorem rgs_hi (h : rgs lo hi a c f) {k : Int} (hk : a ≤ k ∧ k < c) (k0 : hi k + 1 < 65536) : ¬ f (hi k + 1) = f (hi k) := by
  have r := h.1 k hk.1 hk.2
  rw [rgs_in h (z := hi k) (by omega) hk (by omega) (by omega), rgs_out h (z := hi k + 1) (by omega) (fun j j0 j1 => ?_)]
  · decide
  · rcases Int.lt_trichotomy j k with w | w | w
    · have := rgs_m h j0 (k - j - 1).toNat k (by omega) hk.2
      omega
    · rw [w]
      omega
    · have := rgs_m h hk.1 (j - k - 1).toNat j (by omega) j1
      omega
theorem rgs_ch (h : rgs lo hi a c f) {z : Int} (hz : 0 < z ∧ z < 65536) (q : ¬ f z = f (z - 1)) : ∃ k, (a ≤ k ∧ k < c) ∧ (z = lo k ∨ z = hi k + 1) := by
  have e1 := h.2.2 z (by omega) (by omega)
  have e2 := h.2.2 (z - 1) (by omega) (by omega)
  cases w1 : f z with
  | true =>
    obtain ⟨k, hk, k1, k2⟩ := e1.mp w1
    refine ⟨k, hk, Or.inl ?_⟩
    by_cases y : lo k ≤ z - 1
    · rw [w1, e2.mpr ⟨k, hk, y, by omega⟩] at q
      exact absurd rfl q
    · omega
  | false =>
    cases w2 : f (z - 1) with
    | false =>
      rw [w1, w2] at q
      exact absurd rfl q
    | true =>
      obtain ⟨k, hk, k1, k2⟩ := e2.mp w2
      refine ⟨k, hk, Or.inr ?_⟩
      by_cases y : z ≤ hi k
      · rw [e1.mpr ⟨k, hk, by omega, y⟩] at w1
        cases w1
      · omega
end RG
/-- what the model was told to build -/
def dfM (h : zH) (n en E : Int) (fr to : Int → Int) (X : Int → Int → Bool) (F : Int) (ff ft : Int → Int) : Prop := (h 466 47 = n ∧ h 466 50 = en ∧ h 466 48 = E ∧ h 466 49 = F) ∧ (h 488 0 = 0 ∧ h 488 E ≤ 14000) ∧ (∀ e, 0 ≤ e → e < E → h 486 e = fr e ∧ h 487 e = to e ∧ h 488 e ≤ h 488 (e + 1) ∧ rgs (h 489) (h 490) (h 488 e) (h 488 (e + 1)) (X e)) ∧ ∀ i, 0 ≤ i → i < F → h 491 i = ff i ∧ h 492 i = ft i
theorem dfM_at {h : zH} {E : Int} (h0 : h 488 0 = 0) (m : ∀ e, 0 ≤ e → e < E → h 488 e ≤ h 488 (e + 1)) : ∀ (n : Nat), (n : Int) ≤ E → 0 ≤ h 488 n ∧ ∀ k, 0 ≤ k → k < h 488 n → ∃ e : Int, (0 ≤ e ∧ e < (n : Int)) ∧ h 488 e ≤ k ∧ k < h 488 (e + 1)
  | 0, _ => by
    rw [show ((0 : Nat) : Int) = 0 from rfl, h0]
    exact ⟨by omega, fun k a b => by omega⟩
  | n + 1, hn => by
    obtain ⟨a, b⟩ := dfM_at h0 m n (by omega)
    have c := m n (by omega) (by omega)
    rw [show ((n + 1 : Nat) : Int) = (n : Int) + 1 by omega]
    refine ⟨by omega, fun k k0 k1 => ?_⟩
    by_cases q : k < h 488 n
    · obtain ⟨e, he, e1⟩ := b k k0 q
      exact ⟨e, by omega, e1⟩
    · exact ⟨n, by omega, by omega, k1⟩
theorem dfM_mono {h : zH} {E : Int} (m : ∀ e, 0 ≤ e → e < E → h 488 e ≤ h 488 (e + 1)) {e : Int} (e0 : 0 ≤ e) : ∀ (n : Nat), e + n ≤ E → h 488 e ≤ h 488 (e + n)
  | 0, _ => by rw [show e + ((0 : Nat) : Int) = e by omega]; omega
  | n + 1, hn => by
    have a := dfM_mono m e0 n (by omega)
    have c := m (e + n) (by omega) (by omega)
    rw [show e + ((n + 1 : Nat) : Int) = e + n + 1 by omega]
    omega
section MC
variable {G : zG} {d : Nat} {h : zH} {i : Int}
/-- a row's starts -/
def rS (h : zH) (i : Int) : Int → Int := fun b => h 497 (i * 128 + b)
def cuF (i : Int) (h h' : zH) : Prop := (∀ a, ¬ a = 496 → ¬ a = 497 → h' a = h a) ∧ (∀ j, ¬ j = i → h' 496 j = h 496 j) ∧ ∀ j, j < i * 128 ∨ i * 128 + 128 ≤ j → h' 497 j = h 497 j
theorem cuF_r (i : Int) (h : zH) : cuF i h h := ⟨fun _ _ _ => rfl, fun _ _ => rfl, fun _ _ => rfl⟩
theorem cuF_t {h1 h2 h3 : zH} (a : cuF i h1 h2) (b : cuF i h2 h3) : cuF i h1 h3 := ⟨fun x p q => (b.1 x p q).trans (a.1 x p q), fun j p => (b.2.1 j p).trans (a.2.1 j p), fun j p => (b.2.2 j p).trans (a.2.2 j p)⟩
theorem sm_cuts {K : Bool → zH → Prop} {n x : Int} (hi : 0 ≤ i ∧ i < 14) (hn : h 496 i = n) (n128 : n ≤ 128) (hd : dS (rS h i) n) (hx : 0 ≤ x ∧ x ≤ 65536) (k1 : (x = 65536 ∨ ∃ b, (0 ≤ b ∧ b < n) ∧ rS h i b = x) → K true h) (k2 : x < 65536 → (∀ b, 0 ≤ b → b < n → ¬ rS h i b = x) → n < 128 → ∀ h' : zH, cuF i h h' → h' 496 i = n + 1 → dS (rS h' i) (n + 1) → (∀ z, (∃ b, (0 ≤ b ∧ b < n + 1) ∧ rS h' i b = z) ↔ (∃ b, (0 ≤ b ∧ b < n) ∧ rS h i b = z) ∨ z = x) → K true h') (k3 : x < 65536 → (∀ b, 0 ≤ b → b < n → ¬ rS h i b = x) → n = 128 → K false h) : zCb G d mX12_cuts [vr 12 466, vi i, vi x] h K := by
  obtain ⟨a1, a2, a3, a4⟩ := hd
  have l94 : ∀ p, (1 ≤ p ∧ p ≤ n) → n < 128 → x < 65536 → (∀ b, 0 ≤ b → b < p → rS h i b < x) → (p < n → x < rS h i p) → (∀ b, 0 ≤ b → b < n → ¬ rS h i b = x) → tX12_cuts_94 G d K i x (i * 128) p n h := by
    intro p hp lt x6 lo hi2 fresh
    have go : ∀ (f : Nat) (b : Int) (h1 : zH), b = p + f → b ≤ n → (∀ a, ¬ a = 497 → h1 a = h a) → (∀ j, j < i * 128 ∨ i * 128 + 128 ≤ j → h1 497 j = h 497 j) → (∀ c, 0 ≤ c → c ≤ b → h1 497 (i * 128 + c) = rS h i c) → (∀ c, b < c → c ≤ n → h1 497 (i * 128 + c) = rS h i (c - 1)) → tX12_cuts_94 G d K i x (i * 128) p b h1 := by
      intro f
      induction f with
      | zero =>
        intro b h1 eb bn g1 g0 g2 g3
        have e : b = p := by omega
        subst e
        refine bX12_cuts_94 ⟨⟨by omega, by omega⟩, ⟨by omega, by omega⟩, fun _ => ⟨by omega, hi, hi, ?_⟩, fun z => absurd (Int.le_refl _) z⟩
        have e4 : h1 496 i = n := by rw [g1 496 (by decide), hn]
        obtain ⟨i1, i2⟩ := dS_ins (s := rS h i) (n := n) (p := b) (x := x) ⟨a1, a2, a3, a4⟩ (by omega) hp ⟨hx.1, x6⟩ (lo (b - 1) (by omega) (by omega)) hi2
        have er : ∀ c, 0 ≤ c → c < n + 1 → rS (zup (zup h1 497 (i * 128 + b) x) 496 i (h1 496 i + 1)) i c = ins (rS h i) b x c := fun c c0 c1 => by
          show (zup (zup h1 497 (i * 128 + b) x) 496 i (h1 496 i + 1)) 497 (i * 128 + c) = _
          rw [zup_ne (by decide)]
          unfold ins
          rcases Int.lt_trichotomy c b with w | w | w
          · rw [if_pos w, zup_ns (by omega), g2 c c0 (by omega)]
          · rw [if_neg (by omega), if_pos w, w, zup_eq]
          · rw [if_neg (by omega), if_neg (by omega), zup_ns (by omega), g3 c w (by omega)]
        refine k2 x6 fresh lt _ ⟨fun a q4 q10 => by rw [zup_ne q4, zup_ne q10, g1 a q10], fun j q => by rw [zup_ns q, zup_ne (by decide), g1 496 (by decide)], fun j q => by rw [zup_ne (by decide), zup_ns (by omega), g0 j q]⟩ (by rw [zup_eq, e4]) ?_ (fun z => ?_)
        · refine ⟨i1.1, by rw [er 0 (by omega) (by omega)]; exact i1.2.1, fun c c0 c1 => by rw [er c c0 c1]; exact i1.2.2.1 c c0 c1, fun c e c0 c1 c2 => by rw [er c c0 (by omega), er e (by omega) c2]; exact i1.2.2.2 c e c0 c1 c2⟩
        · rw [← i2 z]
          exact ⟨fun ⟨c, hc, e⟩ => ⟨c, hc, by rw [← er c hc.1 hc.2]; exact e⟩, fun ⟨c, hc, e⟩ => ⟨c, hc, by rw [er c hc.1 hc.2]; exact e⟩⟩
      | succ f ih =>
        intro b h1 eb bn g1 g0 g2 g3
        refine bX12_cuts_94 ⟨⟨by omega, by omega⟩, ⟨by omega, by omega⟩, fun z => absurd z (by omega), fun _ => ⟨by omega, by omega, ?_⟩⟩
        rw [show b + (-1) = b - 1 by omega, show i * 128 + b - 1 = i * 128 + (b - 1) by omega]
        refine ih (b - 1) _ (by omega) (by omega) (fun a q => by rw [zup_ne q, g1 a q]) (fun j q => by rw [zup_ns (by omega), g0 j q]) (fun c c0 hc => by rw [zup_ns (by omega), g2 c c0 (by omega)]) (fun c c0 c1 => ?_)
        by_cases w : c = b
        · rw [w, zup_eq, g2 (b - 1) (by omega) (by omega)]
        · rw [zup_ns (by omega), g3 c (by omega) c1]
    exact go (n - p).toNat n h (by omega) (Int.le_refl _) (fun _ _ => rfl) (fun _ _ => rfl) (fun _ _ _ => rfl) (fun c c0 c1 => absurd c1 (by omega))
  have r0 : rS h i 0 = 0 := a2
  have aft : ∀ p, (0 ≤ p ∧ p ≤ n) → (∀ b, 0 ≤ b → b < p → rS h i b < x) → (p < n → x ≤ rS h i p) → zR x ∧ (x = 65536 → K true h) ∧ (¬ x = 65536 → (0 ≤ i ∧ i < 14) ∧ zR p ∧ zR (h 496 i) ∧ (h 496 i ≤ p → (0 ≤ i ∧ i < 14) ∧ zR (h 496 i) ∧ (¬ h 496 i = 128 → (0 ≤ i ∧ i < 14) ∧ tX12_cuts_94 G d K i x (i * 128) p (h 496 i) h) ∧ (h 496 i = 128 → K false h)) ∧ (¬ h 496 i ≤ p → (0 ≤ i * 128 + p ∧ i * 128 + p < 1792) ∧ zR (h 497 (i * 128 + p)) ∧ zR x ∧ (¬ h 497 (i * 128 + p) = x → (0 ≤ i ∧ i < 14) ∧ zR (h 496 i) ∧ (¬ h 496 i = 128 → (0 ≤ i ∧ i < 14) ∧ tX12_cuts_94 G d K i x (i * 128) p (h 496 i) h) ∧ (h 496 i = 128 → K false h)) ∧ (h 497 (i * 128 + p) = x → K true h))) := by
    intro p hp lo hi2
    rw [hn]
    refine ⟨⟨by omega, by omega⟩, fun z => k1 (Or.inl z), fun z => ⟨hi, ⟨by omega, by omega⟩, ⟨by omega, by omega⟩, fun y => ?_, fun y => ?_⟩⟩
    · have fresh : ∀ b, 0 ≤ b → b < n → ¬ rS h i b = x := fun b b0 b1 e => by
        have := lo b b0 (by omega)
        omega
      exact ⟨hi, ⟨by omega, by omega⟩, fun w => ⟨hi, l94 p (by omega) (by omega) (by omega) lo (fun q => absurd q (by omega)) fresh⟩, fun w => k3 (by omega) fresh w⟩
    · have r := a3 p hp.1 (by omega)
      have rr : rS h i p = h 497 (i * 128 + p) := rfl
      have h2 := hi2 (by omega)
      refine ⟨by omega, ⟨by omega, by omega⟩, ⟨by omega, by omega⟩, fun ne => ?_, fun e => k1 (Or.inr ⟨p, by omega, e⟩)⟩
      have p1 : 1 ≤ p := by
        by_cases w : p = 0
        · rw [w] at h2 rr
          rw [w] at ne
          omega
        · omega
      have fresh : ∀ b, 0 ≤ b → b < n → ¬ rS h i b = x := fun b b0 b1 e => by
        rcases Int.lt_trichotomy b p with w | w | w
        · have := lo b b0 w
          omega
        · rw [w] at e
          omega
        · have := a4 p b hp.1 w b1
          omega
      exact ⟨hi, ⟨by omega, by omega⟩, fun w => ⟨hi, l94 p ⟨p1, hp.2⟩ (by omega) (by omega) lo (fun q => by omega) fresh⟩, fun w => k3 (by omega) fresh w⟩
  have go : ∀ (f : Nat) (p : Int), 0 ≤ p ∧ p ≤ n → n - p ≤ f → (∀ b, 0 ≤ b → b < p → rS h i b < x) → tX12_cuts_9 G d K i x (i * 128) p h := by
    intro f
    induction f with
    | zero =>
      intro p hp hf lo
      refine bX12_cuts_9 ⟨hi, ⟨by omega, by omega⟩, by rw [hn]; exact ⟨by omega, by omega⟩, fun _ => aft p hp lo (fun q => absurd q (by omega)), fun z => absurd hf (by omega)⟩
    | succ f ih =>
      intro p hp hf lo
      refine bX12_cuts_9 ⟨hi, ⟨by omega, by omega⟩, by rw [hn]; exact ⟨by omega, by omega⟩, fun z => aft p hp lo (fun q => absurd q (by omega)), fun z => ?_⟩
      have r := a3 p hp.1 (by omega)
      have rr : rS h i p = h 497 (i * 128 + p) := rfl
      refine ⟨by omega, ⟨by omega, by omega⟩, ⟨by omega, by omega⟩, fun y => aft p hp lo (fun q => y), fun y => ih (p + 1) (by omega) (by omega) (fun b b0 b1 => ?_)⟩
      by_cases w : b = p
      · rw [w]
        omega
      · exact lo b b0 (by omega)
  exact eX12_cuts (bX12_cuts_0 (go n.toNat 0 (by omega) (by omega) (fun b b0 b1 => absurd b1 (by omega))))
end MC
