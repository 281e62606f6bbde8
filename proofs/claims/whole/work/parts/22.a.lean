/-! ===== machines as data: D 0 counts (states, ends, edges, frees, blocks), D 1 from, D 2 to, D 3 lower, D 4 upper, D 5 free from, D 6 free to, D 7 starts ===== -/
def zsum (f : Int → Int) : Nat → Int
  | 0 => 0
  | n + 1 => zsum f n + f (n : Int)
theorem zsum_congr {f g : Int → Int} : ∀ {n : Nat}, (∀ i : Int, 0 ≤ i → i < n → f i = g i) → zsum f n = zsum g n
  | 0, _ => rfl
  | n + 1, h => by
    show zsum f n + f n = zsum g n + g n
    rw [zsum_congr (fun i a b => h i a (by omega)), h n (by omega) (by omega)]
theorem zsum_01 {f : Int → Int} : ∀ {n : Nat}, (∀ i : Int, 0 ≤ i → i < n → 0 ≤ f i ∧ f i ≤ 1) → 0 ≤ zsum f n ∧ zsum f n ≤ n
  | 0, _ => ⟨Int.le_refl _, Int.le_refl _⟩
  | n + 1, h => by
    have a := zsum_01 (n := n) (fun i a b => h i a (by omega))
    have b := h n (by omega) (by omega)
    show 0 ≤ zsum f n + f n ∧ zsum f n + f n ≤ (n + 1 : Nat)
    omega
theorem zsum_nn {f : Int → Int} : ∀ {n : Nat}, (∀ i : Int, 0 ≤ i → i < n → 0 ≤ f i) → 0 ≤ zsum f n
  | 0, _ => Int.le_refl _
  | n + 1, h => by
    have a := zsum_nn (n := n) (fun i a b => h i a (by omega))
    have b := h n (by omega) (by omega)
    show 0 ≤ zsum f n + f n
    omega
theorem zsum_mono {f : Int → Int} {n : Nat} : ∀ {m : Nat}, n ≤ m → (∀ i : Int, 0 ≤ i → i < m → 0 ≤ f i) → zsum f n ≤ zsum f m
  | 0, hn, _ => by
    have : n = 0 := by omega
    subst this
    exact Int.le_refl _
  | m + 1, hn, h => by
    by_cases c : n = m + 1
    · subst c
      exact Int.le_refl _
    · have a := zsum_mono (n := n) (m := m) (by omega) (fun i a b => h i a (by omega))
      have b := h m (by omega) (by omega)
      show zsum f n ≤ zsum f m + f m
      omega
def dEH (D : zH) (e b : Int) : Bool := if b < 64 then tb (D 3 e) b else tb (D 4 e) (b - 64)
def dEnd (D : zH) (b : Int) : Int := if b + 1 < D 0 4 then D 7 (b + 1) else 65536
def mOK (D : zH) : Prop := (1 ≤ D 0 0 ∧ D 0 0 ≤ 40) ∧ (zRL (D 0 1) ∧ ∀ k, D 0 0 ≤ k → k < 64 → tb (D 0 1) k = false) ∧ (0 ≤ D 0 2 ∧ D 0 2 ≤ 160) ∧ (0 ≤ D 0 3 ∧ D 0 3 ≤ 64) ∧ (1 ≤ D 0 4 ∧ D 0 4 ≤ 128) ∧ (∀ e, 0 ≤ e → e < D 0 2 → (0 ≤ D 1 e ∧ D 1 e < D 0 0) ∧ (0 ≤ D 2 e ∧ D 2 e < D 0 0) ∧ (zRL (D 3 e) ∧ zRL (D 4 e)) ∧ ∀ b, D 0 4 ≤ b → b < 128 → dEH D e b = false) ∧ (∀ i, 0 ≤ i → i < D 0 3 → (0 ≤ D 5 i ∧ D 5 i < D 0 0) ∧ (0 ≤ D 6 i ∧ D 6 i < D 0 0)) ∧ (D 7 0 = 0 ∧ (∀ b, 0 ≤ b → b < D 0 4 → 0 ≤ D 7 b ∧ D 7 b < 65536) ∧ ∀ a b, 0 ≤ a → a < b → b < D 0 4 → D 7 a < D 7 b)
theorem mO_st {D : zH} (h : mOK D) : 1 ≤ D 0 0 ∧ D 0 0 ≤ 40 := h.1
theorem mO_en {D : zH} (h : mOK D) : zRL (D 0 1) ∧ ∀ k, D 0 0 ≤ k → k < 64 → tb (D 0 1) k = false := h.2.1
theorem mO_ed {D : zH} (h : mOK D) : 0 ≤ D 0 2 ∧ D 0 2 ≤ 160 := h.2.2.1
theorem mO_fr {D : zH} (h : mOK D) : 0 ≤ D 0 3 ∧ D 0 3 ≤ 64 := h.2.2.2.1
theorem mO_bl {D : zH} (h : mOK D) : 1 ≤ D 0 4 ∧ D 0 4 ≤ 128 := h.2.2.2.2.1
theorem mO_e {D : zH} (h : mOK D) {e : Int} (h0 : 0 ≤ e) (h1 : e < D 0 2) : (0 ≤ D 1 e ∧ D 1 e < D 0 0) ∧ (0 ≤ D 2 e ∧ D 2 e < D 0 0) ∧ (zRL (D 3 e) ∧ zRL (D 4 e)) ∧ ∀ b, D 0 4 ≤ b → b < 128 → dEH D e b = false := h.2.2.2.2.2.1 e h0 h1
theorem mO_f {D : zH} (h : mOK D) {i : Int} (h0 : 0 ≤ i) (h1 : i < D 0 3) : (0 ≤ D 5 i ∧ D 5 i < D 0 0) ∧ (0 ≤ D 6 i ∧ D 6 i < D 0 0) := h.2.2.2.2.2.2.1 i h0 h1
theorem mO_0 {D : zH} (h : mOK D) : D 7 0 = 0 := h.2.2.2.2.2.2.2.1
theorem mO_s {D : zH} (h : mOK D) {b : Int} (h0 : 0 ≤ b) (h1 : b < D 0 4) : 0 ≤ D 7 b ∧ D 7 b < 65536 := h.2.2.2.2.2.2.2.2.1 b h0 h1
theorem mO_r {D : zH} (h : mOK D) {a b : Int} (h0 : 0 ≤ a) (h1 : a < b) (h2 : b < D 0 4) : D 7 a < D 7 b := h.2.2.2.2.2.2.2.2.2 a b h0 h1 h2
theorem dEnd_ok {D : zH} (h : mOK D) {b : Int} (h0 : 0 ≤ b) (h1 : b < D 0 4) : D 7 b < dEnd D b ∧ dEnd D b ≤ 65536 := by
  unfold dEnd
  by_cases c : b + 1 < D 0 4
  · rw [if_pos c]
    have := mO_r h h0 (show b < b + 1 by omega) c
    have := mO_s h (show 0 ≤ b + 1 by omega) c
    omega
  · rw [if_neg c]
    have := mO_s h h0 h1
    omega
/-- the class's machine at cell m, the model's of row i, are D -/
def cRep (h : zH) (m : Int) (D : zH) : Prop := (h m 7 = D 0 0 ∧ h m 8 = D 0 1 ∧ h m 9 = D 0 2 ∧ h m 10 = D 0 3 ∧ h m 11 = D 0 4) ∧ (∀ e, 0 ≤ e → e < D 0 2 → h (m + 1) e = D 1 e ∧ h (m + 2) e = D 2 e ∧ h (m + 3) (e * 2) = D 3 e ∧ h (m + 3) (e * 2 + 1) = D 4 e) ∧ (∀ i, 0 ≤ i → i < D 0 3 → h (m + 4) i = D 5 i ∧ h (m + 5) i = D 6 i) ∧ (∀ b, 0 ≤ b → b < D 0 4 → h (m + 6) b = D 7 b)
def mRep (h : zH) (i : Int) (D : zH) : Prop := (h 493 i = D 0 0 ∧ h 502 i = D 0 1 ∧ h 494 i = D 0 2 ∧ h 495 i = D 0 3 ∧ h 496 i = D 0 4) ∧ (∀ e, 0 ≤ e → e < D 0 2 → h 498 (i * 160 + e) = D 1 e ∧ h 499 (i * 160 + e) = D 2 e ∧ h 503 (i * 160 + e) = D 3 e ∧ h 504 (i * 160 + e) = D 4 e) ∧ (∀ j, 0 ≤ j → j < D 0 3 → h 500 (i * 64 + j) = D 5 j ∧ h 501 (i * 64 + j) = D 6 j) ∧ (∀ b, 0 ≤ b → b < D 0 4 → h 497 (i * 128 + b) = D 7 b)
theorem cRep_fr {h h' : zH} {m : Int} {D : zH} (f : ∀ a, m ≤ a → a ≤ m + 6 → h' a = h a) (k : cRep h m D) : cRep h' m D := by
  unfold cRep
  rw [f m (by omega) (by omega), f (m + 1) (by omega) (by omega), f (m + 2) (by omega) (by omega), f (m + 3) (by omega) (by omega), f (m + 4) (by omega) (by omega), f (m + 5) (by omega) (by omega), f (m + 6) (by omega) (by omega)]
  exact k
theorem mRep_fr {h h' : zH} {i : Int} {D : zH} (f : ∀ a, 493 ≤ a → a ≤ 504 → h' a = h a) (k : mRep h i D) : mRep h' i D := by
  unfold mRep
  rw [f 493 (by omega) (by omega), f 494 (by omega) (by omega), f 495 (by omega) (by omega), f 496 (by omega) (by omega), f 497 (by omega) (by omega), f 498 (by omega) (by omega), f 499 (by omega) (by omega), f 500 (by omega) (by omega), f 501 (by omega) (by omega), f 502 (by omega) (by omega), f 503 (by omega) (by omega), f 504 (by omega) (by omega)]
  exact k
theorem zup_ne {h : zH} {r i x a : Int} (e : ¬ a = r) : zup h r i x a = h a := by
  funext j
  unfold zup
  rw [if_neg (fun q => e q.1)]
theorem zup_ns {h : zH} {r i x a b : Int} (e : ¬ b = i) : zup h r i x a b = h a b := by
  unfold zup
  rw [if_neg (fun q => e q.2)]
theorem zup_eq {h : zH} {r i x : Int} : zup h r i x r i = x := by
  unfold zup
  rw [if_pos ⟨rfl, rfl⟩]
theorem kb {K : Bool → zH → Prop} {c : Bool} {P : Prop} {h : zH} (hz : P ↔ c = true) (k : K c h) : (¬ P → K false h) ∧ (P → K true h) := by
  cases c
  · exact ⟨fun _ => k, fun q => absurd (hz.mp q) (by decide)⟩
  · exact ⟨fun q => absurd (hz.mpr rfl) q, fun _ => k⟩
theorem kb2 {K : Bool → zH → Prop} {c : Bool} {P : Prop} {h : zH} (hz : P ↔ c = true) (k : K c h) : (P → K true h) ∧ (¬ P → K false h) := ⟨(kb hz k).2, (kb hz k).1⟩
theorem kbn {K : Bool → zH → Prop} {c : Bool} {P : Prop} {h : zH} (hz : P ↔ c = false) (k : K c h) : (P → K false h) ∧ (¬ P → K true h) := by
  cases c
  · exact ⟨fun _ => k, fun q => absurd (hz.mpr rfl) q⟩
  · exact ⟨fun q => absurd (hz.mp q) (by decide), fun _ => k⟩
/-- the block of a letter -/
def dBo (D : zH) (x : Int) : Nat → Int
  | 0 => 0
  | n + 1 => if D 7 ((n + 1 : Nat) : Int) ≤ x then ((n + 1 : Nat) : Int) else dBo D x n
def dB (D : zH) (x : Int) : Int := dBo D x (D 0 4 - 1).toNat
theorem dBo_ok {D : zH} (hD : mOK D) {x : Int} (hx : 0 ≤ x) : ∀ n : Nat, (n : Int) < D 0 4 → (0 ≤ dBo D x n ∧ dBo D x n ≤ n) ∧ D 7 (dBo D x n) ≤ x ∧ ∀ b, dBo D x n < b → b ≤ n → x < D 7 b
  | 0, _ => ⟨⟨Int.le_refl _, Int.le_refl _⟩, by show D 7 0 ≤ x; rw [mO_0 hD]; exact hx, fun b a c => absurd c (by show ¬ b ≤ 0; have : 0 < b := a; omega)⟩
  | n + 1, hn => by
    unfold dBo
    by_cases c : D 7 ((n + 1 : Nat) : Int) ≤ x
    · rw [if_pos c]
      exact ⟨⟨by omega, by omega⟩, c, fun b p q => absurd q (by omega)⟩
    · rw [if_neg c]
      obtain ⟨⟨a1, a2⟩, a3, a4⟩ := dBo_ok hD hx n (by omega)
      refine ⟨⟨a1, by omega⟩, a3, fun b p q => ?_⟩
      by_cases e : b = ((n + 1 : Nat) : Int)
      · rw [e]
        omega
      · exact a4 b p (by omega)
theorem dB_ok {D : zH} (hD : mOK D) {x : Int} (hx : 0 ≤ x) : (0 ≤ dB D x ∧ dB D x < D 0 4) ∧ D 7 (dB D x) ≤ x ∧ ∀ b, dB D x < b → b < D 0 4 → x < D 7 b := by
  have hb := mO_bl hD
  obtain ⟨⟨a1, a2⟩, a3, a4⟩ := dBo_ok hD hx (D 0 4 - 1).toNat (by omega)
  exact ⟨⟨a1, by unfold dB; omega⟩, a3, fun b p q => a4 b p (by omega)⟩
theorem dB_u {D : zH} (hD : mOK D) {x b : Int} (hx : 0 ≤ x) (h0 : 0 ≤ b) (h1 : b < D 0 4) (h2 : D 7 b ≤ x) (h3 : x < dEnd D b) : dB D x = b := by
  obtain ⟨⟨a1, a2⟩, a3, a4⟩ := dB_ok hD hx
  rcases Int.lt_trichotomy (dB D x) b with c | c | c
  · have := a4 b c h1
    omega
  · exact c
  · unfold dEnd at h3
    rw [if_pos (by omega)] at h3
    by_cases e : dB D x = b + 1
    · rw [e] at a3
      omega
    · have := mO_r hD (show 0 ≤ b + 1 by omega) (show b + 1 < dB D x by omega) a2
      omega
def dRn (D : zH) (e b : Int) : Int := if dEH D e b = true ∧ (b = 0 ∨ dEH D e (b - 1) = false) then 1 else 0
def dLt (D : zH) (e b : Int) : Int := if dEH D e b = true then dEnd D b - D 7 b else 0
section SN
variable {G : zG} {d : Nat} {h D : zH}
theorem sp_edgeHas {K : Bool → zH → Prop} {m e b : Int} (hD : mOK D) (hr : cRep h m D) (he : 0 ≤ e ∧ e < D 0 2) (hb : 0 ≤ b ∧ b < 128) (k : K (dEH D e b) h) : zCb G d mX4_edgeHas [vr 4 m, vi e, vi b] h K := by
  have hE := mO_ed hD
  obtain ⟨-, -, r3, r4⟩ := hr.2.1 e he.1 he.2
  have hz : zcmp (zland (zlushr (h (m + 3) (e * 2 + b / 64)) (b % 64)) 1) 1 = 0 ↔ dEH D e b = true := by
    rw [zbit_u (by omega) (by omega)]
    unfold dEH
    by_cases c : b < 64
    · rw [if_pos c, show b / 64 = 0 by omega, show b % 64 = b by omega, Int.add_zero, r3]
    · rw [if_neg c, show b / 64 = 1 by omega, show b % 64 = b - 64 by omega, r4]
  exact eX4_edgeHas (bX4_edgeHas_0 ⟨⟨by omega, by omega⟩, ⟨by omega, by omega⟩, ⟨by omega, by omega⟩, kb hz k⟩)
theorem sm_bit {K : Bool → zH → Prop} {x b : Int} (hb : 0 ≤ b ∧ b < 64) (k : K (tb x b) h) : zCb G d mX12_bit [vl x, vi b] h K := eX12_bit (bX12_bit_0 (kb (zbit_s hb.1 hb.2) k))
theorem sm_edgeHas {K : Bool → zH → Prop} {i e b : Int} (hD : mOK D) (hi : 0 ≤ i ∧ i < 14) (hr : mRep h i D) (he : 0 ≤ e ∧ e < D 0 2) (hb : 0 ≤ b ∧ b < 128) (k : K (dEH D e b) h) : zCb G (d + 1) mX12_edgeHas [vr 12 466, vi i, vi e, vi b] h K := by
  have hE := mO_ed hD
  obtain ⟨-, -, r3, r4⟩ := hr.2.1 e he.1 he.2
  unfold dEH at k
  refine eX12_edgeHas (bX12_edgeHas_0 ⟨⟨by omega, by omega⟩, fun q => ⟨⟨by omega, by omega⟩, ?_⟩, fun q => ⟨⟨by omega, by omega⟩, ?_⟩⟩)
  · rw [if_neg (by omega), ← r4] at k
    exact sm_bit (by omega) k
  · rw [if_pos (by omega), ← r3] at k
    exact sm_bit (by omega) k
theorem sp_blockOf {K : Int → zH → Prop} {m x : Int} (hD : mOK D) (hr : cRep h m D) (hx : zR x) (k : K (dB D x) h) : zCi G d mX4_blockOf [vr 4 m, vi x] h K := by
  have hB := mO_bl hD
  obtain ⟨⟨-, -, -, -, c11⟩, -, -, r⟩ := hr
  have go : ∀ n : Nat, (n : Int) < D 0 4 → K (dBo D x n) h → tX4_blockOf_7 G d K m x n h := by
    intro n
    induction n with
    | zero => exact fun _ k => bX4_blockOf_7 ⟨⟨by omega, by omega⟩, fun _ => k, fun q => absurd q (by omega)⟩
    | succ n ih =>
      intro hn k
      have := mO_s hD (show 0 ≤ ((n + 1 : Nat) : Int) by omega) hn
      refine bX4_blockOf_7 ⟨⟨by omega, by omega⟩, fun q => absurd q (by omega), fun _ => ⟨⟨by omega, by omega⟩, ?_⟩⟩
      rw [r _ (by omega) hn]
      refine ⟨⟨by omega, by omega⟩, hx, fun q => ?_, fun q => ?_⟩
      · unfold dBo at k
        rwa [if_pos q] at k
      · unfold dBo at k
        rw [if_neg q] at k
        have := ih (by omega) k
        rw [show ((n + 1 : Nat) : Int) + (-1) = (n : Int) by omega]
        exact this
  refine eX4_blockOf (bX4_blockOf_0 ?_)
  rw [c11]
  have := go (D 0 4 - 1).toNat (by omega) k
  rwa [show (((D 0 4 - 1).toNat : Nat) : Int) = D 0 4 - 1 by omega] at this
theorem sm_blockAt {K : Int → zH → Prop} {i x : Int} (hD : mOK D) (hi : 0 ≤ i ∧ i < 14) (hr : mRep h i D) (hx : zR x) (hx0 : 0 ≤ x) (k : K (dB D x) h) : zCi G d mX12_blockAt [vr 12 466, vi i, vi x] h K := by
  have hB := mO_bl hD
  obtain ⟨⟨-, -, -, -, c11⟩, -, -, r⟩ := hr
  have go : ∀ n : Nat, (n : Int) < D 0 4 → K (dBo D x n) h → tX12_blockAt_9 G d K i x n h := by
    intro n
    induction n with
    | zero =>
      intro hn k
      refine bX12_blockAt_9 ⟨⟨by omega, by omega⟩, ?_⟩
      rw [r _ (by omega) hn]
      have := mO_0 hD
      rw [show ((0 : Nat) : Int) = 0 from rfl, this]
      exact ⟨⟨by omega, by omega⟩, hx, fun _ => k, fun q => absurd hx0 q⟩
    | succ n ih =>
      intro hn k
      have := mO_s hD (show 0 ≤ ((n + 1 : Nat) : Int) by omega) hn
      refine bX12_blockAt_9 ⟨⟨by omega, by omega⟩, ?_⟩
      rw [r _ (by omega) hn]
      refine ⟨⟨by omega, by omega⟩, hx, fun q => ?_, fun q => ?_⟩
      · unfold dBo at k
        rwa [if_pos q] at k
      · unfold dBo at k
        rw [if_neg q] at k
        have := ih (by omega) k
        rw [show ((n + 1 : Nat) : Int) + (-1) = (n : Int) by omega]
        exact this
  refine eX12_blockAt (bX12_blockAt_0 ⟨by omega, ?_⟩)
  rw [c11]
  have := go (D 0 4 - 1).toNat (by omega) k
  rwa [show (((D 0 4 - 1).toNat : Nat) : Int) = D 0 4 - 1 by omega] at this
theorem sp_endOf {K : Int → zH → Prop} {m b : Int} (hD : mOK D) (hr : cRep h m D) (hb : 0 ≤ b ∧ b < D 0 4) (k : K (dEnd D b) h) : zCi G d mX4_endOf [vr 4 m, vi b] h K := by
  have hB := mO_bl hD
  obtain ⟨⟨-, -, -, -, c11⟩, -, -, r⟩ := hr
  refine eX4_endOf (bX4_endOf_0 ?_)
  rw [c11]
  unfold dEnd at k
  refine ⟨⟨by omega, by omega⟩, ⟨by omega, by omega⟩, fun q => ?_, fun q => ⟨⟨by omega, by omega⟩, ?_⟩⟩
  · rwa [if_neg (by omega)] at k
  · rw [if_pos (by omega)] at k
    rwa [r _ (by omega) (by omega)]
theorem sm_blockEnd {K : Int → zH → Prop} {i b : Int} (hD : mOK D) (hi : 0 ≤ i ∧ i < 14) (hr : mRep h i D) (hb : 0 ≤ b ∧ b < D 0 4) (k : K (dEnd D b) h) : zCi G d mX12_blockEnd [vr 12 466, vi i, vi b] h K := by
  have hB := mO_bl hD
  obtain ⟨⟨-, -, -, -, c11⟩, -, -, r⟩ := hr
  refine eX12_blockEnd (bX12_blockEnd_0 ⟨by omega, ?_⟩)
  rw [c11]
  unfold dEnd at k
  refine ⟨⟨by omega, by omega⟩, ⟨by omega, by omega⟩, fun q => ?_, fun q => ⟨⟨by omega, by omega⟩, ?_⟩⟩
  · rwa [if_neg (by omega)] at k
  · rw [if_pos (by omega)] at k
    rwa [show i * 128 + b + 1 = i * 128 + (b + 1) by omega, r _ (by omega) (by omega)]
theorem sp_lengthOf {K : Int → zH → Prop} {m b : Int} (hD : mOK D) (hr : cRep h m D) (hb : 0 ≤ b ∧ b < D 0 4) (k : K (dEnd D b - D 7 b) h) : zCi G (d + 1) mX4_lengthOf [vr 4 m, vi b] h K := by
  have hB := mO_bl hD
  refine eX4_lengthOf (bX4_lengthOf_0 (sp_endOf hD hr hb ⟨⟨by omega, by omega⟩, ?_⟩))
  rwa [hr.2.2.2 b hb.1 hb.2]
theorem sm_width {K : Int → zH → Prop} {i b : Int} (hD : mOK D) (hi : 0 ≤ i ∧ i < 14) (hr : mRep h i D) (hb : 0 ≤ b ∧ b < D 0 4) (k : K (dEnd D b - D 7 b) h) : zCi G (d + 1) mX12_width [vr 12 466, vi i, vi b] h K := by
  have hB := mO_bl hD
  refine eX12_width (bX12_width_0 (sm_blockEnd hD hi hr hb ⟨⟨by omega, by omega⟩, ?_⟩))
  rwa [hr.2.2.2 b hb.1 hb.2]
end SN
