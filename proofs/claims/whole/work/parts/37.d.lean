/-! ===== letters moved, letters of a set: pure ===== -/
theorem dB_mono {D : zH} (hD : mOK D) {x y : Int} (x0 : 0 ≤ x) (xy : x ≤ y) : dB D x ≤ dB D y := by
  obtain ⟨⟨a1, a2⟩, a3, a4⟩ := dB_ok hD x0
  obtain ⟨⟨b1, b2⟩, b3, b4⟩ := dB_ok hD (show 0 ≤ y by omega)
  by_cases c : dB D x ≤ dB D y
  · exact c
  · have := b4 (dB D x) (by omega) a2
    omega
/-- an edge's letters, moved by k -/
def mX (D : zH) (k e z : Int) : Bool := decide (0 ≤ z - k ∧ z - k < 65536) && pX D e (z - k)
theorem mX_t {D : zH} {k e z : Int} : mX D k e z = true ↔ (0 ≤ z - k ∧ z - k < 65536) ∧ pX D e (z - k) = true := by
  unfold mX
  rw [Bool.and_eq_true, decide_eq_true_iff]
theorem rcn_mv {D : zH} (hD : mOK D) {k e : Int} : rcn (mX D k e) 64 := by
  intro m s h1 h2
  have hB := mO_bl hD
  have pg := pigJ (c := fun i => dB D (s i - k) / 2) m ((List.range 64).map (fun i : Nat => (i : Int))) (fun i i0 i1 => ?_) (fun i j i0 i1 i2 => ?_)
  · rw [List.length_map, List.length_range] at pg
    exact pg
  · have w := mX_t.mp (h1 i i0 i1).2.1
    have := (dB_ok hD w.1.1).1
    exact List.mem_map.mpr ⟨(dB D (s i - k) / 2).toNat, List.mem_range.mpr (by omega), by omega⟩
  · obtain ⟨p1, p2, p3⟩ := h1 i i0 (by omega)
    obtain ⟨q1, q2, q3⟩ := h1 j (by omega) i2
    have lt := h2 i j i0 i1 i2
    have w1 := mX_t.mp p2
    have w2 := mX_t.mp q2
    have q4 : mX D k e (s j - 1) = false := by
      rcases q3 with q3 | q3
      · omega
      · exact q3
    have q5 : ¬ pX D e (s j - 1 - k) = true := fun y => by
      rw [mX_t.mpr ⟨by omega, y⟩] at q4
      cases q4
    have m1 := dB_mono hD (x := s i - k) (y := s j - 1 - k) (by omega) (by omega)
    have m2 := dB_mono hD (x := s j - 1 - k) (y := s j - k) (by omega) (by omega)
    have n1 : ¬ dB D (s i - k) = dB D (s j - 1 - k) := fun y => q5 (by unfold pX; rw [← y]; exact w1.2)
    have n2 : ¬ dB D (s j - k) = dB D (s j - 1 - k) := fun y => q5 (by unfold pX; rw [← y]; exact w2.2)
    show ¬ dB D (s i - k) / 2 = dB D (s j - k) / 2
    omega
theorem mX_ch {D : zH} (hD : mOK D) {k e z : Int} (z0 : 0 < z) (z1 : z < 65536) (q : ¬ mX D k e z = mX D k e (z - 1)) : (∃ b, (0 ≤ b ∧ b < D 0 4) ∧ z = D 7 b + k) ∨ z = 65536 + k := by
  have hB := mO_bl hD
  by_cases c1 : 0 ≤ z - k ∧ z - k < 65536
  · by_cases c2 : 0 ≤ z - 1 - k ∧ z - 1 - k < 65536
    · have q' : ¬ pX D e (z - k) = pX D e (z - k - 1) := fun y => q (by
        unfold mX
        rw [decide_eq_true c1, decide_eq_true c2, y, show z - k - 1 = z - 1 - k by omega])
      obtain ⟨b, hb, eb⟩ := pX_ch hD (pX_c (e := e)) (by omega) c1.2 q'
      exact Or.inl ⟨b, hb, by omega⟩
    · refine Or.inl ⟨0, by omega, ?_⟩
      rw [mO_0 hD]
      omega
  · by_cases c2 : 0 ≤ z - 1 - k ∧ z - 1 - k < 65536
    · exact Or.inr (by omega)
    · exact absurd (by unfold mX; rw [decide_eq_false c1, decide_eq_false c2]; rfl) q
noncomputable def iS (c : Int → Int) (U z : Int) : Bool := @decide (cIn c U z) (Classical.propDecidable _)
theorem iS_t {c : Int → Int} {U z : Int} : iS c U z = true ↔ cIn c U z := by
  unfold iS
  exact @decide_eq_true_iff _ (Classical.propDecidable _)
/-- an edge's letters that are in a set -/
noncomputable def oX (D : zH) (c : Int → Int) (U e z : Int) : Bool := pX D e z && iS c U z
theorem oX_t {D : zH} {c : Int → Int} {U e z : Int} : oX D c U e z = true ↔ pX D e z = true ∧ cIn c U z := by
  unfold oX
  rw [Bool.and_eq_true, iS_t]
theorem rcn_only {D : zH} (hD : mOK D) {c : Int → Int} {U e : Int} (hc : cOK c U) (U48 : U ≤ 48) : rcn (oX D c U e) 87 := by
  intro m s h1 h2
  have hB := mO_bl hD
  by_cases m0 : m = 0
  · omega
  obtain ⟨c1, c2, c3, c4⟩ := hc
  -- keys
  have ex : ∀ i : Int, ∃ ky : Int, (∃ j, (0 ≤ j ∧ 2 * j + 1 < U) ∧ c (2 * j) = s i ∧ ky = 64 + j) ∨ ((∀ j, 0 ≤ j → 2 * j + 1 < U → ¬ c (2 * j) = s i) ∧ ky = dB D (s i) / 2) := fun i => by
    by_cases w : ∃ j, (0 ≤ j ∧ 2 * j + 1 < U) ∧ c (2 * j) = s i
    · obtain ⟨j, hj, ej⟩ := w
      exact ⟨64 + j, Or.inl ⟨j, hj, ej, rfl⟩⟩
    · exact ⟨_, Or.inr ⟨fun j j0 j1 y => w ⟨j, ⟨j0, j1⟩, y⟩, rfl⟩⟩
  obtain ⟨key, hk⟩ : ∃ key : Int → Int, ∀ i, (∃ j, (0 ≤ j ∧ 2 * j + 1 < U) ∧ c (2 * j) = s i ∧ key i = 64 + j) ∨ ((∀ j, 0 ≤ j → 2 * j + 1 < U → ¬ c (2 * j) = s i) ∧ key i = dB D (s i) / 2) := ⟨fun i => Classical.choose (ex i), fun i => Classical.choose_spec (ex i)⟩
  -- inside a range of the set the letter before is no letter of the edge
  have ins : ∀ i : Int, 0 ≤ i → i < m → (∀ j, 0 ≤ j → 2 * j + 1 < U → ¬ c (2 * j) = s i) → 0 < s i ∧ pX D e (s i - 1) = false ∧ ∃ j, (0 ≤ j ∧ 2 * j + 1 < U) ∧ c (2 * j) < s i := fun i i0 i1 no => by
    obtain ⟨p1, p2, p3⟩ := h1 i i0 i1
    obtain ⟨t1, j, j0, j1, j2, j3⟩ := oX_t.mp p2
    have ne := no j j0 j1
    have r := c3 (2 * j) (by omega) (by omega)
    refine ⟨by omega, ?_, j, ⟨j0, j1⟩, by omega⟩
    rcases p3 with p3 | p3
    · omega
    · cases y : pX D e (s i - 1)
      · rfl
      · rw [oX_t.mpr ⟨y, j, j0, j1, by omega, by omega⟩] at p3
        cases p3
  have rng : ∀ i : Int, 0 ≤ i → i < m → 0 ≤ key i ∧ key i < 88 ∧ (64 ≤ key i ↔ ∃ j, (0 ≤ j ∧ 2 * j + 1 < U) ∧ c (2 * j) = s i) := fun i i0 i1 => by
    have b := (dB_ok hD (h1 i i0 i1).1.1).1
    rcases hk i with ⟨j, hj, ej, ek⟩ | ⟨no, ek⟩
    · exact ⟨by omega, by omega, ⟨fun _ => ⟨j, hj, ej⟩, fun _ => by omega⟩⟩
    · exact ⟨by omega, by omega, ⟨fun z => absurd z (by omega), fun ⟨j, hj, ej⟩ => absurd ej (no j hj.1 hj.2)⟩⟩
  have inj : ∀ i j : Int, 0 ≤ i → i < j → j < m → ¬ key i = key j := fun i j i0 ij j1 eq => by
    have lt := h2 i j i0 ij j1
    rcases hk i with ⟨a, ha, ea, ka⟩ | ⟨na, ka⟩
    · rcases hk j with ⟨b, hb, eb, kb⟩ | ⟨nb, kb⟩
      · have : a = b := by omega
        rw [this, eb] at ea
        omega
      · have b := (dB_ok hD (h1 j (by omega) j1).1.1).1
        omega
    · have bi' := (dB_ok hD (h1 i i0 (by omega)).1.1).1
      rcases hk j with ⟨b, hb, eb, kb⟩ | ⟨nb, kb⟩
      · omega
      · obtain ⟨u1, u2, -⟩ := ins j (by omega) j1 nb
        have t1 := (oX_t.mp (h1 i i0 (by omega)).2.1).1
        have t2 := (oX_t.mp (h1 j (by omega) j1).2.1).1
        have m1 := dB_mono hD (x := s i) (y := s j - 1) (h1 i i0 (by omega)).1.1 (by omega)
        have m2 := dB_mono hD (x := s j - 1) (y := s j) (by omega) (by omega)
        have n1 : ¬ dB D (s i) = dB D (s j - 1) := fun y => by
          unfold pX at u2 t1
          rw [← y, t1] at u2
          cases u2
        have n2 : ¬ dB D (s j) = dB D (s j - 1) := fun y => by
          unfold pX at u2 t2
          rw [← y, t2] at u2
          cases u2
        omega
  -- one key is free
  have free : ∃ k0 : Int, (0 ≤ k0 ∧ k0 < 88) ∧ ∀ i : Int, 0 ≤ i → i < m → ¬ key i = k0 := by
    by_cases w : ∃ i : Int, (0 ≤ i ∧ i < m) ∧ c 0 = s i
    · obtain ⟨i, hi, ei⟩ := w
      have t0 := (oX_t.mp (h1 i hi.1 hi.2).2.1).1
      have bz := (dB_ok hD (h1 i hi.1 hi.2).1.1).1
      obtain ⟨b0, b00, b01, b02, b03⟩ := least_b (P := fun b => dEH D e b = true) bz.1 bz.2 (show dEH D e (dB D (s i)) = true from t0)
      refine ⟨b0 / 2, by omega, fun l l0 l1 eq => ?_⟩
      have bl := (dB_ok hD (h1 l l0 l1).1.1)
      rcases hk l with ⟨a, ha, ea, ka⟩ | ⟨na, ka⟩
      · omega
      · obtain ⟨u1, u2, j, hj, lj⟩ := ins l l0 l1 na
        have t2 := (oX_t.mp (h1 l l0 l1).2.1).1
        have g1 : b0 ≤ dB D (s l) := by
          by_cases y : b0 ≤ dB D (s l)
          · exact y
          · exact absurd t2 (b03 _ bl.1.1 (by omega))
        have m2 := dB_mono hD (x := s l - 1) (y := s l) (by omega) (by omega)
        have n2 : ¬ dB D (s l) = dB D (s l - 1) := fun y => by
          unfold pX at u2 t2
          rw [← y, t2] at u2
          cases u2
        have bm := (dB_ok hD (show 0 ≤ s l - 1 by omega))
        have st : D 7 (dB D (s l)) = s l := by
          by_cases y : D 7 (dB D (s l)) = s l
          · exact y
          · have en := dB_end hD (h1 l l0 l1).1.1 (h1 l l0 l1).1.2
            exact absurd (dB_u hD (x := s l - 1) (by omega) bl.1.1 bl.1.2 (by omega) (by omega)).symm n2
        by_cases y : dB D (s l) = b0
        · have cz : c 0 ≤ c (2 * j) := by
            by_cases v : j = 0
            · rw [v]
              exact Int.le_refl _
            · have := c4 0 (2 * j) (by omega) (by omega) (by omega)
              omega
          have hb : b0 ≤ dB D (s i) := by
            by_cases v : b0 ≤ dB D (s i)
            · exact v
            · exact absurd t0 (b03 _ bz.1 (by omega))
          have d1 := (dB_ok hD (h1 i hi.1 hi.2).1.1).2.1
          rw [y] at st
          by_cases v : dB D (s i) = b0
          · rw [v] at d1
            omega
          · have := mO_r hD b00 (show b0 < dB D (s i) by omega) bz.2
            omega
        · have e1 : dB D (s l) = b0 + 1 := by omega
          have en : s l - 1 < D 7 (b0 + 1) := by rw [← e1, st]; omega
          have lo : D 7 b0 ≤ s l - 1 := by
            have := mO_r hD b00 (show b0 < b0 + 1 by omega) (by omega)
            rw [← e1, st] at this
            omega
          have := dB_u hD (x := s l - 1) (b := b0) (by omega) b00 b01 lo (by unfold dEnd; rw [if_pos (by omega)]; exact en)
          unfold pX at u2
          rw [this] at u2
          rw [b02] at u2
          cases u2
    · refine ⟨64, by omega, fun i i0 i1 eq => w ?_⟩
      rcases hk i with ⟨a, ha, ea, ka⟩ | ⟨na, ka⟩
      · have : a = 0 := by omega
        rw [this] at ea
        exact ⟨i, ⟨i0, i1⟩, ea⟩
      · have := (dB_ok hD (h1 i i0 i1).1.1).1
        omega
  obtain ⟨k0, hk0, nk⟩ := free
  have mem : k0 ∈ (List.range 88).map (fun i : Nat => (i : Int)) := List.mem_map.mpr ⟨k0.toNat, List.mem_range.mpr (by omega), by omega⟩
  have pg := pigJ (c := key) m (((List.range 88).map (fun i : Nat => (i : Int))).erase k0) (fun i i0 i1 => by
    have r := rng i i0 i1
    exact (List.mem_erase_of_ne (nk i i0 i1)).mpr (List.mem_map.mpr ⟨(key i).toNat, List.mem_range.mpr (by omega), by omega⟩)) inj
  rw [List.length_erase_of_mem mem, List.length_map, List.length_range] at pg
  omega
/-- a letter's block, by starts alone -/
theorem dS_blk {S : Int → Int} {n z : Int} (h : dS S n) (z0 : 0 ≤ z) : ∃ b, (0 ≤ b ∧ b < n) ∧ S b ≤ z ∧ ∀ c, b < c → c < n → z < S c := by
  obtain ⟨a1, a2, a3, a4⟩ := h
  have go : ∀ k : Nat, (k : Int) < n → ∃ b, (0 ≤ b ∧ b ≤ (k : Int)) ∧ S b ≤ z ∧ ∀ c, b < c → c ≤ (k : Int) → z < S c := by
    intro k
    induction k with
    | zero => exact fun _ => ⟨0, by omega, by rw [a2]; exact z0, fun c x y => absurd y (by omega)⟩
    | succ k ih =>
      intro hk
      by_cases w : S ((k + 1 : Nat) : Int) ≤ z
      · exact ⟨((k + 1 : Nat) : Int), by omega, w, fun c x y => absurd y (by omega)⟩
      · obtain ⟨b, hb, b1, b2⟩ := ih (by omega)
        refine ⟨b, by omega, b1, fun c x y => ?_⟩
        by_cases v : c = ((k + 1 : Nat) : Int)
        · rw [v]
          omega
        · exact b2 c x (by omega)
  obtain ⟨b, hb, b1, b2⟩ := go (n - 1).toNat (by omega)
  exact ⟨b, by omega, b1, fun c x y => b2 c x (by omega)⟩
theorem X_blk {S : Int → Int} {n z b : Int} {X : Int → Bool} (h : dS S n) (hb : 0 ≤ b ∧ b < n) (z1 : z < 65536) (b1 : S b ≤ z) (b2 : ∀ c, b < c → c < n → z < S c) (ch : ∀ z, 0 < z → z < 65536 → ¬ X z = X (z - 1) → ∃ b, (0 ≤ b ∧ b < n) ∧ S b = z) : X z = X (S b) := by
  have r := h.2.2.1 b hb.1 hb.2
  refine gap_X (f := X) (lo := S b) (z - S b).toNat z (by omega) (fun w w0 w1 => Classical.byContradiction (fun q => ?_))
  obtain ⟨c, hc, ec⟩ := ch w (by omega) (by omega) q
  rcases Int.lt_trichotomy c b with y | y | y
  · have := h.2.2.2 c b hc.1 y hb.2
    omega
  · rw [y] at ec
    omega
  · have := b2 c y hc.2
    omega
theorem neX_blk {S : Int → Int} {n : Int} {X : Int → Bool} (h : dS S n) (ch : ∀ z, 0 < z → z < 65536 → ¬ X z = X (z - 1) → ∃ b, (0 ≤ b ∧ b < n) ∧ S b = z) : neX X = true ↔ ∃ b, (0 ≤ b ∧ b < n) ∧ X (S b) = true := by
  rw [neX_t]
  constructor
  · rintro ⟨z, hz, t⟩
    obtain ⟨b, hb, b1, b2⟩ := dS_blk h hz.1
    exact ⟨b, hb, by rw [← X_blk h hb hz.2 b1 b2 ch]; exact t⟩
  · rintro ⟨b, hb, t⟩
    exact ⟨S b, h.2.2.1 b hb.1 hb.2, t⟩
