/-! ===== the invariant at the start ===== -/
theorem zI_num {P : Int → Prop} {n : Nat} (h : ∀ k : Nat, k < n → P (k : Int)) : ∀ i : Int, 0 ≤ i → i < n → P i := fun i a b => by
  have := h i.toNat (by omega)
  rwa [show ((i.toNat : Nat) : Int) = i by omega] at this
theorem Inv_zI : Inv zI := by
  have s0 : zI 0 10 = 0 ∧ zI 0 11 = 0 ∧ zI 0 12 = 0 ∧ zI 0 13 = 0 ∧ zI 0 14 = 0 ∧ zI 0 15 = 0 ∧ zI 0 16 = 0 ∧ zI 466 4 = 0 ∧ zI 466 77 = 0 ∧ zI 466 65 = 0 ∧ zI 466 64 = 0 ∧ zI 466 1 = 0 ∧ zI 466 10 = 0 ∧ zI 466 2 = -1 := by decide +kernel
  have s1 : zI 0 9 = 249 ∧ zI 12 5 = 82 ∧ zI 249 2 = 0 ∧ zI 466 22 = 0 := by decide +kernel
  have t1 : ∀ s < 12, zI 250 (s : Nat) = 252 + 2 * (s : Nat) ∧ zI 83 (s : Nat) = 85 + 2 * (s : Nat) := by decide +kernel
  have m1 : ∀ i < 10, zI 3 (i : Nat) = 276 + 19 * (i : Nat) := by decide +kernel
  have m2 : ∀ i < 4, zI 81 (i : Nat) = 157 + 19 * (i : Nat) := by decide +kernel
  have b1 : ∀ i < 13, zI 18 (i : Nat) = 28 + 4 * (i : Nat) ∧ zI 19 (i : Nat) = 30 + 4 * (i : Nat) := by decide +kernel
  have b2 : zI 17 6 = 24 ∧ zI 17 7 = 26 := by decide +kernel
  have b3 : ∀ i < 24, zI 80 (i : Nat) = 109 + 2 * (i : Nat) := by decide +kernel
  have M1 := zI_num (P := fun i => zI 3 i = 276 + 19 * i) m1
  have M2 := zI_num (P := fun i => zI 81 i = 157 + 19 * i) m2
  have B1 := zI_num (P := fun i => zI 18 i = 28 + 4 * i ∧ zI 19 i = 30 + 4 * i) b1
  have bR : ∀ j, 0 ≤ j → j < 28 → bR zI j = if j = 0 then 24 else if j = 1 then 26 else if j < 15 then 28 + 4 * (j - 2) else 30 + 4 * (j - 15) := fun j a b => by
    show (if j = 0 then zI 17 6 else if j = 1 then zI 17 7 else if j < 15 then zI 18 (j - 2) else zI 19 (j - 15)) = _
    by_cases z0 : j = 0
    · rw [if_pos z0, if_pos z0, b2.1]
    · rw [if_neg z0, if_neg z0]
      by_cases z1 : j = 1
      · rw [if_pos z1, if_pos z1, b2.2]
      · rw [if_neg z1, if_neg z1]
        by_cases z2 : j < 15
        · rw [if_pos z2, if_pos z2, (B1 (j - 2) (by omega) (by omega)).1]
        · rw [if_neg z2, if_neg z2, (B1 (j - 15) (by omega) (by omega)).2]
  refine ⟨⟨by omega, by omega, by omega, by omega, by omega, by omega, fun z => by omega, fun _ => by omega⟩, fun i a b => absurd b (by omega), fun i a b => absurd b (by omega), ⟨Or.inl ⟨s1.1, s1.2.1⟩, zI_num (P := fun s => zI 250 s = 252 + 2 * s ∧ zI 83 s = 85 + 2 * s) t1, ?_, ?_⟩, ⟨fun i a b => ?_, fun i a b => ?_, fun i j a b c => ?_, fun i j a b c => ?_, fun i j a b c e => ?_, fun i a b => absurd b (by omega)⟩, fun j a b => ?_, fun i j a b c => ?_, zI_num (P := fun i => zI 80 i = 109 + 2 * i) b3⟩
  · rw [s1.1, s1.2.2.1, s1.2.2.2]
    omega
  · rw [s1.1, s1.2.2.1]
    exact fun s a b => absurd b (by omega)
  · rw [M1 i a b]
    exact Or.inl ⟨by omega, by omega, by omega⟩
  · rw [M2 i a b]
    exact Or.inr ⟨by omega, by omega, by omega⟩
  · rw [M1 i a (by omega), M1 j (by omega) c]
    omega
  · rw [M2 i a (by omega), M2 j (by omega) c]
    omega
  · rw [M1 i a b, M2 j c e]
    omega
  · rw [bR j a b]
    split
    · omega
    · split
      · omega
      · split <;> omega
  · rw [bR i a (by omega), bR j (by omega) c]
    split <;> split <;> (try split) <;> (try split) <;> (try split) <;> omega
