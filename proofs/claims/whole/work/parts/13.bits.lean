/-! ===== bits of longs ===== -/
def tb (x k : Int) : Bool := (Int64.ofInt x).toBitVec.getLsbD k.toNat
theorem zcmp_eq {x y : Int} : zcmp x y = 0 ↔ Int64.ofInt x = Int64.ofInt y := by
  unfold zcmp lg_cmp
  by_cases c1 : Int64.ofInt x > Int64.ofInt y
  · rw [if_pos c1]
    refine ⟨fun q => absurd q (by decide), fun q => ?_⟩
    rw [q] at c1
    exact absurd c1 (Int64.lt_irrefl)
  · rw [if_neg c1]
    by_cases c2 : Int64.ofInt x = Int64.ofInt y
    · rw [if_pos c2]
      exact ⟨fun _ => c2, fun _ => rfl⟩
    · rw [if_neg c2]
      exact ⟨fun q => absurd q (by decide), fun q => absurd q c2⟩
theorem tb_land (x y k : Int) : tb (zland x y) k = (tb x k && tb y k) := by
  unfold tb zland
  rw [Int64.ofInt_toInt, Int64.toBitVec_and, BitVec.getLsbD_and]
theorem tb_lor (x y k : Int) : tb (zlor x y) k = (tb x k || tb y k) := by
  unfold tb zlor
  rw [Int64.ofInt_toInt, Int64.toBitVec_or, BitVec.getLsbD_or]
theorem tb_lxor (x y k : Int) : tb (zlxor x y) k = (tb x k ^^ tb y k) := by
  unfold tb zlxor
  rw [Int64.ofInt_toInt, Int64.toBitVec_xor, BitVec.getLsbD_xor]
/-- the amount of a shift -/
theorem zsh {k : Int} (h0 : 0 ≤ k) (h1 : k < 64) : ((Int32.ofInt k).toInt64 &&& 63) = Int64.ofInt k := by
  obtain ⟨n, rfl⟩ : ∃ n : Nat, k = n := ⟨k.toNat, by omega⟩
  have : ∀ n : Nat, n < 64 → ((Int32.ofInt (n : Int)).toInt64 &&& 63) = Int64.ofInt (n : Int) := by decide +kernel
  exact this n (by omega)
theorem zshb {k : Int} (h0 : 0 ≤ k) (h1 : k < 64) : ((Int64.ofInt k).toBitVec.smod 64).toNat = k.toNat := by
  obtain ⟨n, rfl⟩ : ∃ n : Nat, k = n := ⟨k.toNat, by omega⟩
  have : ∀ n : Nat, n < 64 → ((Int64.ofInt (n : Int)).toBitVec.smod 64).toNat = (n : Int).toNat := by decide +kernel
  exact this n (by omega)
theorem zshu {k : Int} (h0 : 0 ≤ k) (h1 : k < 64) : (((Int32.ofInt k).toInt64.toUInt64 &&& Int64.toUInt64 63).toBitVec % 64).toNat = k.toNat := by
  obtain ⟨n, rfl⟩ : ∃ n : Nat, k = n := ⟨k.toNat, by omega⟩
  have : ∀ n : Nat, n < 64 → (((Int32.ofInt (n : Int)).toInt64.toUInt64 &&& Int64.toUInt64 63).toBitVec % 64).toNat = (n : Int).toNat := by decide +kernel
  exact this n (by omega)
theorem tb_lushr {x s k : Int} (h0 : 0 ≤ s) (h1 : s < 64) (hk : 0 ≤ k) : tb (zlushr x s) k = tb x (s + k) := by
  unfold tb zlushr
  rw [Int64.ofInt_toInt]
  show ((Int64.ofInt x).toUInt64 >>> ((Int32.ofInt s).toInt64.toUInt64 &&& Int64.toUInt64 63)).toBitVec.getLsbD k.toNat = _
  rw [UInt64.toBitVec_shiftRight, BitVec.ushiftRight_eq', BitVec.getLsbD_ushiftRight, zshu h0 h1]
  show (Int64.ofInt x).toBitVec.getLsbD (s.toNat + k.toNat) = _
  rw [show s.toNat + k.toNat = (s + k).toNat by omega]
theorem tb_lshl {x s k : Int} (h0 : 0 ≤ s) (h1 : s < 64) (hk : 0 ≤ k) (hk1 : k < 64) : tb (zlshl x s) k = (decide (s ≤ k) && tb x (k - s)) := by
  unfold tb zlshl
  rw [Int64.ofInt_toInt, zsh h0 h1, Int64.toBitVec_shiftLeft, BitVec.shiftLeft_eq', BitVec.getLsbD_shiftLeft, zshb h0 h1]
  rw [show (k - s).toNat = k.toNat - s.toNat by omega]
  by_cases c : s ≤ k
  · rw [decide_eq_true c, decide_eq_true (show k.toNat < 64 by omega), decide_eq_false (show ¬ k.toNat < s.toNat by omega)]
    rfl
  · rw [decide_eq_false c, decide_eq_true (show k.toNat < s.toNat by omega)]
    simp
theorem tb_lshr {x s k : Int} (h0 : 0 ≤ s) (h1 : s < 64) (hk : 0 ≤ k) (hk1 : s + k < 64) : tb (zlshr x s) k = tb x (s + k) := by
  unfold tb zlshr
  rw [Int64.ofInt_toInt, zsh h0 h1, Int64.toBitVec_shiftRight, BitVec.sshiftRight_eq', BitVec.getLsbD_sshiftRight, zshb h0 h1]
  rw [decide_eq_false (show ¬ 64 ≤ k.toNat by omega), if_pos (show s.toNat + k.toNat < 64 by omega), show s.toNat + k.toNat = (s + k).toNat by omega]
  rfl
theorem tb_1 {k : Int} (hk : 0 ≤ k) : tb 1 k = decide (k = 0) := by
  unfold tb
  show (1#64).getLsbD k.toNat = _
  rw [BitVec.getLsbD_one]
  by_cases c : k = 0
  · subst c
    rfl
  · rw [decide_eq_false c, decide_eq_false (show ¬ k.toNat = 0 by omega)]
    simp
theorem tb_0 (k : Int) : tb 0 k = false := by
  unfold tb
  show (0#64).getLsbD k.toNat = _
  exact BitVec.getLsbD_zero
theorem tb_m1 {k : Int} (hk : 0 ≤ k) (h1 : k < 64) : tb (-1) k = true := by
  obtain ⟨n, rfl⟩ : ∃ n : Nat, k = n := ⟨k.toNat, by omega⟩
  have : ∀ n : Nat, n < 64 → tb (-1) (n : Int) = true := by decide +kernel
  exact this n (by omega)
/-- the lowest bit alone -/
theorem zbit1 (x : Int) : Int64.ofInt (zland x 1) = Int64.ofInt 1 ↔ tb x 0 = true := by
  rw [← Int64.toBitVec_inj]
  constructor
  · intro q
    have h := congrArg (fun b => b.getLsbD 0) q
    have h2 := tb_land x 1 0
    unfold tb at h2 ⊢
    rw [show (0 : Int).toNat = 0 from rfl] at h2 ⊢
    rw [show (Int64.ofInt (zland x 1)).toBitVec.getLsbD 0 = (Int64.ofInt 1).toBitVec.getLsbD 0 from h] at h2
    have e1 : (Int64.ofInt 1).toBitVec.getLsbD 0 = true := by decide
    rw [e1, Bool.and_true] at h2
    exact h2.symm
  · intro q
    apply BitVec.eq_of_getLsbD_eq
    intro i hi
    have h2 := tb_land x 1 (i : Int)
    unfold tb at h2
    rw [Int.toNat_natCast] at h2
    rw [h2]
    have h3 := tb_1 (k := (i : Int)) (by omega)
    unfold tb at h3
    rw [Int.toNat_natCast] at h3
    rw [h3]
    by_cases c : (i : Int) = 0
    · have : i = 0 := by omega
      subst this
      unfold tb at q
      rw [show (0 : Int).toNat = 0 from rfl] at q
      rw [q]
      rfl
    · rw [decide_eq_false c, Bool.and_false]
theorem zbit_u {x k : Int} (h0 : 0 ≤ k) (h1 : k < 64) : zcmp (zland (zlushr x k) 1) 1 = 0 ↔ tb x k = true := by
  rw [zcmp_eq, zbit1, tb_lushr h0 h1 (by omega), Int.add_zero]
theorem zbit_s {x k : Int} (h0 : 0 ≤ k) (h1 : k < 64) : zcmp (zland (zlshr x k) 1) 1 = 0 ↔ tb x k = true := by
  rw [zcmp_eq, zbit1, tb_lshr h0 h1 (by omega) (by omega), Int.add_zero]
/-- longs are their bits -/
theorem tb_ext {x y : Int} (hx : zRL x) (hy : zRL y) (h : ∀ k, 0 ≤ k → k < 64 → tb x k = tb y k) : x = y := by
  have e : Int64.ofInt x = Int64.ofInt y := by
    rw [← Int64.toBitVec_inj]
    apply BitVec.eq_of_getLsbD_eq
    intro i hi
    have := h (i : Int) (by omega) (by omega)
    unfold tb at this
    rw [Int.toNat_natCast] at this
    exact this
  have := congrArg Int64.toInt e
  rwa [zL_toInt hx, zL_toInt hy] at this
theorem zRL_i (x : Int64) : zRL x.toInt := by
  have := x.toInt_lt
  have := x.le_toInt
  constructor <;> omega
theorem zland_R (x y : Int) : zRL (zland x y) := zRL_i _
theorem zlor_R (x y : Int) : zRL (zlor x y) := zRL_i _
theorem zlxor_R (x y : Int) : zRL (zlxor x y) := zRL_i _
theorem zlshl_R (x y : Int) : zRL (zlshl x y) := zRL_i _
theorem zlshr_R (x y : Int) : zRL (zlshr x y) := zRL_i _
theorem zlushr_R (x y : Int) : zRL (zlushr x y) := zRL_i _
theorem bt {A B : Prop} (a : A) : (true = true → A) ∧ (true = false → B) := ⟨fun _ => a, fun q => (nomatch q)⟩
theorem bt' {A B : Prop} (a : A) : (true = false → B) ∧ (true = true → A) := ⟨fun q => (nomatch q), fun _ => a⟩
theorem bf {A B : Prop} (b : B) : (false = true → A) ∧ (false = false → B) := ⟨fun q => (nomatch q), fun _ => b⟩
theorem bf' {A B : Prop} (b : B) : (false = false → B) ∧ (false = true → A) := ⟨fun _ => b, fun q => (nomatch q)⟩
