/-! ===== how many bits ===== -/
/-- bits of whole numbers -/
def npop : Nat → Nat → Nat
  | 0, _ => 0
  | n + 1, x => x % 2 + npop n (x / 2)
theorem npop_8 (n x : Nat) : npop (n + 8) x = npop 8 (x % 256) + npop n (x / 256) := by
  show x % 2 + (x / 2 % 2 + (x / 2 / 2 % 2 + (x / 2 / 2 / 2 % 2 + (x / 2 / 2 / 2 / 2 % 2 + (x / 2 / 2 / 2 / 2 / 2 % 2 + (x / 2 / 2 / 2 / 2 / 2 / 2 % 2 + (x / 2 / 2 / 2 / 2 / 2 / 2 / 2 % 2 + npop n (x / 2 / 2 / 2 / 2 / 2 / 2 / 2 / 2)))))))) = (x % 256 % 2 + (x % 256 / 2 % 2 + (x % 256 / 2 / 2 % 2 + (x % 256 / 2 / 2 / 2 % 2 + (x % 256 / 2 / 2 / 2 / 2 % 2 + (x % 256 / 2 / 2 / 2 / 2 / 2 % 2 + (x % 256 / 2 / 2 / 2 / 2 / 2 / 2 % 2 + (x % 256 / 2 / 2 / 2 / 2 / 2 / 2 / 2 % 2 + 0)))))))) + npop n (x / 256)
  rw [show x / 2 / 2 / 2 / 2 / 2 / 2 / 2 / 2 = x / 256 by omega]
  omega
theorem npop_0 : ∀ n, npop n 0 = 0
  | 0 => rfl
  | n + 1 => by
    show 0 % 2 + npop n (0 / 2) = 0
    rw [show (0 : Nat) / 2 = 0 from rfl, npop_0 n]
theorem land_256 (x y : Nat) : x &&& y = (x % 256 &&& y % 256) + 256 * (x / 256 &&& y / 256) := by
  have a : (x &&& y) % 2 ^ 8 = x % 2 ^ 8 &&& y % 2 ^ 8 := Nat.and_mod_two_pow
  have b : (x &&& y) >>> 8 = x >>> 8 &&& y >>> 8 := Nat.shiftRight_and_distrib
  rw [Nat.shiftRight_eq_div_pow, Nat.shiftRight_eq_div_pow, Nat.shiftRight_eq_div_pow] at b
  have e : (2 : Nat) ^ 8 = 256 := by decide
  rw [e] at a b
  omega
/-- masks of equal bytes -/
theorem land_5 (c b0 b1 b2 b3 b4 : Nat) (hc : c < 256) (h0 : b0 < 256) (h1 : b1 < 256) (h2 : b2 < 256) (h3 : b3 < 256) (h4 : b4 < 256) : (b0 + 256 * (b1 + 256 * (b2 + 256 * (b3 + 256 * b4)))) &&& (c * 72340172838076673) = (b0 &&& c) + 256 * ((b1 &&& c) + 256 * ((b2 &&& c) + 256 * ((b3 &&& c) + 256 * (b4 &&& c)))) := by
  rw [land_256, show (b0 + 256 * (b1 + 256 * (b2 + 256 * (b3 + 256 * b4)))) % 256 = b0 by omega, show (b0 + 256 * (b1 + 256 * (b2 + 256 * (b3 + 256 * b4)))) / 256 = b1 + 256 * (b2 + 256 * (b3 + 256 * b4)) by omega, show c * 72340172838076673 % 256 = c by omega, show c * 72340172838076673 / 256 = c * 282578800148737 by omega]
  rw [land_256 (b1 + 256 * (b2 + 256 * (b3 + 256 * b4))), show (b1 + 256 * (b2 + 256 * (b3 + 256 * b4))) % 256 = b1 by omega, show (b1 + 256 * (b2 + 256 * (b3 + 256 * b4))) / 256 = b2 + 256 * (b3 + 256 * b4) by omega, show c * 282578800148737 % 256 = c by omega, show c * 282578800148737 / 256 = c * 1103823438081 by omega]
  rw [land_256 (b2 + 256 * (b3 + 256 * b4)), show (b2 + 256 * (b3 + 256 * b4)) % 256 = b2 by omega, show (b2 + 256 * (b3 + 256 * b4)) / 256 = b3 + 256 * b4 by omega, show c * 1103823438081 % 256 = c by omega, show c * 1103823438081 / 256 = c * 4311810305 by omega]
  rw [land_256 (b3 + 256 * b4), show (b3 + 256 * b4) % 256 = b3 by omega, show (b3 + 256 * b4) / 256 = b4 by omega, show c * 4311810305 % 256 = c by omega, show c * 4311810305 / 256 = c * 16843009 by omega]
  rw [land_256 b4 (c * 16843009), show b4 % 256 = b4 by omega, show b4 / 256 = 0 by omega, show c * 16843009 % 256 = c by omega, Nat.zero_and, Nat.mul_zero, Nat.add_zero]
theorem zL_n {n : Nat} (h : n < 9223372036854775808) : (Int64.ofInt (n : Int)).toBitVec = BitVec.ofNat 64 n := by
  show BitVec.ofInt 64 (n : Int) = _
  exact BitVec.ofInt_natCast 64 n
theorem zN_L {b : BitVec 64} (h : b.toNat < 9223372036854775808) : (Int64.ofBitVec b).toInt = (b.toNat : Int) := by
  show b.toInt = _
  rw [BitVec.toInt_eq_toNat_cond, if_pos (by omega)]
theorem zland_n {x y : Nat} (hx : x < 9223372036854775808) (hy : y < 9223372036854775808) : zland (x : Int) (y : Int) = ((x &&& y : Nat) : Int) := by
  unfold zland
  have e : (Int64.ofInt (x : Int) &&& Int64.ofInt (y : Int)) = Int64.ofBitVec ((Int64.ofInt (x : Int)).toBitVec &&& (Int64.ofInt (y : Int)).toBitVec) := rfl
  have le : x &&& y ≤ x := Nat.and_le_left
  have v : (BitVec.ofNat 64 x &&& BitVec.ofNat 64 y).toNat = x &&& y := by
    rw [BitVec.toNat_and, BitVec.toNat_ofNat, BitVec.toNat_ofNat, Nat.mod_eq_of_lt (by omega), Nat.mod_eq_of_lt (by omega)]
  rw [e, zL_n hx, zL_n hy, zN_L (by rw [v]; omega), v]
theorem zlushr_n {x s : Nat} (hx : x < 9223372036854775808) (h0 : 0 < s) (h1 : s < 64) : zlushr (x : Int) (s : Int) = ((x >>> s : Nat) : Int) := by
  have le : x >>> s ≤ x := Nat.shiftRight_le x s
  obtain ⟨y, ey⟩ : ∃ y, y = x >>> s := ⟨_, rfl⟩
  rw [← ey] at le ⊢
  refine tb_ext (zlushr_R _ _) ⟨by omega, by omega⟩ (fun k k0 k1 => ?_)
  rw [tb_lushr (by omega) (by omega) k0]
  unfold tb
  rw [zL_n hx, zL_n (n := y) (by omega), BitVec.getLsbD_ofNat, BitVec.getLsbD_ofNat, ey, Nat.testBit_shiftRight, show ((s : Int) + k).toNat = s + k.toNat by omega]
  by_cases c : s + k.toNat < 64
  · rw [decide_eq_true c, decide_eq_true (show k.toNat < 64 by omega)]
  · rw [decide_eq_false c, decide_eq_true (show k.toNat < 64 by omega), Nat.testBit_lt_two_pow (Nat.lt_of_lt_of_le (show x < 2 ^ 64 by omega) (Nat.pow_le_pow_right (by decide) (by omega)))]
    rfl
theorem ziand_127 {x : Nat} : ziand (x : Int) 127 = ((x % 128 : Nat) : Int) := by
  unfold ziand
  have e : (Int32.ofInt (x : Int) &&& Int32.ofInt 127) = Int32.ofBitVec ((Int32.ofInt (x : Int)).toBitVec &&& (Int32.ofInt 127).toBitVec) := rfl
  have e1 : (Int32.ofInt (x : Int)).toBitVec = BitVec.ofNat 32 x := BitVec.ofInt_natCast 32 x
  have e2 : (Int32.ofInt 127).toBitVec = BitVec.ofNat 32 127 := rfl
  have v : (BitVec.ofNat 32 x &&& BitVec.ofNat 32 127).toNat = x % 128 := by
    rw [BitVec.toNat_and, BitVec.toNat_ofNat, BitVec.toNat_ofNat, show (127 : Nat) % 2 ^ 32 = 2 ^ 7 - 1 by decide, Nat.and_two_pow_sub_one_eq_mod]
    omega
  rw [e, e1, e2]
  show (BitVec.ofNat 32 x &&& BitVec.ofNat 32 127).toInt = _
  rw [BitVec.toInt_eq_toNat_cond, v, if_pos (by omega)]
theorem tb_n {x : Nat} (hx : x < 9223372036854775808) {k : Int} (h0 : 0 ≤ k) (h1 : k < 64) : tb (x : Int) k = x.testBit k.toNat := by
  unfold tb
  rw [zL_n hx, BitVec.getLsbD_ofNat, decide_eq_true (show k.toNat < 64 by omega)]
  rfl
theorem zpop_n {x : Nat} (hx : x < 9223372036854775808) : zpop (x : Int) = (npop 64 x : Int) := by
  have sh : ∀ (n : Nat) (f : Int → Int), zsum f (n + 1) = f 0 + zsum (fun k => f (k + 1)) n := by
    intro n f
    induction n with
    | zero =>
      show 0 + f 0 = f 0 + 0
      omega
    | succ n ih =>
      show zsum f (n + 1) + f ((n + 1 : Nat) : Int) = f 0 + (zsum (fun k => f (k + 1)) n + f ((n : Int) + 1))
      rw [ih, show ((n + 1 : Nat) : Int) = (n : Int) + 1 by omega]
      omega
  have go : ∀ (n y : Nat), zsum (fun k => if y.testBit k.toNat = true then 1 else 0) n = (npop n y : Int) := by
    intro n
    induction n with
    | zero => exact fun _ => rfl
    | succ n ih =>
      intro y
      rw [sh]
      show (if y.testBit (0 : Int).toNat = true then (1 : Int) else 0) + zsum (fun k => if y.testBit (k + 1).toNat = true then 1 else 0) n = ((y % 2 + npop n (y / 2) : Nat) : Int)
      have e : zsum (fun k => if y.testBit (k + 1).toNat = true then 1 else 0) n = zsum (fun k => if (y / 2).testBit k.toNat = true then 1 else 0) n := zsum_congr (fun k k0 _ => by
        rw [show (k + 1).toNat = k.toNat + 1 by omega, Nat.testBit_succ])
      rw [e, ih (y / 2), show ((0 : Int)).toNat = 0 from rfl, Nat.testBit_zero]
      rcases Nat.mod_two_eq_zero_or_one y with z | z
      · rw [z, decide_eq_false (by decide), if_neg (by decide)]
        omega
      · rw [z, decide_eq_true (by decide), if_pos rfl]
        omega
  unfold zpop
  rw [zsum_congr (g := fun k => if x.testBit k.toNat = true then 1 else 0) (fun k k0 k1 => by rw [tb_n hx k0 (by omega)]), go 64 x]
