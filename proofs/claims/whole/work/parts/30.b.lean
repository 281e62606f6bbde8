/-! ===== bitCount, size ===== -/
theorem bc_1 : ∀ b < 256, ∀ t < 2, ((b / 2 + 128 * t) &&& 85) = (b / 2 &&& 85) ∧ (b / 2 &&& 85) ≤ b ∧ b / 2 + 128 * t < 256 := by decide +kernel
theorem bc_2 : ∀ b < 256, ∀ t < 4, (((b - (b / 2 &&& 85)) / 4 + 64 * t) &&& 51) = ((b - (b / 2 &&& 85)) / 4 &&& 51) ∧ (b - (b / 2 &&& 85)) / 4 + 64 * t < 256 ∧ ((b - (b / 2 &&& 85)) &&& 51) + ((b - (b / 2 &&& 85)) / 4 &&& 51) ≤ 68 ∧ (((b - (b / 2 &&& 85)) &&& 51) + ((b - (b / 2 &&& 85)) / 4 &&& 51)) % 16 ≤ 4 := by decide +kernel
theorem bc_3 : ∀ b < 256, ∀ t < 5, ((((b - (b / 2 &&& 85)) &&& 51) + ((b - (b / 2 &&& 85)) / 4 &&& 51) + (((b - (b / 2 &&& 85)) &&& 51) + ((b - (b / 2 &&& 85)) / 4 &&& 51)) / 16 + 16 * t) &&& 15) = npop 8 b ∧ npop 8 b ≤ 8 := by decide +kernel
/-- a byte's way: u the half, c the pairs, v the nibbles -/
def bcu (b : Nat) : Nat := b / 2 &&& 85
def bcc (b : Nat) : Nat := b - bcu b
def bcv (b : Nat) : Nat := (bcc b &&& 51) + (bcc b / 4 &&& 51)
theorem bcU {b t : Nat} (hb : b < 256) (ht : t < 2) : ((b / 2 + 128 * t) &&& 85) = bcu b ∧ bcu b ≤ b ∧ b / 2 + 128 * t < 256 := bc_1 b hb t ht
theorem bcV {b t : Nat} (hb : b < 256) (ht : t < 4) : ((bcc b / 4 + 64 * t) &&& 51) = (bcc b / 4 &&& 51) ∧ bcc b / 4 + 64 * t < 256 ∧ bcv b ≤ 68 ∧ bcv b % 16 ≤ 4 := bc_2 b hb t ht
theorem bcW {b t : Nat} (hb : b < 256) (ht : t < 5) : ((bcv b + bcv b / 16 + 16 * t) &&& 15) = npop 8 b ∧ npop 8 b ≤ 8 := bc_3 b hb t ht
abbrev by5 (a b c d e : Nat) : Nat := a + 256 * (b + 256 * (c + 256 * (d + 256 * e)))
section BC
variable {a b c d e : Nat}
theorem bcs_1 (ha : a < 256) (hb : b < 256) (hc : c < 256) (hd : d < 256) (he : e < 256) : (by5 a b c d e / 2 &&& 6148914691236517205) = by5 (bcu a) (bcu b) (bcu c) (bcu d) (bcu e) := by
  have x0 := bcU ha (t := b % 2) (by omega)
  have x1 := bcU hb (t := c % 2) (by omega)
  have x2 := bcU hc (t := d % 2) (by omega)
  have x3 := bcU hd (t := e % 2) (by omega)
  have x4 := bcU he (t := 0) (by omega)
  have s : by5 a b c d e / 2 = by5 (a / 2 + 128 * (b % 2)) (b / 2 + 128 * (c % 2)) (c / 2 + 128 * (d % 2)) (d / 2 + 128 * (e % 2)) (e / 2 + 128 * 0) := by
    unfold by5
    omega
  rw [s, show (6148914691236517205 : Nat) = 85 * 72340172838076673 by decide]
  unfold by5
  rw [land_5 85 _ _ _ _ _ (by decide) x0.2.2 x1.2.2 x2.2.2 x3.2.2 x4.2.2, x0.1, x1.1, x2.1, x3.1, x4.1]
theorem bcs_2 (ha : a < 256) (hb : b < 256) (hc : c < 256) (hd : d < 256) (he : e < 256) : (by5 (bcc a) (bcc b) (bcc c) (bcc d) (bcc e) &&& 3689348814741910323) + (by5 (bcc a) (bcc b) (bcc c) (bcc d) (bcc e) / 4 &&& 3689348814741910323) = by5 (bcv a) (bcv b) (bcv c) (bcv d) (bcv e) := by
  have x0 := bcV ha (t := bcc b % 4) (by omega)
  have x1 := bcV hb (t := bcc c % 4) (by omega)
  have x2 := bcV hc (t := bcc d % 4) (by omega)
  have x3 := bcV hd (t := bcc e % 4) (by omega)
  have x4 := bcV he (t := 0) (by omega)
  have l : ∀ y, y < 256 → bcc y < 256 := fun y hy => by
    unfold bcc
    omega
  have l0 := l a ha
  have l1 := l b hb
  have l2 := l c hc
  have l3 := l d hd
  have l4 := l e he
  have s : by5 (bcc a) (bcc b) (bcc c) (bcc d) (bcc e) / 4 = by5 (bcc a / 4 + 64 * (bcc b % 4)) (bcc b / 4 + 64 * (bcc c % 4)) (bcc c / 4 + 64 * (bcc d % 4)) (bcc d / 4 + 64 * (bcc e % 4)) (bcc e / 4 + 64 * 0) := by
    unfold by5
    omega
  rw [s, show (3689348814741910323 : Nat) = 51 * 72340172838076673 by decide]
  unfold by5
  rw [land_5 51 _ _ _ _ _ (by decide) l0 l1 l2 l3 l4, land_5 51 _ _ _ _ _ (by decide) x0.2.1 x1.2.1 x2.2.1 x3.2.1 x4.2.1, x0.1, x1.1, x2.1, x3.1, x4.1]
  unfold bcv
  omega
theorem bcs_3 (ha : a < 256) (hb : b < 256) (hc : c < 256) (hd : d < 256) (he : e < 256) : ((by5 (bcv a) (bcv b) (bcv c) (bcv d) (bcv e) + by5 (bcv a) (bcv b) (bcv c) (bcv d) (bcv e) / 16) &&& 1085102592571150095) = by5 (npop 8 a) (npop 8 b) (npop 8 c) (npop 8 d) (npop 8 e) := by
  have x0 := (bcV ha (t := 0) (by omega)).2.2
  have x1 := (bcV hb (t := 0) (by omega)).2.2
  have x2 := (bcV hc (t := 0) (by omega)).2.2
  have x3 := (bcV hd (t := 0) (by omega)).2.2
  have x4 := (bcV he (t := 0) (by omega)).2.2
  have y0 := bcW ha (t := bcv b % 16) (by omega)
  have y1 := bcW hb (t := bcv c % 16) (by omega)
  have y2 := bcW hc (t := bcv d % 16) (by omega)
  have y3 := bcW hd (t := bcv e % 16) (by omega)
  have y4 := bcW he (t := 0) (by omega)
  have s : by5 (bcv a) (bcv b) (bcv c) (bcv d) (bcv e) + by5 (bcv a) (bcv b) (bcv c) (bcv d) (bcv e) / 16 = by5 (bcv a + bcv a / 16 + 16 * (bcv b % 16)) (bcv b + bcv b / 16 + 16 * (bcv c % 16)) (bcv c + bcv c / 16 + 16 * (bcv d % 16)) (bcv d + bcv d / 16 + 16 * (bcv e % 16)) (bcv e + bcv e / 16 + 16 * 0) := by
    unfold by5
    omega
  rw [s, show (1085102592571150095 : Nat) = 15 * 72340172838076673 by decide]
  unfold by5
  rw [land_5 15 _ _ _ _ _ (by decide) (by omega) (by omega) (by omega) (by omega) (by omega), y0.1, y1.1, y2.1, y3.1, y4.1]
end BC
theorem bc_fin {p0 p1 p2 p3 p4 z : Nat} (w0 : p0 ≤ 8) (w1 : p1 ≤ 8) (w2 : p2 ≤ 8) (w3 : p3 ≤ 8) (w4 : p4 ≤ 8) (ez : z = by5 p0 p1 p2 p3 p4) : (z + z / 256 + (z + z / 256) / 65536 + (z + z / 256 + (z + z / 256) / 65536) / 4294967296) % 128 = p0 + (p1 + (p2 + (p3 + p4))) ∧ z + z / 256 + (z + z / 256) / 65536 + (z + z / 256 + (z + z / 256) / 65536) / 4294967296 < 9223372036854775808 := by
  unfold by5 at ez
  have d1 : z / 256 = p1 + 256 * (p2 + 256 * (p3 + 256 * p4)) := by omega
  have d2 : z + z / 256 = (p0 + p1) + 256 * ((p1 + p2) + 256 * ((p2 + p3) + 256 * ((p3 + p4) + 256 * p4))) := by omega
  rw [d2]
  have d3 : ((p0 + p1) + 256 * ((p1 + p2) + 256 * ((p2 + p3) + 256 * ((p3 + p4) + 256 * p4)))) / 65536 = (p2 + p3) + 256 * ((p3 + p4) + 256 * p4) := by omega
  rw [d3]
  have d4 : ((p0 + p1) + 256 * ((p1 + p2) + 256 * ((p2 + p3) + 256 * ((p3 + p4) + 256 * p4))) + ((p2 + p3) + 256 * ((p3 + p4) + 256 * p4))) / 4294967296 = p4 := by omega
  rw [d4]
  omega
section DF
variable {G : zG} {d : Nat} {h : zH}
theorem sp_bitCount {K : Int → zH → Prop} {x : Nat} (hx : x < 1099511627776) (k : K (npop 64 x : Int) h) : zCi G d mJ13_bitCount_95d88 [vl (x : Int)] h K := by
  obtain ⟨b0, e0⟩ : ∃ y, y = x % 256 := ⟨_, rfl⟩
  obtain ⟨b1, e1⟩ : ∃ y, y = x / 256 % 256 := ⟨_, rfl⟩
  obtain ⟨b2, e2⟩ : ∃ y, y = x / 65536 % 256 := ⟨_, rfl⟩
  obtain ⟨b3, e3⟩ : ∃ y, y = x / 16777216 % 256 := ⟨_, rfl⟩
  obtain ⟨b4, e4⟩ : ∃ y, y = x / 4294967296 := ⟨_, rfl⟩
  have h0 : b0 < 256 := by omega
  have h1 : b1 < 256 := by omega
  have h2 : b2 < 256 := by omega
  have h3 : b3 < 256 := by omega
  have h4 : b4 < 256 := by omega
  have ex : x = by5 b0 b1 b2 b3 b4 := by
    unfold by5
    omega
  have pops : npop 64 x = npop 8 b0 + (npop 8 b1 + (npop 8 b2 + (npop 8 b3 + npop 8 b4))) := by
    rw [npop_8 56 x, npop_8 48 (x / 256), npop_8 40 (x / 256 / 256), npop_8 32 (x / 256 / 256 / 256), npop_8 24 (x / 256 / 256 / 256 / 256), show x / 256 / 256 / 256 / 256 / 256 = 0 by omega, npop_0, show x % 256 = b0 by omega, show x / 256 % 256 = b1 by omega, show x / 256 / 256 % 256 = b2 by omega, show x / 256 / 256 / 256 % 256 = b3 by omega, show x / 256 / 256 / 256 / 256 % 256 = b4 by omega]
    omega
  have u0 := (bcU h0 (t := 0) (by omega)).2.1
  have u1 := (bcU h1 (t := 0) (by omega)).2.1
  have u2 := (bcU h2 (t := 0) (by omega)).2.1
  have u3 := (bcU h3 (t := 0) (by omega)).2.1
  have u4 := (bcU h4 (t := 0) (by omega)).2.1
  have v0 := (bcV h0 (t := 0) (by omega)).2.2
  have v1 := (bcV h1 (t := 0) (by omega)).2.2
  have v2 := (bcV h2 (t := 0) (by omega)).2.2
  have v3 := (bcV h3 (t := 0) (by omega)).2.2
  have v4 := (bcV h4 (t := 0) (by omega)).2.2
  have w0 := (bcW h0 (t := 0) (by omega)).2
  have w1 := (bcW h1 (t := 0) (by omega)).2
  have w2 := (bcW h2 (t := 0) (by omega)).2
  have w3 := (bcW h3 (t := 0) (by omega)).2
  have w4 := (bcW h4 (t := 0) (by omega)).2
  have r1 : zland (zlushr (x : Int) 1) 6148914691236517205 = ((by5 (bcu b0) (bcu b1) (bcu b2) (bcu b3) (bcu b4) : Nat) : Int) := by
    have a := zlushr_n (x := x) (s := 1) (by omega) (by decide) (by decide)
    have b := zland_n (x := x >>> 1) (y := 6148914691236517205) (Nat.lt_of_le_of_lt (Nat.shiftRight_le x 1) (by omega)) (by decide)
    rw [show ((1 : Nat) : Int) = 1 from rfl] at a
    rw [a, show (6148914691236517205 : Int) = ((6148914691236517205 : Nat) : Int) from rfl, b, Nat.shiftRight_eq_div_pow, show (2 : Nat) ^ 1 = 2 from rfl, ex, bcs_1 h0 h1 h2 h3 h4]
  have r2 : (x : Int) - ((by5 (bcu b0) (bcu b1) (bcu b2) (bcu b3) (bcu b4) : Nat) : Int) = ((by5 (bcc b0) (bcc b1) (bcc b2) (bcc b3) (bcc b4) : Nat) : Int) := by
    rw [ex]
    unfold by5 bcc
    omega
  have S1 : by5 (bcc b0) (bcc b1) (bcc b2) (bcc b3) (bcc b4) < 1099511627776 := by
    unfold by5 bcc
    omega
  have S2 : by5 (bcv b0) (bcv b1) (bcv b2) (bcv b3) (bcv b4) < 1099511627776 := by
    unfold by5
    omega
  have S3 : by5 (npop 8 b0) (npop 8 b1) (npop 8 b2) (npop 8 b3) (npop 8 b4) < 1099511627776 := by
    unfold by5
    omega
  have q2 := bcs_2 h0 h1 h2 h3 h4
  have q3 := bcs_3 h0 h1 h2 h3 h4
  have fin : ∀ z : Nat, z = by5 (npop 8 b0) (npop 8 b1) (npop 8 b2) (npop 8 b3) (npop 8 b4) → (z + z / 256 + (z + z / 256) / 65536 + (z + z / 256 + (z + z / 256) / 65536) / 4294967296) % 128 = npop 64 x ∧ z + z / 256 + (z + z / 256) / 65536 + (z + z / 256 + (z + z / 256) / 65536) / 4294967296 < 9223372036854775808 := fun z ez => by
    rw [pops]
    exact bc_fin w0 w1 w2 w3 w4 ez
  generalize by5 (bcc b0) (bcc b1) (bcc b2) (bcc b3) (bcc b4) = s1 at *
  generalize by5 (bcv b0) (bcv b1) (bcv b2) (bcv b3) (bcv b4) = s2 at *
  generalize by5 (npop 8 b0) (npop 8 b1) (npop 8 b2) (npop 8 b3) (npop 8 b4) = s3 at *
  obtain ⟨f1, f2⟩ := fin s3 rfl
  have sh : ∀ (y s : Nat), y < 9223372036854775808 → 0 < s → s < 64 → zlushr (y : Int) (s : Int) = ((y / 2 ^ s : Nat) : Int) := fun y s a b c => by rw [zlushr_n a b c, Nat.shiftRight_eq_div_pow]
  have c2 := sh s1 2 (by omega) (by decide) (by decide)
  have c4 := sh s2 4 (by omega) (by decide) (by decide)
  have c8 := sh s3 8 (by omega) (by decide) (by decide)
  have c16 := sh (s3 + s3 / 256) 16 (by omega) (by decide) (by decide)
  have c32 := sh (s3 + s3 / 256 + (s3 + s3 / 256) / 65536) 32 (by omega) (by decide) (by decide)
  rw [show ((2 : Nat) : Int) = 2 from rfl, show (2 : Nat) ^ 2 = 4 from rfl] at c2
  rw [show ((4 : Nat) : Int) = 4 from rfl, show (2 : Nat) ^ 4 = 16 from rfl] at c4
  rw [show ((8 : Nat) : Int) = 8 from rfl, show (2 : Nat) ^ 8 = 256 from rfl] at c8
  rw [show ((16 : Nat) : Int) = 16 from rfl, show (2 : Nat) ^ 16 = 65536 from rfl] at c16
  rw [show ((32 : Nat) : Int) = 32 from rfl, show (2 : Nat) ^ 32 = 4294967296 from rfl] at c32
  have l1 := zland_n (x := s1) (y := 3689348814741910323) (by omega) (by decide)
  have l2 := zland_n (x := s1 / 4) (y := 3689348814741910323) (by omega) (by decide)
  have l3 := zland_n (x := s2 + s2 / 16) (y := 1085102592571150095) (by omega) (by decide)
  rw [show ((3689348814741910323 : Nat) : Int) = 3689348814741910323 from rfl] at l1 l2
  rw [show ((1085102592571150095 : Nat) : Int) = 1085102592571150095 from rfl] at l3
  have a2 : ((s1 &&& 3689348814741910323 : Nat) : Int) + ((s1 / 4 &&& 3689348814741910323 : Nat) : Int) = (s2 : Int) := by
    rw [← q2]
    exact (Int.natCast_add _ _).symm
  have a3 : (s2 : Int) + ((s2 / 16 : Nat) : Int) = ((s2 + s2 / 16 : Nat) : Int) := (Int.natCast_add _ _).symm
  have a4 : (s3 : Int) + ((s3 / 256 : Nat) : Int) = ((s3 + s3 / 256 : Nat) : Int) := (Int.natCast_add _ _).symm
  have a5 : ((s3 + s3 / 256 : Nat) : Int) + (((s3 + s3 / 256) / 65536 : Nat) : Int) = ((s3 + s3 / 256 + (s3 + s3 / 256) / 65536 : Nat) : Int) := (Int.natCast_add _ _).symm
  have a6 : ((s3 + s3 / 256 + (s3 + s3 / 256) / 65536 : Nat) : Int) + (((s3 + s3 / 256 + (s3 + s3 / 256) / 65536) / 4294967296 : Nat) : Int) = ((s3 + s3 / 256 + (s3 + s3 / 256) / 65536 + (s3 + s3 / 256 + (s3 + s3 / 256) / 65536) / 4294967296 : Nat) : Int) := (Int.natCast_add _ _).symm
  refine eJ13_bitCount_95d88 (bJ13_bitCount_95d88_0 ?_)
  rw [r1, r2, c2, l1, l2, a2, c4, a3, l3, q3, c8, a4, c16, a5, c32, a6, ziand_127, f1]
  exact ⟨⟨by omega, by omega⟩, k⟩
theorem sm_bitsIn {K : Int → zH → Prop} {x : Int} (k : K (zpop x) h) : zCi G (d + 1) mX12_bitsIn [vl x] h K := by
  have go : ∀ (f j : Nat), j + f = 64 → tX12_bitsIn_4 G d K x (zsum (fun k => if tb x k = true then 1 else 0) j) j h := by
    intro f
    induction f with
    | zero =>
      intro j hj
      have : j = 64 := by omega
      subst this
      exact bX12_bitsIn_4 ⟨⟨by decide, by decide⟩, fun _ => k, fun z => absurd (by decide) z⟩
    | succ f ih =>
      intro j hj
      have nx : ∀ v, v = (if tb x (j : Int) = true then 1 else 0) → tX12_bitsIn_4 G d K x (zsum (fun k => if tb x k = true then 1 else 0) j + v) ((j : Int) + 1) h := fun v ev => by
        subst ev
        exact ih (j + 1) (by omega)
      exact bX12_bitsIn_4 ⟨⟨by omega, by omega⟩, fun z => absurd z (by omega), fun _ => sm_bit (by omega) ⟨fun z => nx 0 (by rw [if_neg (by rw [z]; decide)]), fun z => nx 1 (by rw [if_pos z])⟩⟩
  exact eX12_bitsIn (bX12_bitsIn_0 (go 64 0 (by omega)))
/-- ends are few bits -/
theorem ends_n {D : zH} (hD : mOK D) : ∃ n : Nat, D 0 1 = n ∧ n < 1099511627776 := by
  have hS := mO_st hD
  have en := mO_en hD
  have e : D 0 1 = ((BitVec.ofInt 64 (D 0 1)).toNat : Int) ∧ (BitVec.ofInt 64 (D 0 1)).toNat < 1099511627776 := by
    have lt : (BitVec.ofInt 64 (D 0 1)).toNat < 2 ^ 40 := by
      refine Nat.lt_pow_two_of_testBit _ (fun i hi => ?_)
      by_cases c : i < 64
      · have := en.2 (i : Int) (by omega) (by omega)
        unfold tb at this
        exact this
      · exact BitVec.testBit_toNat _ ▸ BitVec.getLsbD_of_ge _ _ (by omega)
    refine ⟨?_, lt⟩
    have t : (Int64.ofInt (D 0 1)).toInt = D 0 1 := zL_toInt en.1
    have t2 : (Int64.ofInt (D 0 1)).toInt = (BitVec.ofInt 64 (D 0 1)).toInt := rfl
    rw [t2, BitVec.toInt_eq_toNat_cond, if_pos (by omega)] at t
    exact t.symm
  exact ⟨_, e.1, e.2⟩
theorem c_size {m u : Int} (hI : Inv h) (hm : zR m) (hu : zR u) : twI G (d + 7) mX11_size mX12_size [vi m, vi u] h := by
  have b0 : ∀ w, bK h (zup (zup h 0 14 w) 466 0 0) := fun w => bK_w (fun _ _ => rfl) rfl
  refine eX11_size (bX11_size_0 (q_mach hI hm (fun q => ⟨fun z => (by cases z), fun _ => ?_⟩) (fun q => ⟨fun _ => sp_refused (eX12_size (bX12_size_0 (q_machM hI rfl hm (fun z => absurd z q) (fun _ => ⟨fun _ => sm_refused ⟨zR_m1, rfl, Inv_w hI (by omega)⟩, fun z => (by cases z)⟩)))), fun z => (by cases z)⟩)))
  obtain ⟨m10, mc, o1, o2, o3, o4⟩ := iM_d hI q.1 q.2
  have pp := pth_p o4
  have nn := pP_n pp
  have pp2 := pp
  obtain ⟨p7, pb, pt, R, pR, pc⟩ := pp2
  have hS := mO_st o1
  have hE := mO_ed o1
  have hF := mO_fr o1
  have hB := mO_bl o1
  refine sp_isIn hu ⟨by decide, by decide⟩ ⟨fun q2 => ⟨m10, ?_⟩, fun q2 => sp_refused (eX12_size (bX12_size_0 (q_machM hI rfl hm (fun _ => ⟨fun z => (by cases z), fun _ => sm_in hu ⟨by decide, by decide⟩ ⟨by decide, by decide⟩ ⟨fun z => absurd (of_decide_eq_true z) (by have := of_decide_eq_false q2; omega), fun _ => sm_refused ⟨zR_m1, rfl, Inv_w hI (by omega)⟩⟩⟩) (fun z => absurd q z))))⟩
  have q2 := of_decide_eq_true q2
  have hr := mRep_b (b0 0) o3
  obtain ⟨en, ee, el⟩ := ends_n o1
  have zp := zpop_01 (dOf h m 0 1)
  have two : ∀ x, zR x → (u = 0 → x = dOf h m 0 0) → (u = 1 → x = dOf h m 0 2) → (u = 2 → x = dOf h m 0 3) → (u = 3 → x = zpop (dOf h m 0 1)) → (u = 4 → x = h (h 3 m + 7) 0) → (u = 5 → x = dOf h m 0 4) → (u = 6 → x = h (h 3 m + 7) 10) → zCi G (d + 7) mX12_size [vr 12 466, vi m, vi u] (zup h 0 14 0) (fun y h4 => zR x ∧ x = y ∧ Inv h4) := fun x hx x0 x1 x2 x3 x4 x5 x6 => by
    have so : ∀ {K2 : zH → Prop}, (∀ h3 : zH, h3 512 0 = h (h 3 m + 7) 10 → h3 506 0 = h (h 3 m + 7) 0 → Inv (zup (zup h3 466 1 0) 466 2 (-1)) → K2 h3) → zCv G (d + 6) mX12_sorts [vr 12 466, vi m, vi 0] (zup (zup h 0 14 0) 466 0 0) K2 := fun kk => q_sorts (b0 0) m10 o1 o3 pb pt pc (fun h3 f g s => kk h3 s.1 g.1 (Inv_k hI (by omega) (fun _ _ => rfl) rfl rfl f))
    refine eX12_size (bX12_size_0 (q_machM hI rfl hm (fun _ => ⟨fun z => (by cases z), fun _ => sm_in hu ⟨by decide, by decide⟩ ⟨by decide, by decide⟩ ⟨fun _ => ⟨hu, fun w => so (fun h3 e1 e2 I3 => ⟨hu, fun y => ?_, fun y => absurd y (by omega)⟩), fun w => ⟨by omega, ?_⟩, fun w => ⟨by omega, ?_⟩, fun w => ⟨by omega, ?_⟩, fun w => ⟨by omega, ?_⟩, fun w => so (fun h3 e1 e2 I3 => ⟨hu, fun y => absurd w y, fun y => ?_⟩), fun w => ⟨by omega, ?_⟩⟩, fun z => absurd (of_decide_eq_false z) (by omega)⟩⟩) (fun z => absurd q z)))
    · rw [e1]
      exact sm_good ⟨hx, x6 (by omega), I3⟩
    · rw [hr.1.1]
      exact sm_good ⟨hx, x0 w, Inv_w hI (by omega)⟩
    · rw [hr.1.2.2.1]
      exact sm_good ⟨hx, x1 w, Inv_w hI (by omega)⟩
    · rw [hr.1.2.2.2.1]
      exact sm_good ⟨hx, x2 w, Inv_w hI (by omega)⟩
    · rw [hr.1.2.1]
      exact sm_bitsIn (sm_good ⟨hx, x3 w, Inv_w hI (by omega)⟩)
    · rw [e2]
      exact sm_good ⟨hx, x4 w, I3⟩
    · rw [hr.1.2.2.2.2]
      exact sm_good ⟨hx, x5 w, Inv_w hI (by omega)⟩
  refine eX4_howMany (bX4_howMany_0 ⟨hu, fun w => sp_granted (two _ ⟨by omega, by omega⟩ ?_ ?_ ?_ ?_ ?_ ?_ ?_), fun w => ?_, fun w => ?_, fun w => ?_, fun w => ?_, fun w => sp_granted (two _ ⟨by omega, by omega⟩ ?_ ?_ ?_ ?_ ?_ ?_ ?_), fun w => ?_⟩)
  any_goals (intro y; first | rfl | omega)
  · rw [o2.1.1]
    exact sp_granted (two _ ⟨by omega, by omega⟩ (fun _ => rfl) (fun y => by omega) (fun y => by omega) (fun y => by omega) (fun y => by omega) (fun y => by omega) (fun y => by omega))
  · rw [o2.1.2.2.1]
    exact sp_granted (two _ ⟨by omega, by omega⟩ (fun y => by omega) (fun _ => rfl) (fun y => by omega) (fun y => by omega) (fun y => by omega) (fun y => by omega) (fun y => by omega))
  · rw [o2.1.2.2.2.1]
    exact sp_granted (two _ ⟨by omega, by omega⟩ (fun y => by omega) (fun y => by omega) (fun _ => rfl) (fun y => by omega) (fun y => by omega) (fun y => by omega) (fun y => by omega))
  · rw [o2.1.2.1, ee]
    have zn := zpop_n (x := en) (by omega)
    rw [← ee] at zn
    exact sp_bitCount el (sp_granted (two _ ⟨by omega, by omega⟩ (fun y => by omega) (fun y => by omega) (fun y => by omega) (fun _ => zn.symm) (fun y => by omega) (fun y => by omega) (fun y => by omega)))
  · rw [o2.1.2.2.2.2]
    exact sp_granted (two _ ⟨by omega, by omega⟩ (fun y => by omega) (fun y => by omega) (fun y => by omega) (fun y => by omega) (fun y => by omega) (fun _ => rfl) (fun y => by omega))
end DF
