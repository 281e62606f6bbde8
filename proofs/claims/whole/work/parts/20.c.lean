/-! ===== feed ===== -/
def zby1 (v s : Int) : Int := zi2b (zi2b (zishr v s))
/-- a byte more on the tape: of the class (o 0, slot 10, row 1), of the model (466, slot 4, row 467) -/
def put1 (o j r : Int) (h : zH) (x : Int) : zH := zup (zup h r (h o j) x) o j (h o j + 1)
theorem put1_n {o j r : Int} (h : zH) (x : Int) : put1 o j r h x o j = h o j + 1 := by
  unfold put1 zup
  rw [if_pos ⟨rfl, rfl⟩]
def put4 (o j r : Int) (h : zH) (v : Int) : zH := put1 o j r (put1 o j r (put1 o j r (put1 o j r h (zby1 v 24)) (zby1 v 16)) (zby1 v 8)) (zby1 v 0)
theorem put4_n {o j r : Int} (h : zH) (x : Int) : put4 o j r h x o j = h o j + 4 := by
  unfold put4
  rw [put1_n, put1_n, put1_n, put1_n]
  omega
section SF
variable {G : zG} {d : Nat} {h : zH}
theorem sp_put1 {K : zH → Prop} {v s : Int} (hs : s = 0 ∨ s = 8 ∨ s = 16 ∨ s = 24) (h0 : 0 ≤ h 0 10) (h1 : h 0 10 < 900) (k : tX11_putFour_3 G d K v (s + (-8)) (put1 0 10 1 h (zby1 v s))) : tX11_putFour_3 G d K v s h := by
  refine bX11_putFour_3 ⟨⟨by omega, by omega⟩, fun q => absurd q (by omega), fun _ => ⟨⟨by omega, by omega⟩, fun q => absurd q (by omega), fun _ => ⟨⟨h0, h1⟩, ?_⟩⟩⟩
  rw [zby hs]
  exact k
theorem sp_putFour {K : zH → Prop} {v : Int} (h0 : 0 ≤ h 0 10) (h1 : h 0 10 ≤ 896) (k : K (put4 0 10 1 h v)) : zCv G d mX11_putFour [vr 11 0, vi v] h K := by
  refine eX11_putFour (bX11_putFour_0 ?_)
  refine sp_put1 (by omega) h0 (by omega) ?_
  refine sp_put1 (by omega) (by rw [put1_n]; omega) (by rw [put1_n]; omega) ?_
  refine sp_put1 (by omega) (by rw [put1_n, put1_n]; omega) (by rw [put1_n, put1_n]; omega) ?_
  refine sp_put1 (by omega) (by rw [put1_n, put1_n, put1_n]; omega) (by rw [put1_n, put1_n, put1_n]; omega) ?_
  exact bX11_putFour_3 ⟨⟨by omega, by omega⟩, fun _ => k, fun q => absurd q (by omega)⟩
theorem sp_feed {K : Int → zH → Prop} {a b c e f : Int} (h0 : 0 ≤ h 0 10) (h1 : h 0 10 ≤ 900) (k1 : h 0 10 ≤ 880 → K (h 0 10 + 20) (put4 0 10 1 (put4 0 10 1 (put4 0 10 1 (put4 0 10 1 (put4 0 10 1 h a) b) c) e) f)) (k2 : 880 < h 0 10 → K (-1) h) : zCi G (d + 1) mX11_feed [vr 11 0, vi a, vi b, vi c, vi e, vi f] h K := by
  refine eX11_feed (bX11_feed_0 ⟨⟨by omega, by omega⟩, fun q => ?_, fun q => k2 (by omega)⟩)
  refine sp_putFour h0 (by omega) (sp_putFour (by rw [put4_n]; omega) (by rw [put4_n]; omega) (sp_putFour (by rw [put4_n, put4_n]; omega) (by rw [put4_n, put4_n]; omega) (sp_putFour (by rw [put4_n, put4_n, put4_n]; omega) (by rw [put4_n, put4_n, put4_n]; omega) (sp_putFour (by rw [put4_n, put4_n, put4_n, put4_n]; omega) (by rw [put4_n, put4_n, put4_n, put4_n]; omega) ?_))))
  have := k1 q
  rw [put4_n, put4_n, put4_n, put4_n, put4_n]
  rw [show h 0 10 + 4 + 4 + 4 + 4 + 4 = h 0 10 + 20 by omega]
  exact this
end SF
