/-! ===== feed of the model ===== -/
section SG
variable {G : zG} {d : Nat} {h : zH}
theorem sm_feed1 {K : Int → zH → Prop} {a b c e f i : Int} (h6 : 0 ≤ i ∧ i < 20) (h0 : 0 ≤ h 466 4) (h1 : h 466 4 < 900) (k : tX12_feed_23 G d K a b c e f (i + 1) (put1 466 4 467 h (zby1 (if 4 ≤ i then (if 8 ≤ i then (if 12 ≤ i then (if 16 ≤ i then f else e) else c) else b) else a) (24 - 8 * (i % 4))))) : tX12_feed_23 G d K a b c e f i h := by
  have hr : zR i := ⟨by omega, by omega⟩
  refine bX12_feed_23 ⟨hr, fun q => absurd q (by omega), fun _ => ⟨hr, fun q4 => ⟨hr, fun q8 => ⟨hr, fun q12 => ⟨hr, fun q16 => ⟨⟨by omega, by omega⟩, ⟨h0, h1⟩, ?_⟩, fun q16 => ⟨⟨by omega, by omega⟩, ⟨h0, h1⟩, ?_⟩⟩, fun q12 => ⟨⟨by omega, by omega⟩, ⟨h0, h1⟩, ?_⟩⟩, fun q8 => ⟨⟨by omega, by omega⟩, ⟨h0, h1⟩, ?_⟩⟩, fun q4 => ⟨⟨by omega, by omega⟩, ⟨h0, h1⟩, ?_⟩⟩⟩
  · rw [if_pos q4, if_pos q8, if_pos q12, if_pos q16] at k
    exact k
  · rw [if_pos q4, if_pos q8, if_pos q12, if_neg q16] at k
    exact k
  · rw [if_pos q4, if_pos q8, if_neg q12] at k
    exact k
  · rw [if_pos q4, if_neg q8] at k
    exact k
  · rw [if_neg q4] at k
    exact k
theorem sm_feed4 {K : Int → zH → Prop} {a b c e f i v : Int} (hi : i = 0 ∧ v = a ∨ i = 4 ∧ v = b ∨ i = 8 ∧ v = c ∨ i = 12 ∧ v = e ∨ i = 16 ∧ v = f) (h0 : 0 ≤ h 466 4) (h1 : h 466 4 ≤ 896) (k : tX12_feed_23 G d K a b c e f (i + 4) (put4 466 4 467 h v)) : tX12_feed_23 G d K a b c e f i h := by
  have e4 : ∀ j : Int, 0 ≤ j ∧ j < 4 → (if 4 ≤ i + j then (if 8 ≤ i + j then (if 12 ≤ i + j then (if 16 ≤ i + j then f else e) else c) else b) else a) = v := by
    intro j hj
    rcases hi with ⟨rfl, rfl⟩ | ⟨rfl, rfl⟩ | ⟨rfl, rfl⟩ | ⟨rfl, rfl⟩ | ⟨rfl, rfl⟩
    · rw [if_neg (by omega)]
    · rw [if_pos (by omega), if_neg (by omega)]
    · rw [if_pos (by omega), if_pos (by omega), if_neg (by omega)]
    · rw [if_pos (by omega), if_pos (by omega), if_pos (by omega), if_neg (by omega)]
    · rw [if_pos (by omega), if_pos (by omega), if_pos (by omega), if_pos (by omega)]
  have em : ∀ j : Int, 0 ≤ j ∧ j < 4 → 24 - 8 * ((i + j) % 4) = 24 - 8 * j := by
    intro j hj
    omega
  refine sm_feed1 (by omega) h0 (by omega) ?_
  have a0 := e4 0 (by omega)
  have m0 := em 0 (by omega)
  rw [Int.add_zero] at a0 m0
  rw [a0, m0]
  refine sm_feed1 (by omega) (by rw [put1_n]; omega) (by rw [put1_n]; omega) ?_
  rw [e4 1 (by omega), em 1 (by omega), show i + 1 + 1 = i + 2 by omega]
  refine sm_feed1 (by omega) (by rw [put1_n, put1_n]; omega) (by rw [put1_n, put1_n]; omega) ?_
  rw [e4 2 (by omega), em 2 (by omega), show i + 2 + 1 = i + 3 by omega]
  refine sm_feed1 (by omega) (by rw [put1_n, put1_n, put1_n]; omega) (by rw [put1_n, put1_n, put1_n]; omega) ?_
  rw [e4 3 (by omega), em 3 (by omega), show i + 3 + 1 = i + 4 by omega]
  exact k
theorem sm_feed {K : Int → zH → Prop} {a b c e f : Int} (h0 : 0 ≤ h 466 4) (h1 : h 466 4 ≤ 900) (k1 : h 466 4 ≤ 880 → K (h 466 4 + 20) (put4 466 4 467 (put4 466 4 467 (put4 466 4 467 (put4 466 4 467 (put4 466 4 467 (zup h 466 0 0) a) b) c) e) f)) (k2 : 880 < h 466 4 → K (-1) (zup h 466 0 0)) : zCi G d mX12_feed [vr 12 466, vi a, vi b, vi c, vi e, vi f] h K := by
  have ez : zup h 466 0 0 466 4 = h 466 4 := by unfold zup; rw [if_neg (by omega)]
  refine eX12_feed (bX12_feed_0 ⟨⟨by omega, by omega⟩, fun q => ?_, fun q => k2 (by omega)⟩)
  refine sm_feed4 (v := a) (by omega) (by rw [ez]; omega) (by rw [ez]; omega) ?_
  refine sm_feed4 (v := b) (by omega) (by rw [put4_n, ez]; omega) (by rw [put4_n, ez]; omega) ?_
  refine sm_feed4 (v := c) (by omega) (by rw [put4_n, put4_n, ez]; omega) (by rw [put4_n, put4_n, ez]; omega) ?_
  refine sm_feed4 (v := e) (by omega) (by rw [put4_n, put4_n, put4_n, ez]; omega) (by rw [put4_n, put4_n, put4_n, ez]; omega) ?_
  refine sm_feed4 (v := f) (by omega) (by rw [put4_n, put4_n, put4_n, put4_n, ez]; omega) (by rw [put4_n, put4_n, put4_n, put4_n, ez]; omega) ?_
  refine bX12_feed_23 ⟨⟨by omega, by omega⟩, fun _ => ?_, fun q => absurd q (by omega)⟩
  have := k1 (by omega)
  rw [put4_n, put4_n, put4_n, put4_n, put4_n, ez, show h 466 4 + 4 + 4 + 4 + 4 + 4 = h 466 4 + 20 by omega]
  exact this
end SG
