/-! ===== plain specs: small helpers ===== -/
section SA
variable {G : zG} {d : Nat} {h : zH}
theorem sp_isIn {K : Bool → zH → Prop} {a b : Int} (ha : zR a) (hb : zR b) (k : K (decide (0 ≤ a ∧ a < b)) h) : zCb G d mX11_isIn [vi a, vi b] h K := by
  refine eX11_isIn (bX11_isIn_0 ⟨ha, fun q => ?_, fun q => ⟨ha, hb, fun q2 => ?_, fun q2 => ?_⟩⟩)
  · rwa [decide_eq_false (by omega)] at k
  · rwa [decide_eq_false (by omega)] at k
  · rwa [decide_eq_true (by omega)] at k
theorem sp_refused {K : Int → zH → Prop} {a : Int} (k : K (-1) (zup h 0 14 a)) : zCi G d mX11_refused [vr 11 0, vi a] h K := eX11_refused (bX11_refused_0 k)
theorem sp_granted {K : Int → zH → Prop} {a : Int} (k : K a (zup h 0 14 0)) : zCi G d mX11_granted [vr 11 0, vi a] h K := eX11_granted (bX11_granted_0 k)
theorem sp_isMachine {K : Bool → zH → Prop} {a : Int} (ha : zR a) (hb : zR (h 0 13)) (k : K (decide (0 ≤ a ∧ a < h 0 13)) h) : zCb G (d + 1) mX11_isMachine [vr 11 0, vi a] h K := eX11_isMachine (bX11_isMachine_0 (sp_isIn ha hb k))
theorem sm_refused {K : Int → zH → Prop} {a : Int} (k : K (-1) (zup (zup h 466 1 a) 466 2 (-1))) : zCi G d mX12_refused [vr 12 466, vi a] h K := eX12_refused (bX12_refused_0 k)
theorem sm_good {K : Int → zH → Prop} {a : Int} (k : K a (zup (zup h 466 1 0) 466 2 (-1))) : zCi G d mX12_good [vr 12 466, vi a] h K := eX12_good (bX12_good_0 k)
theorem sm_in {K : Bool → zH → Prop} {a b c : Int} (ha : zR a) (hb : zR b) (hc : zR c) (k : K (decide (b ≤ a ∧ a ≤ c)) h) : zCb G d mX12_in [vi a, vi b, vi c] h K := by
  refine eX12_in (bX12_in_0 ⟨ha, hb, fun q => ?_, fun q => ⟨ha, hc, fun q2 => ?_, fun q2 => ?_⟩⟩)
  · rwa [decide_eq_false (by omega)] at k
  · rwa [decide_eq_false (by omega)] at k
  · rwa [decide_eq_true (by omega)] at k
theorem sm_isMachine {K : Bool → zH → Prop} {a : Int} (ha : zR a) (hb : zR (h 466 64)) (k : K (decide (0 ≤ a ∧ a < h 466 64)) h) : zCb G d mX12_isMachine [vr 12 466, vi a] h K := by
  refine eX12_isMachine (bX12_isMachine_0 ⟨ha, fun q => ?_, fun q => ⟨ha, hb, fun q2 => ?_, fun q2 => ?_⟩⟩)
  · rwa [decide_eq_false (by omega)] at k
  · rwa [decide_eq_false (by omega)] at k
  · rwa [decide_eq_true (by omega)] at k
end SA
