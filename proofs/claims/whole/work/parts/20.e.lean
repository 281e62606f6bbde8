/-! ===== more, letter, drop ===== -/
section SH
variable {G : zG} {d : Nat} {h : zH}
theorem sp_more {K : Int → zH → Prop} {a : Int} (ha : zR a) (hw : 0 ≤ h 0 11 ∧ h 0 11 ≤ 16) (k1 : ¬ (0 ≤ a ∧ a < 65536) → K (-1) (zup h 0 14 2)) (k2 : 0 ≤ a ∧ a < 65536 → h 0 11 = 16 → K (-1) (zup h 0 14 3)) (k3 : 0 ≤ a ∧ a < 65536 → h 0 11 < 16 → K (h 0 11 + 1) (zup (zup (zup h 2 (h 0 11) a) 0 11 (h 0 11 + 1)) 0 14 0)) : zCi G (d + 1) mX11_more [vr 11 0, vi a] h K := by
  refine eX11_more (bX11_more_0 (sp_isIn ha ⟨by omega, by omega⟩ ⟨fun q => ?_, fun q => ?_⟩))
  · have q := of_decide_eq_true q
    exact ⟨⟨by omega, by omega⟩, fun z => ⟨⟨hw.1, z⟩, sp_granted (k3 q z)⟩, fun z => sp_refused (k2 q (by omega))⟩
  · exact sp_refused (k1 (of_decide_eq_false q))
theorem sm_isLetter {K : Bool → zH → Prop} {a : Int} (ha : zR a) (k : K (decide (0 ≤ a ∧ a ≤ 65535)) h) : zCb G (d + 1) mX12_isLetter [vi a] h K := eX12_isLetter (bX12_isLetter_0 (sm_in ha ⟨by omega, by omega⟩ ⟨by omega, by omega⟩ k))
theorem sm_more {K : Int → zH → Prop} {a : Int} (ha : zR a) (hw : 0 ≤ h 466 77 ∧ h 466 77 ≤ 16) (k1 : ¬ (0 ≤ a ∧ a < 65536) → K (-1) (zup (zup (zup h 466 0 0) 466 1 2) 466 2 (-1))) (k2 : 0 ≤ a ∧ a < 65536 → h 466 77 = 16 → K (-1) (zup (zup (zup h 466 0 0) 466 1 3) 466 2 (-1))) (k3 : 0 ≤ a ∧ a < 65536 → h 466 77 < 16 → K (h 466 77 + 1) (zup (zup (zup (zup (zup h 466 0 0) 514 (h 466 77) a) 466 77 (h 466 77 + 1)) 466 1 0) 466 2 (-1))) : zCi G (d + 2) mX12_more [vr 12 466, vi a] h K := by
  have ez : zup h 466 0 0 466 77 = h 466 77 := by unfold zup; rw [if_neg (by omega)]
  refine eX12_more (bX12_more_0 (sm_isLetter ha ⟨fun q => ?_, fun q => ?_⟩))
  · have q := of_decide_eq_true q
    rw [ez]
    exact ⟨⟨by omega, by omega⟩, fun z => ⟨⟨hw.1, by omega⟩, sm_good (k3 (by omega) (by omega))⟩, fun z => sm_refused (k2 (by omega) z)⟩
  · have q := of_decide_eq_false q
    exact sm_refused (k1 (by omega))
theorem sp_letter {K : Int → zH → Prop} {a : Int} (ha : zR a) (hw : 0 ≤ h 0 11 ∧ h 0 11 ≤ 16) (k1 : ¬ (0 ≤ a ∧ a < h 0 11) → K (-1) (zup h 0 14 1)) (k2 : 0 ≤ a ∧ a < h 0 11 → K (h 2 a) (zup h 0 14 0)) : zCi G (d + 1) mX11_letter [vr 11 0, vi a] h K := by
  refine eX11_letter (bX11_letter_0 (sp_isIn ha ⟨by omega, by omega⟩ ⟨fun q => ?_, fun q => ?_⟩))
  · have q := of_decide_eq_true q
    exact ⟨⟨q.1, by omega⟩, sp_granted (k2 q)⟩
  · exact sp_refused (k1 (of_decide_eq_false q))
theorem sm_letter {K : Int → zH → Prop} {a : Int} (ha : zR a) (hw : 0 ≤ h 466 77 ∧ h 466 77 ≤ 16) (k1 : ¬ (0 ≤ a ∧ a < h 466 77) → K (-1) (zup (zup (zup h 466 0 0) 466 1 1) 466 2 (-1))) (k2 : 0 ≤ a ∧ a < h 466 77 → K (h 514 a) (zup (zup (zup h 466 0 0) 466 1 0) 466 2 (-1))) : zCi G (d + 1) mX12_letter [vr 12 466, vi a] h K := by
  refine eX12_letter (bX12_letter_0 ⟨ha, fun q => sm_refused (k1 (by omega)), fun q => ⟨ha, ⟨by omega, by omega⟩, fun z => ⟨⟨by omega, by omega⟩, sm_good (k2 (by omega))⟩, fun z => sm_refused (k1 (by omega))⟩⟩)
theorem sp_drop {K : Int → zH → Prop} (h1 : zR (h 0 13)) (h2 : zR (h 0 12)) (k1 : h 0 12 < h 0 13 → K (h 0 13 - 1) (zup (zup h 0 13 (h 0 13 - 1)) 0 14 0)) (k2 : ¬ h 0 12 < h 0 13 → K (-1) (zup h 0 14 1)) : zCi G (d + 1) mX11_drop [vr 11 0] h K :=
  eX11_drop (bX11_drop_0 ⟨h1, h2, fun q => sp_granted (k1 q), fun q => sp_refused (k2 q)⟩)
theorem sm_drop {K : Int → zH → Prop} (h1 : zR (h 466 64)) (h2 : zR (h 466 65)) (k1 : ¬ h 466 64 = h 466 65 → K (h 466 64 - 1) (zup (zup (zup (zup h 466 0 0) 466 64 (h 466 64 - 1)) 466 1 0) 466 2 (-1))) (k2 : h 466 64 = h 466 65 → K (-1) (zup (zup (zup h 466 0 0) 466 1 1) 466 2 (-1))) : zCi G (d + 1) mX12_drop [vr 12 466] h K :=
  eX12_drop (bX12_drop_0 ⟨h1, h2, fun q => sm_good (k1 q), fun q => sm_refused (k2 q)⟩)
end SH
