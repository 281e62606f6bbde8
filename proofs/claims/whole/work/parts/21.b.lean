/-! ===== a cut more; amounts; bounds ===== -/
section SM
variable {G : zG} {d : Nat} {h : zH}
theorem sp_addCut {K : zH → Prop} {r x : Int} (h0 : 0 ≤ h r 1) (h1 : h r 1 < zln (r + 1)) (k : K (zup (zup h (r + 1) (h r 1) x) r 1 (h r 1 + 1))) : zCv G d mX3_addCut [vr 3 r, vi x] h K := by
  have hz := zR_zln (r + 1)
  have e : zup h (r + 1) (h r 1) x r 1 = h r 1 := by
    unfold zup
    rw [if_neg (by omega)]
  refine eX3_addCut (bX3_addCut_0 ⟨⟨by omega, by omega⟩, fun q => absurd q (by omega), fun _ => ⟨⟨h0, h1⟩, ?_⟩⟩)
  rw [e]
  exact k
/-- the letters of the first ranges -/
def cSum (c : Int → Int) : Nat → Int
  | 0 => 0
  | n + 1 => cSum c n + (c (2 * (n : Int) + 1) - c (2 * (n : Int)))
theorem sp_amount {K : Int → zH → Prop} {r : Int} (hr : lsOK h r) (k : K (cSum (fun i => h (r + 1) i) (h r 1 / 2).toNat) h) : zCi G d mX3_amount [vr 3 r] h K := by
  obtain ⟨hc, hl⟩ := hr
  have hz := zR_zln (r + 1)
  have hn := hc.1
  have he := hc.2.1
  have go : ∀ (f m : Nat), (m : Int) + f = h r 1 / 2 → tX3_amount_4 G d K r (cSum (fun i => h (r + 1) i) m) (2 * (m : Int)) h := by
    intro f
    induction f with
    | zero =>
      intro m hm
      refine bX3_amount_4 ⟨⟨by omega, by omega⟩, ⟨by omega, by omega⟩, fun _ => ?_, fun q => absurd q (by omega)⟩
      have e : (h r 1 / 2).toNat = m := by omega
      rw [e] at k
      exact k
    | succ f ih =>
      intro m hm
      refine bX3_amount_4 ⟨⟨by omega, by omega⟩, ⟨by omega, by omega⟩, fun q => absurd q (by omega), fun q => ⟨⟨by omega, by omega⟩, ⟨by omega, by omega⟩, ?_⟩⟩
      have := ih (m + 1) (by omega)
      have e2 : 2 * ((m + 1 : Nat) : Int) = 2 * (m : Int) + 2 := by omega
      rw [e2] at this
      exact this
  exact eX3_amount (bX3_amount_0 (go (h r 1 / 2).toNat 0 (by omega)))
theorem sp_bound {K : Int → zH → Prop} {r i : Int} {b : Bool} (hr : lsOK h r) (hi : 0 ≤ i ∧ i < h r 1 / 2) (k : K (if b then h (r + 1) (2 * i + 1) - 1 else h (r + 1) (2 * i)) h) : zCi G (d + 1) mX3_bound [vr 3 r, vi i, vi (bi b)] h K := by
  obtain ⟨hc, hl⟩ := hr
  have hz := zR_zln (r + 1)
  have he := hc.2.1
  refine eX3_bound (bX3_bound_0 ⟨fun q => ?_, fun q => ?_⟩)
  · subst q
    refine sp_isIn ⟨by omega, by omega⟩ ⟨by omega, by omega⟩ ⟨fun q => ⟨fun _ => ⟨⟨by omega, by omega⟩, k⟩, fun z => (by cases z)⟩, fun q => absurd (of_decide_eq_false q) (by omega)⟩
  · subst q
    refine sp_isIn ⟨by omega, by omega⟩ ⟨by omega, by omega⟩ ⟨fun q => ⟨fun z => (by cases z), fun _ => ⟨⟨by omega, by omega⟩, k⟩⟩, fun q => absurd (of_decide_eq_false q) (by omega)⟩
end SM
