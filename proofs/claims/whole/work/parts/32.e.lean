/-! ===== foundLetter, same, within ===== -/
section PO
variable {G : zG} {d : Nat} {h : zH}
theorem c_foundLetter {a b f i : Int} (hI : Inv h) (ha : zR a) (hb : zR b) (hf : zR f) (hi : zR i) : twI G (d + 7) mX11_foundLetter mX12_foundLetter [vi a, vi b, vi f, vi i] h := by
  refine eX11_foundLetter (bX11_foundLetter_0 (q_whyNoPair hI ha hb hf (fun q1 q2 q3 => ⟨⟨by decide, by decide⟩, fun _ => ?_, fun z => absurd rfl z⟩) (fun q => ⟨⟨by decide, by decide⟩, fun z => absurd z (by decide), fun _ => sp_refused (eX12_foundLetter (bX12_foundLetter_0 (q_refusesTwo hI (bK_w (fun _ _ => rfl) rfl) ha hb hf (fun z1 z2 _ => absurd ⟨z1, z2⟩ q) (fun _ => ⟨⟨by decide, by decide⟩, fun z => absurd z (by decide), fun _ => sm_refused ⟨zR_m1, rfl, Inv_k hI (by omega) (fun _ _ => rfl) rfl rfl (mK_refl _)⟩⟩) (fun z1 z2 _ => absurd ⟨z1, z2⟩ q))))⟩) (fun q1 q2 q3 => ⟨⟨by decide, by decide⟩, fun z => absurd z (by decide), fun _ => sp_refused (eX12_foundLetter (bX12_foundLetter_0 (q_refusesTwo hI (bK_w (fun _ _ => rfl) rfl) ha hb hf (fun _ _ z => absurd z q3) (fun z => absurd ⟨q1, q2⟩ z) (fun _ _ _ => ⟨⟨by decide, by decide⟩, fun z => absurd z (by decide), fun _ => sm_refused ⟨zR_m1, rfl, Inv_k hI (by omega) (fun _ _ => rfl) rfl rfl (mK_refl _)⟩⟩))))⟩)))
  obtain ⟨a10, -, -, -, -, o4⟩ := iM_d hI q1.1 q1.2
  obtain ⟨b10, -, -, -, -, u4⟩ := iM_d hI q2.1 q2.2
  have pn := pP_n (pth_p o4)
  have qn := pP_n (pth_p u4)
  have no : ∀ h2 : zH, (∀ a, kp a → h2 a = h a) → h2 0 = h 0 → h2 466 = h 466 → zCi G (d + 6) mX12_finds [vr 12 466, vi a, vi b, vi f] (zup (zup h2 0 14 1) 466 0 0) (fun x3 h4 => zR x3 ∧ (x3 = -1 → zCi G (d + 6) mX12_refused [vr 12 466, vi 1] h4 (fun x5 h6 => zR (-1) ∧ -1 = x5 ∧ Inv h6)) ∧ (¬ x3 = -1 → zR i ∧ (0 ≤ i → zCi G (d + 6) mX12_pairLength [vr 12 466, vi x3] h4 (fun x7 h8 => zR i ∧ zR x7 ∧ (i < x7 → tX12_foundLetter_79 G (d + 6) (fun x5 h6 => zR (-1) ∧ -1 = x5 ∧ Inv h6) i x3 (x7 - 1) h8) ∧ (¬ i < x7 → zCi G (d + 6) mX12_refused [vr 12 466, vi 1] h8 (fun x5 h6 => zR (-1) ∧ -1 = x5 ∧ Inv h6)))) ∧ (¬ 0 ≤ i → zCi G (d + 6) mX12_refused [vr 12 466, vi 1] h4 (fun x5 h6 => zR (-1) ∧ -1 = x5 ∧ Inv h6)))) → zCi G (d + 7) mX12_foundLetter [vr 12 466, vi a, vi b, vi f, vi i] (zup h2 0 14 1) (fun y h4 => zR (-1) ∧ -1 = y ∧ Inv h4) := fun h2 e1 e2 e3 r => eX12_foundLetter (bX12_foundLetter_0 (q_refusesTwo hI (bK_w e1 e3) ha hb hf (fun _ _ _ => ⟨⟨by decide, by decide⟩, fun _ => r, fun z => absurd z (by decide)⟩) (fun z => absurd ⟨q1, q2⟩ z) (fun _ _ z => absurd q3 z)))
  refine ⟨a10, b10, q_firstOf hI q1 q2 (fun h2 j w e1 e2 e3 jc pb j0 j1 j2 hw ho => ⟨⟨by omega, by omega⟩, fun z => absurd j0 (by omega), fun _ => ⟨by omega, ?_⟩⟩) (fun h2 e1 e2 e3 jc hn => ⟨zR_m1, fun _ => sp_refused (no h2 e1 e2 e3 (q_finds hI (bK_w e1 e3) q1 q2 jc (Or.inr ⟨hn, fun h3 m => ⟨zR_m1, fun _ => sm_refused ⟨zR_m1, rfl, Inv_k hI (by omega) e1 e2 e3 m⟩, fun z => absurd rfl z⟩⟩))), fun z => absurd (by decide) z⟩)⟩
  have uu := pbf_U (by omega) pb
  have dl := (W_run pb j0 j1 hw).2.2.1
  have lj : (w.length : Int) ≤ 1600 := by
    have dl : ∀ (u : List Int) (t : Int), 0 ≤ t → t < h2 233 9 → isW (h2 237) (h2 238) t u → (u.length : Int) ≤ t := by
      intro u
      induction u with
      | nil => exact fun t t0 _ _ => t0
      | cons b v ih =>
        rintro t t0 t1 ⟨q0, q1, q2⟩
        have q := pb.2.2.2.2.1 t q0 t1
        have := ih (h2 237 t) q.1.1 (by omega) q2
        rw [List.length_cons]
        omega
    have := dl w j j0 j1 hw
    omega
  have n256 := jc.1.1
  refine sp_isIn hi (by rw [← dl]; exact ⟨by omega, by omega⟩) ⟨fun z => ?_, fun z => sp_refused (no h2 e1 e2 e3 ?_)⟩
  · have z := of_decide_eq_true z
    refine sp_letterOnWay (n := h2 4 11) n256.2 (by omega) pb ⟨j0, j1⟩ hw z (sp_granted (eX12_foundLetter (bX12_foundLetter_0 (q_refusesTwo hI (bK_w e1 e3) ha hb hf (fun _ _ _ => ⟨⟨by decide, by decide⟩, fun _ => ?_, fun z => absurd z (by decide)⟩) (fun z => absurd ⟨q1, q2⟩ z) (fun _ _ z => absurd q3 z)))))
    rw [← dl] at z
    have li := lw_in ho.1 z.1 z.2
    have sr := jc.1.2.2.1 _ li.1 li.2
    refine q_finds hI (bK_w e1 e3) q1 q2 jc (Or.inl ⟨w, ho, fun h3 k C1 C2 U f g Nu A B Vi De S' m hC pm lk eS k0 k1 k2 hw2 => ⟨⟨by omega, by omega⟩, fun z => absurd k0 (by omega), fun _ => ⟨hi, fun _ => sm_pairLength hC pm ⟨k0, k1⟩ hw2 ⟨hi, ⟨by omega, by omega⟩, fun _ => sm_found79 (S := S') hC pm lk ⟨k0, k1⟩ hw2 z hi ⟨⟨by omega, by omega⟩, eS _ li.1 li.2, Inv_k hI (by omega) e1 e2 e3 m⟩, fun y => absurd z.2 y⟩, fun y => absurd z.1 y⟩⟩⟩)
  · have z := of_decide_eq_false z
    rw [← dl] at z
    refine q_finds hI (bK_w e1 e3) q1 q2 jc (Or.inl ⟨w, ho, fun h3 k C1 C2 U f g Nu A B Vi De S' m hC pm lk eS k0 k1 k2 hw2 => ⟨⟨by omega, by omega⟩, fun z => absurd k0 (by omega), fun _ => ⟨hi, fun i0 => sm_pairLength hC pm ⟨k0, k1⟩ hw2 ⟨hi, ⟨by omega, by omega⟩, fun y => absurd ⟨i0, y⟩ z, fun y => sm_refused ⟨zR_m1, rfl, Inv_k hI (by omega) e1 e2 e3 m⟩⟩, fun y => sm_refused ⟨zR_m1, rfl, Inv_k hI (by omega) e1 e2 e3 m⟩⟩⟩⟩)
theorem c_same {a b : Int} (hI : Inv h) (ha : zR a) (hb : zR b) : twI G (d + 7) mX11_same mX12_same [vi a, vi b] h := by
  have no : ¬ ((0 ≤ a ∧ a < h 0 13) ∧ (0 ≤ b ∧ b < h 0 13)) → zCi G (d + 7) mX12_same [vr 12 466, vi a, vi b] (zup h 0 14 1) (fun y h4 => zR (-1) ∧ -1 = y ∧ Inv h4) := fun q => eX12_same (bX12_same_0 (q_machB hI (bK_w (fun _ _ => rfl) rfl) ha (fun z1 => ⟨fun z => (by cases z), fun _ => q_machB hI (bK_w (fun _ _ => rfl) rfl) hb (fun z2 => absurd ⟨z1, z2⟩ q) (fun _ => ⟨fun z => (by cases z), fun _ => sm_refused ⟨zR_m1, rfl, Inv_k hI (by omega) (fun _ _ => rfl) rfl rfl (mK_refl _)⟩⟩)⟩) (fun _ => ⟨fun _ => sm_refused ⟨zR_m1, rfl, Inv_k hI (by omega) (fun _ _ => rfl) rfl rfl (mK_refl _)⟩, fun z => (by cases z)⟩)))
  refine eX11_same (bX11_same_0 (q_mach hI ha (fun q1 => ⟨fun z => (by cases z), fun _ => q_mach hI hb (fun q2 => ⟨fun _ => ?_, fun z => (by cases z)⟩) (fun q2 => ⟨fun z => (by cases z), fun _ => sp_refused (no (fun z => q2 z.2))⟩)⟩) (fun q => ⟨fun _ => sp_refused (no (fun z => q z.1)), fun z => (by cases z)⟩)))
  obtain ⟨a10, -⟩ := iM_d hI q1.1 q1.2
  obtain ⟨b10, -⟩ := iM_d hI q2.1 q2.2
  refine ⟨a10, b10, q_firstOf hI q1 q2 (fun h2 j w e1 e2 e3 jc pb j0 j1 j2 hw ho => ⟨⟨by omega, by omega⟩, fun _ => sp_granted (eX12_same (bX12_same_0 (q_machB hI (bK_w e1 e3) ha (fun _ => ⟨fun z => (by cases z), fun _ => q_machB hI (bK_w e1 e3) hb (fun _ => ⟨fun _ => ?_, fun z => (by cases z)⟩) (fun z => absurd q2 z)⟩) (fun z => absurd q1 z)))), fun z => absurd j0 z⟩) (fun h2 e1 e2 e3 jc hn => ⟨zR_m1, fun z => absurd z (by decide), fun _ => sp_granted (eX12_same (bX12_same_0 (q_machB hI (bK_w e1 e3) ha (fun _ => ⟨fun z => (by cases z), fun _ => q_machB hI (bK_w e1 e3) hb (fun _ => ⟨fun _ => ?_, fun z => (by cases z)⟩) (fun z => absurd q2 z)⟩) (fun z => absurd q1 z))))⟩)⟩
  · exact q_finds hI (bK_w e1 e3) q1 q2 jc (Or.inl ⟨w, ho, fun h3 k C1 C2 U f g Nu A B Vi De S' m hC pm lk eS k0 k1 k2 hw2 => ⟨⟨by omega, by omega⟩, fun _ => sm_good ⟨⟨by decide, by decide⟩, rfl, Inv_k hI (by omega) e1 e2 e3 m⟩, fun z => absurd k0 (by omega)⟩⟩)
  · exact q_finds hI (bK_w e1 e3) q1 q2 jc (Or.inr ⟨hn, fun h3 m => ⟨zR_m1, fun z => absurd rfl z, fun _ => sm_good ⟨⟨by decide, by decide⟩, rfl, Inv_k hI (by omega) e1 e2 e3 m⟩⟩⟩)
theorem c_within {a b : Int} (hI : Inv h) (ha : zR a) (hb : zR b) : twI G (d + 7) mX11_within mX12_within [vi a, vi b] h := by
  have no : ¬ ((0 ≤ a ∧ a < h 0 13) ∧ (0 ≤ b ∧ b < h 0 13)) → zCi G (d + 7) mX12_within [vr 12 466, vi a, vi b] (zup h 0 14 1) (fun y h4 => zR (-1) ∧ -1 = y ∧ Inv h4) := fun q => eX12_within (bX12_within_0 (q_machB hI (bK_w (fun _ _ => rfl) rfl) ha (fun z1 => ⟨fun z => (by cases z), fun _ => q_machB hI (bK_w (fun _ _ => rfl) rfl) hb (fun z2 => absurd ⟨z1, z2⟩ q) (fun _ => ⟨fun z => (by cases z), fun _ => sm_refused ⟨zR_m1, rfl, Inv_k hI (by omega) (fun _ _ => rfl) rfl rfl (mK_refl _)⟩⟩)⟩) (fun _ => ⟨fun _ => sm_refused ⟨zR_m1, rfl, Inv_k hI (by omega) (fun _ _ => rfl) rfl rfl (mK_refl _)⟩, fun z => (by cases z)⟩)))
  refine eX11_within (bX11_within_0 (q_mach hI ha (fun q1 => ⟨fun z => (by cases z), fun _ => q_mach hI hb (fun q2 => ⟨fun _ => ?_, fun z => (by cases z)⟩) (fun q2 => ⟨fun z => (by cases z), fun _ => sp_refused (no (fun z => q2 z.2))⟩)⟩) (fun q => ⟨fun _ => sp_refused (no (fun z => q z.1)), fun z => (by cases z)⟩)))
  obtain ⟨a10, -⟩ := iM_d hI q1.1 q1.2
  obtain ⟨b10, -⟩ := iM_d hI q2.1 q2.2
  refine ⟨a10, b10, q_firstOf hI q1 q2 (fun h2 j w e1 e2 e3 jc pb j0 j1 j2 hw ho => ⟨⟨by omega, by omega⟩, fun _ => sp_granted (eX12_within (bX12_within_0 (q_machB hI (bK_w e1 e3) ha (fun _ => ⟨fun z => (by cases z), fun _ => q_machB hI (bK_w e1 e3) hb (fun _ => ⟨fun _ => ?_, fun z => (by cases z)⟩) (fun z => absurd q2 z)⟩) (fun z => absurd q1 z)))), fun z => absurd j0 z⟩) (fun h2 e1 e2 e3 jc hn => ⟨zR_m1, fun z => absurd z (by decide), fun _ => sp_granted (eX12_within (bX12_within_0 (q_machB hI (bK_w e1 e3) ha (fun _ => ⟨fun z => (by cases z), fun _ => q_machB hI (bK_w e1 e3) hb (fun _ => ⟨fun _ => ?_, fun z => (by cases z)⟩) (fun z => absurd q2 z)⟩) (fun z => absurd q1 z))))⟩)⟩
  · exact q_finds hI (bK_w e1 e3) q1 q2 jc (Or.inl ⟨w, ho, fun h3 k C1 C2 U f g Nu A B Vi De S' m hC pm lk eS k0 k1 k2 hw2 => ⟨⟨by omega, by omega⟩, fun _ => sm_good ⟨⟨by decide, by decide⟩, rfl, Inv_k hI (by omega) e1 e2 e3 m⟩, fun z => absurd k0 (by omega)⟩⟩)
  · exact q_finds hI (bK_w e1 e3) q1 q2 jc (Or.inr ⟨hn, fun h3 m => ⟨zR_m1, fun z => absurd rfl z, fun _ => sm_good ⟨⟨by decide, by decide⟩, rfl, Inv_k hI (by omega) e1 e2 e3 m⟩⟩⟩)
end PO
