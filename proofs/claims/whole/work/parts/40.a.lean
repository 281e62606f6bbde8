/-! ===== strings of the language ===== -/
theorem zsl_k : ∀ k < 7, zishr (zsl (k : Nat)) 0 = zsl (k : Nat) ∧ 0 ≤ zsl (k : Nat) ∧ zsl (k : Nat) ≤ 10 := by decide +kernel
theorem zsb_k : ∀ k < 7, ∀ i < 10, zi2c (ziand (zsb (k : Nat) (i : Nat)) 255) = zsb (k : Nat) (i : Nat) ∧ 0 ≤ zsb (k : Nat) (i : Nat) ∧ zsb (k : Nat) (i : Nat) < 128 := by decide +kernel
theorem narrow_c : ∀ x < 128, narrow .char (.int (Int32.ofInt (x : Nat))) = .int (Int32.ofInt (x : Nat)) := by decide +kernel
/-- the code of a word, by its first letters -/
def cdW (k : Int) : Nat → Int
  | 0 => 0
  | i + 1 => 32 * cdW k i + (zsb k i - 96)
def cd (k : Int) : Int := cdW k (zsl k).toNat
theorem cd_rg : ∀ k < 6, ∀ i < 8, 0 ≤ cdW (k : Nat) i + 4000000000 ∧ cdW (k : Nat) i < 40000000000 ∧ -40000000000 < cdW (k : Nat) i := by decide +kernel
section ST1
variable {G : zG} {d : Nat} {h : zH}
theorem sp_slen {K : Int → zH → Prop} {k : Nat} (hk : k < 7) (kk : K (zsl k) h) : zCi G (d + 1) mJ0_length_8abf5 [(40, (k : Int))] h K := by
  refine eJ0_length_8abf5 (bJ0_length_8abf5_0 (eJ0_coder_7d493 (bJ0_coder_7d493_0 ⟨by decide +kernel, ?_⟩)))
  rw [(zsl_k k hk).1]
  exact kk
theorem sp_schar {K : Int → zH → Prop} {k i : Nat} (hk : k < 7) (hi : (i : Int) < zsl k) (kk : K (zsb k i) h) : zCi G (d + 4) mJ0_charAt_5068e [(40, (k : Int)), vi i] h K := by
  have l := zsl_k k hk
  have b := zsb_k k hk i (by omega)
  have nb : narrow .char (.int (Int32.ofInt (zsb k i))) = .int (Int32.ofInt (zsb k i)) := by
    have := narrow_c (zsb k i).toNat (by omega)
    rwa [show (((zsb k i).toNat : Nat) : Int) = zsb k i by omega] at this
  refine eJ0_charAt_5068e (bJ0_charAt_5068e_0 (eJ0_isLatin1_aae02 (bJ0_isLatin1_aae02_0 ⟨fun z => (by cases z), fun _ => eJ1_charAt_3b067 (bJ1_charAt_3b067_0 (eJ0_checkIndex_df160 (bJ0_checkIndex_df160_0 (eJ3_checkIndex_8e157 (bJ3_checkIndex_8e157_0 ⟨⟨by omega, by omega⟩, fun z => absurd z (by omega), fun _ => ⟨⟨by omega, by omega⟩, ⟨by omega, by omega⟩, fun _ => ⟨by omega, ?_⟩, fun z => absurd hi z⟩⟩)))))⟩)))
  rw [b.1]
  exact ⟨nb, nb, kk⟩
theorem sp_codeOf {K : Int → zH → Prop} {k : Nat} (hk : k < 6) (kk : K (cd k) h) : zCl G (d + 5) mX10_codeOf [(40, (k : Int))] h K := by
  have l := zsl_k k (by omega)
  have l7 : zsl k ≤ 7 := by
    have : ∀ k < 6, zsl (k : Nat) ≤ 7 := by decide +kernel
    exact this k hk
  have go : ∀ (f i : Nat), (i : Int) + f = zsl k → tX10_codeOf_4 G (d + 4) K k (cdW k i) i h := by
    intro f
    induction f with
    | zero =>
      intro i e
      have ei : i = (zsl k).toNat := by omega
      refine bX10_codeOf_4 (sp_slen (d := d + 3) (by omega) ⟨⟨by omega, by omega⟩, ⟨by omega, by omega⟩, fun _ => ?_, fun z => absurd (by omega) z⟩)
      rw [ei]
      exact kk
    | succ f ih =>
      intro i e
      have b := zsb_k k (by omega) i (by omega)
      refine bX10_codeOf_4 (sp_slen (d := d + 3) (by omega) ⟨⟨by omega, by omega⟩, ⟨by omega, by omega⟩, fun z => absurd z (by omega), fun _ => sp_schar (by omega) (by omega) ⟨⟨by omega, by omega⟩, ?_⟩⟩)
      have := ih (i + 1) (by omega)
      rwa [show cdW k (i + 1) = cdW k i * 32 + zsb k i - 96 by show 32 * cdW k i + (zsb k i - 96) = _; omega, show ((i + 1 : Nat) : Int) = (i : Int) + 1 by omega] at this
  exact eX10_codeOf (bX10_codeOf_0 (go (zsl k).toNat 0 (by omega)))
theorem sm_packed {K : Int → zH → Prop} {k : Nat} (hk : k < 6) (kk : K (cd k) h) : zCl G (d + 5) mX12_packed [(40, (k : Int))] h K := by
  have l := zsl_k k (by omega)
  have l7 : zsl k ≤ 7 := by
    have : ∀ k < 6, zsl (k : Nat) ≤ 7 := by decide +kernel
    exact this k hk
  have go : ∀ (f i : Nat), (i : Int) + f = zsl k → tX12_packed_4 G (d + 4) K k (cdW k i) i h := by
    intro f
    induction f with
    | zero =>
      intro i e
      have ei : i = (zsl k).toNat := by omega
      refine bX12_packed_4 (sp_slen (d := d + 3) (by omega) ⟨⟨by omega, by omega⟩, ⟨by omega, by omega⟩, fun _ => ?_, fun z => absurd (by omega) z⟩)
      rw [ei]
      exact kk
    | succ f ih =>
      intro i e
      have b := zsb_k k (by omega) i (by omega)
      refine bX12_packed_4 (sp_slen (d := d + 3) (by omega) ⟨⟨by omega, by omega⟩, ⟨by omega, by omega⟩, fun z => absurd z (by omega), fun _ => sp_schar (by omega) (by omega) ⟨⟨by omega, by omega⟩, ?_⟩⟩)
      have := ih (i + 1) (by omega)
      rwa [show cdW k (i + 1) = 32 * cdW k i + (zsb k i - 96) from rfl, show ((i + 1 : Nat) : Int) = (i : Int) + 1 by omega] at this
  exact eX12_packed (bX12_packed_0 (go (zsl k).toNat 0 (by omega)))
/-- the signs -/
def isSg (x : Int) : Prop := x = 59 ∨ x = 124 ∨ x = 38 ∨ x = 45 ∨ x = 33 ∨ x = 40 ∨ x = 41 ∨ x = 91 ∨ x = 93 ∨ x = 44
theorem sg_k : zsl 6 = 10 ∧ zsb 6 0 = 59 ∧ zsb 6 1 = 124 ∧ zsb 6 2 = 38 ∧ zsb 6 3 = 45 ∧ zsb 6 4 = 33 ∧ zsb 6 5 = 40 ∧ zsb 6 6 = 41 ∧ zsb 6 7 = 91 ∧ zsb 6 8 = 93 ∧ zsb 6 9 = 44 := by decide +kernel
theorem sg_c : ∀ x < 128, zi2c (x : Nat) = (x : Nat) ∧ zi2b (x : Nat) = (x : Nat) := by decide +kernel
theorem sp_sindex {K : Int → zH → Prop} {x : Int} (hx : 0 < x ∧ x < 128) (k1 : isSg x → ∀ j, 0 ≤ j → j < 10 → K j h) (k2 : ¬ isSg x → K (-1) h) : zCi G (d + 4) mJ0_indexOf_0f7a4 [(40, 6), vi (zi2c x)] h K := by
  have ex := sg_c x.toNat (by omega)
  rw [show ((x.toNat : Nat) : Int) = x by omega] at ex
  obtain ⟨s0, s1, s2, s3, s4, s5, s6, s7, s8, s9, s10⟩ := sg_k
  rw [ex.1]
  have at_ : ∀ j, 0 ≤ j → j < 10 → zR (zsb 6 j) ∧ (zsb 6 j = x → isSg x) := fun j j0 j1 => by
    have c : j = 0 ∨ j = 1 ∨ j = 2 ∨ j = 3 ∨ j = 4 ∨ j = 5 ∨ j = 6 ∨ j = 7 ∨ j = 8 ∨ j = 9 := by omega
    unfold isSg
    rcases c with c | c | c | c | c | c | c | c | c | c <;> rw [c] <;> (first | rw [s1] | rw [s2] | rw [s3] | rw [s4] | rw [s5] | rw [s6] | rw [s7] | rw [s8] | rw [s9] | rw [s10]) <;> exact ⟨⟨by decide, by decide⟩, fun z => by omega⟩
  have go : ∀ (f : Nat) (j : Int), 0 ≤ j → j + f = 10 → (∀ i, 0 ≤ i → i < j → ¬ zsb 6 i = x) → tJ1_indexOfChar_4cfef_7 G (d + 1) K 6 10 x j h := by
    intro f
    induction f with
    | zero =>
      intro j j0 jf no
      refine bJ1_indexOfChar_4cfef_7 ⟨⟨by omega, by omega⟩, ⟨by omega, by omega⟩, fun _ => k2 (fun sg => ?_), fun z => absurd (by omega) z⟩
      rcases sg with w | w | w | w | w | w | w | w | w | w
      · exact no 0 (by omega) (by omega) (by rw [s1, w])
      · exact no 1 (by omega) (by omega) (by rw [s2, w])
      · exact no 2 (by omega) (by omega) (by rw [s3, w])
      · exact no 3 (by omega) (by omega) (by rw [s4, w])
      · exact no 4 (by omega) (by omega) (by rw [s5, w])
      · exact no 5 (by omega) (by omega) (by rw [s6, w])
      · exact no 6 (by omega) (by omega) (by rw [s7, w])
      · exact no 7 (by omega) (by omega) (by rw [s8, w])
      · exact no 8 (by omega) (by omega) (by rw [s9, w])
      · exact no 9 (by omega) (by omega) (by rw [s10, w])
    | succ f ih =>
      intro j j0 jf no
      obtain ⟨a1, a2⟩ := at_ j j0 (by omega)
      refine bJ1_indexOfChar_4cfef_7 ⟨⟨by omega, by omega⟩, ⟨by omega, by omega⟩, fun z => absurd z (by omega), fun _ => ⟨by rw [s0]; omega, a1, ⟨by omega, by omega⟩, fun ne => ih (j + 1) (by omega) (by omega) (fun i i0 i1 => ?_), fun eq => k1 (a2 eq) j j0 (by omega)⟩⟩
      by_cases w : i = j
      · rw [w]
        exact ne
      · exact no i i0 (by omega)
  refine eJ0_indexOf_0f7a4 (bJ0_indexOf_0f7a4_0 (eJ0_indexOf_7cf53 (bJ0_indexOf_7cf53_0 (eJ0_isLatin1_aae02 (bJ0_isLatin1_aae02_0 ⟨fun z => (by cases z), fun _ => sp_slen (k := 6) (d := d + 1) (by decide) (eJ1_indexOf_4cfef (bJ1_indexOf_4cfef_0 (eJ1_canEncode_9a6ad (bJ1_canEncode_9a6ad_0 ⟨⟨by omega, by omega⟩, fun z => absurd z (by omega), fun _ => ⟨⟨by omega, by omega⟩, fun z => absurd z (by omega), fun _ => ⟨fun _ => ?_, fun z => (by cases z)⟩⟩⟩))))⟩)))))
  show zR 0 ∧ zR (zsl 6) ∧ zR (zsl 6) ∧ zR (max 0 0) ∧ zR (min (zsl 6) (zsl 6)) ∧ _
  rw [s0]
  refine ⟨⟨by decide, by decide⟩, ⟨by decide, by decide⟩, ⟨by decide, by decide⟩, ⟨by decide, by decide⟩, ⟨by decide, by decide⟩, fun _ => eJ1_indexOfChar_4cfef (bJ1_indexOfChar_4cfef_0 ?_), fun z => absurd (by decide) z⟩
  rw [ex.2]
  show tJ1_indexOfChar_4cfef_7 G (d + 1) K 6 10 x 0 h
  exact go 10 0 (by omega) (by omega) (fun i i0 i1 => absurd i1 (by omega))
end ST1
