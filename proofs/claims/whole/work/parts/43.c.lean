/-! ===== lines of a machine ===== -/
section LP
variable {K Sp V : Int → Int} {m i : Int} {s : St}
theorem lnE_ok (tk : TK K V m) (i0 : 0 ≤ i ∧ i + 1 < m) (i2 : K (i + 1) = 3 → i + 2 < m) (o : sOK s) (h : (lnE K Sp V i s).1 = 0) : sOK (lnE K Sp V i s).2.2.2 ∧ s.2.1 = true ∧ ¬ 24 ≤ (s.2.2.2.2.2.1.length : Int) ∧ (stt K Sp V s.2.2.2.1 (i + 1)).1 = 0 ∧ (stt K Sp V s.2.2.2.1 (i + 2)).1 = 0 ∧ (bd2 K Sp V s.1 (i + 3)).1 = 0 ∧ lnE K Sp V i s = (0, 0, (bd2 K Sp V s.1 (i + 3)).2.2.1, (s.1, true, s.2.2.1, (s.2.2.2.1, s.2.2.2.2.1, s.2.2.2.2.2.1 ++ [(V (i + 1), V (i + 2), (bd2 K Sp V s.1 (i + 3)).2.2.2)], s.2.2.2.2.2.2))) := by
  unfold lnE at h ⊢
  by_cases c1 : s.2.1 = false
  · rw [if_pos c1] at h
    exact absurd h (show ¬ (7 : Int) = 0 by decide)
  rw [if_neg c1] at h ⊢
  by_cases c2 : 24 ≤ (s.2.2.2.2.2.1.length : Int)
  · rw [if_pos c2] at h
    exact absurd h (show ¬ (5 : Int) = 0 by decide)
  rw [if_neg c2] at h ⊢
  by_cases c3 : (stt K Sp V s.2.2.2.1 (i + 1)).1 = 0
  rotate_left
  · rw [if_pos c3] at h
    exact absurd h c3
  rw [if_neg (show ¬ ¬ _ from fun z => z c3)] at h ⊢
  by_cases c4 : (stt K Sp V s.2.2.2.1 (i + 2)).1 = 0
  rotate_left
  · rw [if_pos c4] at h
    exact absurd h c4
  rw [if_neg (show ¬ ¬ _ from fun z => z c4)] at h ⊢
  by_cases c5 : (bd2 K Sp V s.1 (i + 3)).1 = 0
  rotate_left
  · rw [if_pos c5] at h
    exact absurd h c5
  rw [if_neg (show ¬ ¬ _ from fun z => z c5)]
  have bt : s.2.1 = true := by cases q : s.2.1 <;> first | rfl | exact absurd q c1
  obtain ⟨p1, lo, p3, p4, p5⟩ := o.2.2.2.2 bt
  have s1 := stt_0 c3
  have s2 := stt_0 c4
  have v1 := ln_V tk (show 0 ≤ i + 1 by omega) i0.2 s1.1
  have v2 := ln_V tk (show 0 ≤ i + 2 by omega) (i2 s1.1) s2.1
  refine ⟨⟨o.1, fun z => (by cases z), o.2.2.1, o.2.2.2.1, fun _ => ⟨p1, ⟨lo.1, lo.2.1, mem_ap lo.2.2.1 ⟨⟨v1.1, s1.2⟩, ⟨v2.1, s2.2⟩⟩, lo.2.2.2⟩, ?_, p4, mem_ap p5 (bd2_rc c5).1⟩⟩, bt, c2, c3, c4, c5, rfl⟩
  show ((s.2.2.2.2.2.1 ++ [_]).length : Int) ≤ 24
  rw [len_1]
  omega
theorem lnR_ok (tk : TK K V m) (i0 : 0 ≤ i ∧ i + 1 < m) (i2 : K (i + 1) = 3 → i + 2 < m) (o : sOK s) (h : (lnR K Sp V i s).1 = 0) : sOK (lnR K Sp V i s).2.2.2 ∧ s.2.1 = true ∧ ¬ 8 ≤ (s.2.2.2.2.2.2.length : Int) ∧ (stt K Sp V s.2.2.2.1 (i + 1)).1 = 0 ∧ (stt K Sp V s.2.2.2.1 (i + 2)).1 = 0 ∧ lnR K Sp V i s = (0, 0, i + 3, (s.1, true, s.2.2.1, (s.2.2.2.1, s.2.2.2.2.1, s.2.2.2.2.2.1, s.2.2.2.2.2.2 ++ [(V (i + 1), V (i + 2))]))) := by
  unfold lnR at h ⊢
  by_cases c1 : s.2.1 = false
  · rw [if_pos c1] at h
    exact absurd h (show ¬ (7 : Int) = 0 by decide)
  rw [if_neg c1] at h ⊢
  by_cases c2 : 8 ≤ (s.2.2.2.2.2.2.length : Int)
  · rw [if_pos c2] at h
    exact absurd h (show ¬ (5 : Int) = 0 by decide)
  rw [if_neg c2] at h ⊢
  by_cases c3 : (stt K Sp V s.2.2.2.1 (i + 1)).1 = 0
  rotate_left
  · rw [if_pos c3] at h
    exact absurd h c3
  rw [if_neg (show ¬ ¬ _ from fun z => z c3)] at h ⊢
  by_cases c4 : (stt K Sp V s.2.2.2.1 (i + 2)).1 = 0
  rotate_left
  · rw [if_pos c4] at h
    exact absurd h c4
  rw [if_neg (show ¬ ¬ _ from fun z => z c4)]
  have bt : s.2.1 = true := by cases q : s.2.1 <;> first | rfl | exact absurd q c1
  obtain ⟨p1, lo, p3, p4, p5⟩ := o.2.2.2.2 bt
  have s1 := stt_0 c3
  have s2 := stt_0 c4
  have v1 := ln_V tk (show 0 ≤ i + 1 by omega) i0.2 s1.1
  have v2 := ln_V tk (show 0 ≤ i + 2 by omega) (i2 s1.1) s2.1
  refine ⟨⟨o.1, fun z => (by cases z), o.2.2.1, o.2.2.2.1, fun _ => ⟨p1, ⟨lo.1, lo.2.1, lo.2.2.1, mem_ap lo.2.2.2 ⟨⟨v1.1, s1.2⟩, ⟨v2.1, s2.2⟩⟩⟩, p3, ?_, p5⟩⟩, bt, c2, c3, c4, rfl⟩
  show ((s.2.2.2.2.2.2 ++ [_]).length : Int) ≤ 8
  rw [len_1]
  omega
theorem lnD_ok (tk : TK K V m) (i0 : 0 ≤ i ∧ i + 1 < m) (o : sOK s) (h : (lnD K Sp V i s).1 = 0) : sOK (lnD K Sp V i s).2.2.2 ∧ s.2.1 = true ∧ (stt K Sp V s.2.2.2.1 (i + 1)).1 = 0 ∧ tb s.2.2.2.2.1 (V (i + 1)) = false ∧ lnD K Sp V i s = (0, 0, i + 2, (s.1, true, s.2.2.1, (s.2.2.2.1, zlor s.2.2.2.2.1 (zlshl 1 (V (i + 1))), s.2.2.2.2.2.1, s.2.2.2.2.2.2))) := by
  unfold lnD at h ⊢
  by_cases c1 : s.2.1 = false
  · rw [if_pos c1] at h
    exact absurd h (show ¬ (7 : Int) = 0 by decide)
  rw [if_neg c1] at h ⊢
  by_cases c3 : (stt K Sp V s.2.2.2.1 (i + 1)).1 = 0
  rotate_left
  · rw [if_pos c3] at h
    exact absurd h c3
  rw [if_neg (show ¬ ¬ _ from fun z => z c3)] at h ⊢
  by_cases c4 : tb s.2.2.2.2.1 (V (i + 1)) = true
  · rw [if_pos c4] at h
    exact absurd h (show ¬ (3 : Int) = 0 by decide)
  rw [if_neg c4]
  have bt : s.2.1 = true := by cases q : s.2.1 <;> first | rfl | exact absurd q c1
  obtain ⟨p1, lo, p3, p4, p5⟩ := o.2.2.2.2 bt
  have s1 := stt_0 c3
  have v1 := ln_V tk (show 0 ≤ i + 1 by omega) i0.2 s1.1
  refine ⟨⟨o.1, fun z => (by cases z), o.2.2.1, o.2.2.2.1, fun _ => ⟨p1, ⟨lo.1, ⟨zlor_R _ _, fun k k0 k1 => ?_⟩, lo.2.2.1, lo.2.2.2⟩, p3, p4, p5⟩⟩, bt, c3, by cases q : tb s.2.2.2.2.1 (V (i + 1)) <;> first | rfl | exact absurd q c4, rfl⟩
  have k0 : s.2.2.2.1 ≤ k := k0
  rw [tb_or1 (by omega) (by omega), decide_eq_false (by omega), Bool.false_or]
  exact lo.2.1.2 k k0 k1
end LP
