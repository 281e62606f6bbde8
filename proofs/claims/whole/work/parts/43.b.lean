/-! ===== lines ===== -/
abbrev St : Type := List nsT × Bool × List M4 × M4
abbrev Lr : Type := Int × Int × Int × St
def dM4 : M4 := (0, 0, [], [])
def gM (O : List M4) (j : Int) : M4 := O.getD j.toNat dM4
def lnF (n s : Int) : Lr := (n, s, 0, ([], false, [], dM4))
def cnt (s : St) : Int := if s.2.1 = true then s.2.2.1.length + 1 else 0
def nO (s : St) : List M4 := if s.2.1 = true then s.2.2.1 ++ [s.2.2.2] else s.2.2.1
noncomputable def rcB (S : Int → Bool) : Bool := @decide (rcn S 24) (Classical.propDecidable _)
theorem rcB_t {S : Int → Bool} : rcB S = true ↔ rcn S 24 := @decide_eq_true_iff _ (Classical.propDecidable _)
/-- a body with at most 24 ranges -/
noncomputable def bd2 (K Sp V : Int → Int) (L : List nsT) (i : Int) : Rs := if ¬ (bod K Sp V L 902 i 0).1 = 0 then bod K Sp V L 902 i 0 else if rcB (bod K Sp V L 902 i 0).2.2.2 = false then rF 5 (Sp i) else bod K Sp V L 902 i 0
/-- a state's token -/
def stt (K Sp V : Int → Int) (n j : Int) : Int × Int := if ¬ K j = 3 then (1, Sp j) else if n ≤ V j then (2, Sp j) else (0, 0)
noncomputable def lnS (K Sp V : Int → Int) (i : Int) (s : St) : Lr := if 12 ≤ (s.1.length : Int) then lnF 5 (Sp i) else if ¬ K (i + 1) = 2 then lnF 1 (Sp (i + 1)) else if (lkp s.1 (V (i + 1))).isSome = true then lnF 3 (Sp (i + 1)) else if ¬ (bd2 K Sp V s.1 (i + 2)).1 = 0 then lnF (bd2 K Sp V s.1 (i + 2)).1 (bd2 K Sp V s.1 (i + 2)).2.1 else (0, 0, (bd2 K Sp V s.1 (i + 2)).2.2.1, (s.1 ++ [(V (i + 1), (bd2 K Sp V s.1 (i + 2)).2.2.2)], s.2))
def lnM (K Sp V : Int → Int) (i : Int) (s : St) : Lr := if 4 ≤ cnt s then lnF 5 (Sp i) else if ¬ K (i + 1) = 3 then lnF 1 (Sp (i + 1)) else if V (i + 1) < 1 ∨ 12 < V (i + 1) then lnF 4 (Sp (i + 1)) else (0, 0, i + 2, (s.1, true, nO s, (V (i + 1), 0, [], [])))
noncomputable def lnE (K Sp V : Int → Int) (i : Int) (s : St) : Lr := if s.2.1 = false then lnF 7 (Sp i) else if 24 ≤ (s.2.2.2.2.2.1.length : Int) then lnF 5 (Sp i) else if ¬ (stt K Sp V s.2.2.2.1 (i + 1)).1 = 0 then lnF (stt K Sp V s.2.2.2.1 (i + 1)).1 (stt K Sp V s.2.2.2.1 (i + 1)).2 else if ¬ (stt K Sp V s.2.2.2.1 (i + 2)).1 = 0 then lnF (stt K Sp V s.2.2.2.1 (i + 2)).1 (stt K Sp V s.2.2.2.1 (i + 2)).2 else if ¬ (bd2 K Sp V s.1 (i + 3)).1 = 0 then lnF (bd2 K Sp V s.1 (i + 3)).1 (bd2 K Sp V s.1 (i + 3)).2.1 else (0, 0, (bd2 K Sp V s.1 (i + 3)).2.2.1, (s.1, true, s.2.2.1, (s.2.2.2.1, s.2.2.2.2.1, s.2.2.2.2.2.1 ++ [(V (i + 1), V (i + 2), (bd2 K Sp V s.1 (i + 3)).2.2.2)], s.2.2.2.2.2.2)))
def lnR (K Sp V : Int → Int) (i : Int) (s : St) : Lr := if s.2.1 = false then lnF 7 (Sp i) else if 8 ≤ (s.2.2.2.2.2.2.length : Int) then lnF 5 (Sp i) else if ¬ (stt K Sp V s.2.2.2.1 (i + 1)).1 = 0 then lnF (stt K Sp V s.2.2.2.1 (i + 1)).1 (stt K Sp V s.2.2.2.1 (i + 1)).2 else if ¬ (stt K Sp V s.2.2.2.1 (i + 2)).1 = 0 then lnF (stt K Sp V s.2.2.2.1 (i + 2)).1 (stt K Sp V s.2.2.2.1 (i + 2)).2 else (0, 0, i + 3, (s.1, true, s.2.2.1, (s.2.2.2.1, s.2.2.2.2.1, s.2.2.2.2.2.1, s.2.2.2.2.2.2 ++ [(V (i + 1), V (i + 2))])))
noncomputable def lnD (K Sp V : Int → Int) (i : Int) (s : St) : Lr := if s.2.1 = false then lnF 7 (Sp i) else if ¬ (stt K Sp V s.2.2.2.1 (i + 1)).1 = 0 then lnF (stt K Sp V s.2.2.2.1 (i + 1)).1 (stt K Sp V s.2.2.2.1 (i + 1)).2 else if tb s.2.2.2.2.1 (V (i + 1)) = true then lnF 3 (Sp (i + 1)) else (0, 0, i + 2, (s.1, true, s.2.2.1, (s.2.2.2.1, zlor s.2.2.2.2.1 (zlshl 1 (V (i + 1))), s.2.2.2.2.2.1, s.2.2.2.2.2.2)))
noncomputable def ln (K Sp V : Int → Int) (i : Int) (s : St) : Lr := if K i = 5 then lnS K Sp V i s else if K i = 6 then lnM K Sp V i s else if K i = 7 then lnE K Sp V i s else if K i = 8 then lnR K Sp V i s else if K i = 9 then lnD K Sp V i s else lnF 1 (Sp i)
noncomputable def lns (K Sp V : Int → Int) : Nat → Int → St → Lr
  | 0, _, _ => lnF 99 0
  | f + 1, i, s => if ¬ (ln K Sp V i s).1 = 0 then lnF (ln K Sp V i s).1 (ln K Sp V i s).2.1 else if K (ln K Sp V i s).2.2.1 = 59 then lns K Sp V f ((ln K Sp V i s).2.2.1 + 1) (ln K Sp V i s).2.2.2 else if ¬ K (ln K Sp V i s).2.2.1 = 0 then lnF 1 (Sp (ln K Sp V i s).2.2.1) else if (ln K Sp V i s).2.2.2.2.1 = false then lnF 7 (Sp (ln K Sp V i s).2.2.1) else ln K Sp V i s
/-- what a state of reading keeps -/
def sOK (s : St) : Prop := ((s.1.length : Int) ≤ 12 ∧ ∀ x ∈ s.1, (0 ≤ x.1 ∧ x.1 ≤ 34359738368) ∧ rcn x.2 24) ∧ (s.2.1 = false → s.2.2.1 = []) ∧ ((s.2.2.1.length : Int) ≤ 3) ∧ (∀ x ∈ s.2.2.1, pOK x) ∧ (s.2.1 = true → pOK s.2.2.2)
theorem bd2_rc {K Sp V : Int → Int} {L : List nsT} {i : Int} (h : (bd2 K Sp V L i).1 = 0) : rcn (bd2 K Sp V L i).2.2.2 24 ∧ bd2 K Sp V L i = bod K Sp V L 902 i 0 := by
  unfold bd2 at h ⊢
  by_cases c : (bod K Sp V L 902 i 0).1 = 0
  · rw [if_neg (show ¬ ¬ _ from fun z => z c)] at h ⊢
    by_cases e : rcB (bod K Sp V L 902 i 0).2.2.2 = false
    · rw [if_pos e] at h
      exact absurd h (show ¬ (5 : Int) = 0 by decide)
    · rw [if_neg e]
      exact ⟨rcB_t.mp (by cases q : rcB (bod K Sp V L 902 i 0).2.2.2 <;> first | rfl | exact absurd q e), rfl⟩
  · rw [if_pos c] at h
    exact absurd h c
theorem stt_0 {K Sp V : Int → Int} {n j : Int} (h : (stt K Sp V n j).1 = 0) : K j = 3 ∧ V j < n := by
  unfold stt at h
  by_cases c : K j = 3
  · rw [if_neg (show ¬ ¬ _ from fun z => z c)] at h
    by_cases e : n ≤ V j
    · rw [if_pos e] at h
      exact absurd h (show ¬ (2 : Int) = 0 by decide)
    · exact ⟨c, by omega⟩
  · rw [if_pos c] at h
    exact absurd h (show ¬ (1 : Int) = 0 by decide)
section LN
variable {K Sp V : Int → Int} {m i : Int} {s : St}
theorem ln_V (tk : TK K V m) {j : Int} (j0 : 0 ≤ j) (jm : j < m) (k3 : K j = 3) : 0 ≤ V j ∧ V j < 100000 := (tk.2 j j0 jm).2.1 k3
theorem mem_ap {α : Type} {P : α → Prop} {L : List α} {x : α} (h : ∀ y ∈ L, P y) (hx : P x) : ∀ y ∈ L ++ [x], P y := fun y hy => by
  rcases List.mem_append.mp hy with q | q
  · exact h y q
  · rw [List.mem_singleton.mp q]
    exact hx
theorem lnS_ok (tk : TK K V m) (i0 : 0 ≤ i ∧ i + 1 < m) (o : sOK s) (h : (lnS K Sp V i s).1 = 0) : sOK (lnS K Sp V i s).2.2.2 ∧ (¬ 12 ≤ (s.1.length : Int)) ∧ K (i + 1) = 2 ∧ (bd2 K Sp V s.1 (i + 2)).1 = 0 ∧ lnS K Sp V i s = (0, 0, (bd2 K Sp V s.1 (i + 2)).2.2.1, (s.1 ++ [(V (i + 1), (bd2 K Sp V s.1 (i + 2)).2.2.2)], s.2)) := by
  unfold lnS at h ⊢
  by_cases c1 : 12 ≤ (s.1.length : Int)
  · rw [if_pos c1] at h
    exact absurd h (show ¬ (5 : Int) = 0 by decide)
  rw [if_neg c1] at h ⊢
  by_cases c2 : K (i + 1) = 2
  rotate_left
  · rw [if_pos c2] at h
    exact absurd h (show ¬ (1 : Int) = 0 by decide)
  rw [if_neg (show ¬ ¬ _ from fun z => z c2)] at h ⊢
  by_cases c3 : (lkp s.1 (V (i + 1))).isSome = true
  · rw [if_pos c3] at h
    exact absurd h (show ¬ (3 : Int) = 0 by decide)
  rw [if_neg c3] at h ⊢
  by_cases c4 : (bd2 K Sp V s.1 (i + 2)).1 = 0
  rotate_left
  · rw [if_pos c4] at h
    exact absurd h c4
  rw [if_neg (show ¬ ¬ _ from fun z => z c4)]
  refine ⟨⟨⟨?_, mem_ap o.1.2 ⟨?_, (bd2_rc c4).1⟩⟩, o.2⟩, c1, c2, c4, rfl⟩
  · show ((s.1 ++ [_]).length : Int) ≤ 12
    rw [len_1]
    omega
  · exact (tk.2 (i + 1) (by omega) i0.2).2.2.1 c2
theorem lnM_ok (tk : TK K V m) (i0 : 0 ≤ i ∧ i + 1 < m) (o : sOK s) (h : (lnM K Sp V i s).1 = 0) : sOK (lnM K Sp V i s).2.2.2 ∧ cnt s < 4 ∧ K (i + 1) = 3 ∧ (1 ≤ V (i + 1) ∧ V (i + 1) ≤ 12) ∧ lnM K Sp V i s = (0, 0, i + 2, (s.1, true, nO s, (V (i + 1), 0, [], []))) := by
  unfold lnM at h ⊢
  by_cases c1 : 4 ≤ cnt s
  · rw [if_pos c1] at h
    exact absurd h (show ¬ (5 : Int) = 0 by decide)
  rw [if_neg c1] at h ⊢
  by_cases c2 : K (i + 1) = 3
  rotate_left
  · rw [if_pos c2] at h
    exact absurd h (show ¬ (1 : Int) = 0 by decide)
  rw [if_neg (show ¬ ¬ _ from fun z => z c2)] at h ⊢
  by_cases c3 : V (i + 1) < 1 ∨ 12 < V (i + 1)
  · rw [if_pos c3] at h
    exact absurd h (show ¬ (4 : Int) = 0 by decide)
  rw [if_neg c3]
  refine ⟨⟨o.1, fun z => (by cases z), ?_, ?_, fun _ => ⟨by show 1 ≤ V (i + 1) ∧ V (i + 1) ≤ 12; omega, ⟨by show 1 ≤ V (i + 1); omega, ⟨⟨by show -9223372036854775808 ≤ (0 : Int); decide, by show (0 : Int) < 9223372036854775808; decide⟩, fun k _ k1 => tb_0 k⟩, fun x hx => absurd hx List.not_mem_nil, fun x hx => absurd hx List.not_mem_nil⟩, by show ((0 : Nat) : Int) ≤ 24; decide, by show ((0 : Nat) : Int) ≤ 8; decide, fun x hx => absurd hx List.not_mem_nil⟩⟩, by omega, c2, by omega, rfl⟩
  · show ((nO s).length : Int) ≤ 3
    unfold cnt at c1
    unfold nO
    by_cases b : s.2.1 = true
    · rw [if_pos b] at c1 ⊢
      rw [len_1]
      omega
    · rw [if_neg b]
      exact o.2.2.1
  · show ∀ x ∈ nO s, pOK x
    unfold nO
    by_cases b : s.2.1 = true
    · rw [if_pos b]
      exact mem_ap o.2.2.2.1 (o.2.2.2.2 b)
    · rw [if_neg b]
      exact o.2.2.2.1
end LN
