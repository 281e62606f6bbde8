/-! ===== bodies: what a text tells ===== -/
abbrev Rs : Type := Int × Int × Int × (Int → Bool)
def rF (n s : Int) : Rs := (n, s, 0, fun _ => false)
def rO (i : Int) (S : Int → Bool) : Rs := (0, 0, i, S)
def uR (S : Int → Bool) (a b : Int) : Int → Bool := fun z => S z || decide (a ≤ z ∧ z ≤ b)
def rng (K Sp V : Int → Int) : Nat → Int → (Int → Bool) → Rs
  | 0, _, _ => rF 99 0
  | f + 1, i, S =>
    if ¬ K (i + 1) = 3 then rF 1 (Sp (i + 1)) else if 65536 ≤ V (i + 1) then rF 4 (Sp (i + 1)) else
    if K (i + 2) = 4 then
      (if ¬ K (i + 3) = 3 then rF 1 (Sp (i + 3)) else if 65536 ≤ V (i + 3) ∨ V (i + 3) < V (i + 1) then rF 4 (Sp (i + 3)) else
      if K (i + 4) = 93 then rO (i + 5) (uR S (V (i + 1)) (V (i + 3))) else if K (i + 4) = 44 then rng K Sp V f (i + 4) (uR S (V (i + 1)) (V (i + 3))) else rF 1 (Sp (i + 4)))
    else
      (if K (i + 2) = 93 then rO (i + 3) (uR S (V (i + 1)) (V (i + 1))) else if K (i + 2) = 44 then rng K Sp V f (i + 2) (uR S (V (i + 1)) (V (i + 1))) else rF 1 (Sp (i + 2)))
abbrev nsT : Type := Int × (Int → Bool)
def gS (L : List nsT) (j : Int) : nsT := L.getD j.toNat (0, fun _ => false)
def lkp : List nsT → Int → Option (Int → Bool)
  | [], _ => none
  | x :: L, v => if x.1 = v then some x.2 else lkp L v
theorem gS_0 {x : nsT} {L : List nsT} : gS (x :: L) 0 = x := rfl
theorem gS_s {x : nsT} {L : List nsT} {j : Int} (h : 0 ≤ j) : gS (x :: L) (j + 1) = gS L j := by
  unfold gS
  rw [show (j + 1).toNat = j.toNat + 1 by omega]
  rfl
theorem lkp_none : ∀ {L : List nsT} {v : Int}, (∀ j : Int, 0 ≤ j → j < L.length → ¬ (gS L j).1 = v) → lkp L v = none
  | [], v, _ => rfl
  | x :: L, v, h => by
    unfold lkp
    rw [if_neg (show ¬ x.1 = v from h 0 (by omega) (by rw [List.length_cons]; omega))]
    exact lkp_none (fun j a b => by have := h (j + 1) (by omega) (by rw [List.length_cons]; omega); rwa [gS_s a] at this)
theorem lkp_some : ∀ {L : List nsT} {v j : Int}, 0 ≤ j → j < L.length → (gS L j).1 = v → (∀ i : Int, 0 ≤ i → i < j → ¬ (gS L i).1 = v) → lkp L v = some (gS L j).2
  | [], v, j, a, b, _, _ => absurd b (by show ¬ j < ((0 : Nat) : Int); omega)
  | x :: L, v, j, a, b, e, no => by
    unfold lkp
    by_cases z : j = 0
    · rw [z] at e ⊢
      rw [if_pos (show x.1 = v from e)]
      rfl
    · rw [if_neg (show ¬ x.1 = v from no 0 (by omega) (by omega))]
      rw [List.length_cons] at b
      obtain ⟨i, ei⟩ : ∃ i, j = i + 1 := ⟨j - 1, by omega⟩
      rw [ei, gS_s (by omega)] at e ⊢
      exact lkp_some (by omega) (by omega) e (fun k k0 k1 => by have := no (k + 1) (by omega) (by omega); rwa [gS_s k0] at this)
/-- a part (false), or the rest behind a part (true): either so far, meet so far -/
def pr (K Sp V : Int → Int) (L : List nsT) : Nat → Bool → Int → Int → (Int → Bool) → (Int → Bool) → Rs
  | 0, _, _, _, _, _ => rF 99 0
  | f + 1, true, i, o, E, M =>
    if K i = 124 then (if ¬ (pr K Sp V L f false (i + 1) o E M).1 = 0 then pr K Sp V L f false (i + 1) o E M else pr K Sp V L f true (pr K Sp V L f false (i + 1) o E M).2.2.1 o (fun z => E z || M z) (pr K Sp V L f false (i + 1) o E M).2.2.2)
    else if K i = 38 then (if ¬ (pr K Sp V L f false (i + 1) o E M).1 = 0 then pr K Sp V L f false (i + 1) o E M else pr K Sp V L f true (pr K Sp V L f false (i + 1) o E M).2.2.1 o E (fun z => M z && (pr K Sp V L f false (i + 1) o E M).2.2.2 z))
    else if K i = 45 then (if ¬ (pr K Sp V L f false (i + 1) o E M).1 = 0 then pr K Sp V L f false (i + 1) o E M else pr K Sp V L f true (pr K Sp V L f false (i + 1) o E M).2.2.1 o E (fun z => M z && !((pr K Sp V L f false (i + 1) o E M).2.2.2 z)))
    else rO i (fun z => E z || M z)
  | f + 1, false, i, o, E, M =>
    if K i = 33 then (if 12 ≤ o then rF 6 (Sp i) else if ¬ (pr K Sp V L f false (i + 1) (o + 1) E M).1 = 0 then pr K Sp V L f false (i + 1) (o + 1) E M else rO (pr K Sp V L f false (i + 1) (o + 1) E M).2.2.1 (fun z => !((pr K Sp V L f false (i + 1) (o + 1) E M).2.2.2 z)))
    else if K i = 40 then (if 12 ≤ o then rF 6 (Sp i) else if ¬ (pr K Sp V L f false (i + 1) (o + 1) E M).1 = 0 then pr K Sp V L f false (i + 1) (o + 1) E M else
      if ¬ (pr K Sp V L f true (pr K Sp V L f false (i + 1) (o + 1) E M).2.2.1 (o + 1) (fun _ => false) (pr K Sp V L f false (i + 1) (o + 1) E M).2.2.2).1 = 0 then pr K Sp V L f true (pr K Sp V L f false (i + 1) (o + 1) E M).2.2.1 (o + 1) (fun _ => false) (pr K Sp V L f false (i + 1) (o + 1) E M).2.2.2 else
      if K (pr K Sp V L f true (pr K Sp V L f false (i + 1) (o + 1) E M).2.2.1 (o + 1) (fun _ => false) (pr K Sp V L f false (i + 1) (o + 1) E M).2.2.2).2.2.1 = 41 then rO ((pr K Sp V L f true (pr K Sp V L f false (i + 1) (o + 1) E M).2.2.1 (o + 1) (fun _ => false) (pr K Sp V L f false (i + 1) (o + 1) E M).2.2.2).2.2.1 + 1) (pr K Sp V L f true (pr K Sp V L f false (i + 1) (o + 1) E M).2.2.1 (o + 1) (fun _ => false) (pr K Sp V L f false (i + 1) (o + 1) E M).2.2.2).2.2.2 else rF 1 (Sp (pr K Sp V L f true (pr K Sp V L f false (i + 1) (o + 1) E M).2.2.1 (o + 1) (fun _ => false) (pr K Sp V L f false (i + 1) (o + 1) E M).2.2.2).2.2.1))
    else if K i = 91 then rng K Sp V f i (fun _ => false)
    else if K i = 10 then rO (i + 1) (fun _ => true)
    else if ¬ K i = 2 then rF 1 (Sp i)
    else (match lkp L (V i) with
      | none => rF 2 (Sp i)
      | some S => rO (i + 1) S)
/-- a whole body -/
def bod (K Sp V : Int → Int) (L : List nsT) (f : Nat) (i o : Int) : Rs := if ¬ (pr K Sp V L f false i o (fun _ => false) (fun _ => false)).1 = 0 then pr K Sp V L f false i o (fun _ => false) (fun _ => false) else pr K Sp V L f true (pr K Sp V L f false i o (fun _ => false) (fun _ => false)).2.2.1 o (fun _ => false) (pr K Sp V L f false i o (fun _ => false) (fun _ => false)).2.2.2
section PP
variable {K Sp V : Int → Int} {L : List nsT} {f : Nat} {i o : Int} {E M : Int → Bool}
theorem pr_E (E' M' : Int → Bool) : pr K Sp V L f false i o E M = pr K Sp V L f false i o E' M' := by
  induction f generalizing i o with
  | zero => rfl
  | succ f ih =>
    unfold pr
    rw [ih (i := i + 1) (o := o + 1)]
theorem pr_or (r : Rs) (h : pr K Sp V L f false (i + 1) o E M = r) (k : K i = 124) : pr K Sp V L (f + 1) true i o E M = if ¬ r.1 = 0 then r else pr K Sp V L f true r.2.2.1 o (fun z => E z || M z) r.2.2.2 := by
  subst h
  exact if_pos k
theorem pr_and (r : Rs) (h : pr K Sp V L f false (i + 1) o E M = r) (k : K i = 38) : pr K Sp V L (f + 1) true i o E M = if ¬ r.1 = 0 then r else pr K Sp V L f true r.2.2.1 o E (fun z => M z && r.2.2.2 z) := by
  subst h
  exact (if_neg (show ¬ K i = 124 by rw [k]; decide)).trans (if_pos k)
theorem pr_sub (r : Rs) (h : pr K Sp V L f false (i + 1) o E M = r) (k : K i = 45) : pr K Sp V L (f + 1) true i o E M = if ¬ r.1 = 0 then r else pr K Sp V L f true r.2.2.1 o E (fun z => M z && !(r.2.2.2 z)) := by
  subst h
  exact (if_neg (show ¬ K i = 124 by rw [k]; decide)).trans ((if_neg (show ¬ K i = 38 by rw [k]; decide)).trans (if_pos k))
theorem pr_end (k1 : ¬ K i = 124) (k2 : ¬ K i = 38) (k3 : ¬ K i = 45) : pr K Sp V L (f + 1) true i o E M = rO i (fun z => E z || M z) := by
  exact (if_neg k1).trans ((if_neg k2).trans (if_neg k3))
theorem pr_not (r : Rs) (h : pr K Sp V L f false (i + 1) (o + 1) E M = r) (k : K i = 33) : pr K Sp V L (f + 1) false i o E M = if 12 ≤ o then rF 6 (Sp i) else if ¬ r.1 = 0 then r else rO r.2.2.1 (fun z => !(r.2.2.2 z)) := by
  subst h
  exact if_pos k
theorem pr_in (r s : Rs) (h : pr K Sp V L f false (i + 1) (o + 1) E M = r) (h2 : pr K Sp V L f true r.2.2.1 (o + 1) (fun _ => false) r.2.2.2 = s) (k : K i = 40) : pr K Sp V L (f + 1) false i o E M = if 12 ≤ o then rF 6 (Sp i) else if ¬ r.1 = 0 then r else if ¬ s.1 = 0 then s else if K s.2.2.1 = 41 then rO (s.2.2.1 + 1) s.2.2.2 else rF 1 (Sp s.2.2.1) := by
  subst h2
  subst h
  exact (if_neg (show ¬ K i = 33 by rw [k]; decide)).trans (if_pos k)
theorem pr_rng (k : K i = 91) : pr K Sp V L (f + 1) false i o E M = rng K Sp V f i (fun _ => false) := by
  exact (if_neg (show ¬ K i = 33 by rw [k]; decide)).trans ((if_neg (show ¬ K i = 40 by rw [k]; decide)).trans (if_pos k))
theorem pr_any (k : K i = 10) : pr K Sp V L (f + 1) false i o E M = rO (i + 1) (fun _ => true) := by
  exact (if_neg (show ¬ K i = 33 by rw [k]; decide)).trans ((if_neg (show ¬ K i = 40 by rw [k]; decide)).trans ((if_neg (show ¬ K i = 91 by rw [k]; decide)).trans (if_pos k)))
theorem pr_bad (k1 : ¬ K i = 33) (k2 : ¬ K i = 40) (k3 : ¬ K i = 91) (k4 : ¬ K i = 10) (k5 : ¬ K i = 2) : pr K Sp V L (f + 1) false i o E M = rF 1 (Sp i) := by
  exact (if_neg k1).trans ((if_neg k2).trans ((if_neg k3).trans ((if_neg k4).trans (if_pos k5))))
theorem pr_nm0 (k : K i = 2) (e : lkp L (V i) = none) : pr K Sp V L (f + 1) false i o E M = rF 2 (Sp i) := by
  exact (if_neg (show ¬ K i = 33 by rw [k]; decide)).trans ((if_neg (show ¬ K i = 40 by rw [k]; decide)).trans ((if_neg (show ¬ K i = 91 by rw [k]; decide)).trans ((if_neg (show ¬ K i = 10 by rw [k]; decide)).trans ((if_neg (show ¬ ¬ K i = 2 from fun z => z k)).trans (by rw [e])))))
theorem pr_nm1 {S : Int → Bool} (k : K i = 2) (e : lkp L (V i) = some S) : pr K Sp V L (f + 1) false i o E M = rO (i + 1) S := by
  exact (if_neg (show ¬ K i = 33 by rw [k]; decide)).trans ((if_neg (show ¬ K i = 40 by rw [k]; decide)).trans ((if_neg (show ¬ K i = 91 by rw [k]; decide)).trans ((if_neg (show ¬ K i = 10 by rw [k]; decide)).trans ((if_neg (show ¬ ¬ K i = 2 from fun z => z k)).trans (by rw [e])))))
end PP
