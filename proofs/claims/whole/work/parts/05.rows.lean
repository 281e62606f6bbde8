/-! ===== a row an instruction ===== -/
section ZR
variable {G : zG} {R : Room} {kc ks : Nat} {Z : State → Array Value → List Frame → State → Prop} {M : zM} {pc pc' : Nat} {L L' : List (Option zV)} {st : List zV} {h : zH}
/-- what is known of the values at hand -/
theorem z_know (k : zok h → zvs st → zls L → zB G R kc ks Z M pc L st h) : zB G R kc ks Z M pc L st h := fun o vs vl => k o vs vl o vs vl
theorem z_locs (hs : ∀ (i : Nat) (v : zV), L'[i]? = some (some v) → L[i]? = some (some v)) (k : zB G R kc ks Z M pc L' st h) : zB G R kc ks Z M pc L st h := by
  intro o vs vl p e s m args below meth c H locs ls F P S Lv
  refine k o vs (fun v hv => ?_) p e s m args below meth c H locs ls F P S ⟨Lv.1, fun i v hv => Lv.2 i v (hs i v hv)⟩
  obtain ⟨i, hi⟩ := List.getElem?_of_mem hv
  exact vl v (List.mem_of_getElem? (hs i v hi))
def zsub : List (Option zV) → List (Option zV) → Prop
  | [], _ => True
  | none :: r, _ :: q => zsub r q
  | none :: r, [] => zsub r []
  | some v :: r, some w :: q => v = w ∧ zsub r q
  | some _ :: _, none :: _ => False
  | some _ :: _, [] => False
theorem zsub_ok : ∀ {A B : List (Option zV)}, zsub A B → ∀ (i : Nat) (v : zV), A[i]? = some (some v) → B[i]? = some (some v)
  | [], _, _, i, v, h => by simp at h
  | none :: r, w :: q, hs, 0, v, h => by simp at h
  | none :: r, w :: q, hs, i + 1, v, h => by
    rw [List.getElem?_cons_succ] at h ⊢
    exact zsub_ok (show zsub r q from hs) i v h
  | none :: r, [], hs, 0, v, h => by simp at h
  | none :: r, [], hs, i + 1, v, h => by
    rw [List.getElem?_cons_succ] at h
    have := zsub_ok (show zsub r [] from hs) i v h
    simp at this
  | some a :: r, some b :: q, hs, 0, v, h => by
    obtain ⟨rfl, -⟩ : a = b ∧ zsub r q := hs
    exact h
  | some a :: r, some b :: q, hs, i + 1, v, h => by
    rw [List.getElem?_cons_succ] at h ⊢
    exact zsub_ok (show a = b ∧ zsub r q from hs).2 i v h
  | some a :: r, none :: q, hs, _, _, _ => (show False from hs).elim
  | some a :: r, [], hs, _, _, _ => (show False from hs).elim
theorem z_sub (hs : zsub L' L) (k : zB G R kc ks Z M pc L' st h) : zB G R kc ks Z M pc L st h := z_locs (zsub_ok hs) k
theorem z_to (hp : pc = pc') (k : zB G R kc ks Z M pc' L st h) : zB G R kc ks Z M pc L st h := hp ▸ k
abbrev zR (x : Int) : Prop := -2147483648 ≤ x ∧ x < 2147483648
abbrev zRL (x : Int) : Prop := -9223372036854775808 ≤ x ∧ x < 9223372036854775808
theorem zI_toInt {x : Int} (hx : zR x) : (Int32.ofInt x).toInt = x := by
  have e : Int32.size = 4294967296 := rfl
  rw [Int32.toInt_ofInt]
  exact Int.bmod_eq_of_le (by have := hx.1; omega) (by have := hx.2; omega)
theorem zL_toInt {x : Int} (hx : zRL x) : (Int64.ofInt x).toInt = x := by
  have e : Int64.size = 18446744073709551616 := rfl
  rw [Int64.toInt_ofInt]
  exact Int.bmod_eq_of_le (by have := hx.1; omega) (by have := hx.2; omega)
theorem zI_lt {x y : Int} (hx : zR x) (hy : zR y) : Int32.ofInt x < Int32.ofInt y ↔ x < y := by rw [Int32.lt_iff_toInt_lt, zI_toInt hx, zI_toInt hy]
theorem zI_le {x y : Int} (hx : zR x) (hy : zR y) : Int32.ofInt x ≤ Int32.ofInt y ↔ x ≤ y := by rw [Int32.le_iff_toInt_le, zI_toInt hx, zI_toInt hy]
theorem zI_eq {x y : Int} (hx : zR x) (hy : zR y) : Int32.ofInt x = Int32.ofInt y ↔ x = y := by rw [← Int32.toInt_inj, zI_toInt hx, zI_toInt hy]
theorem zI_0 : Int32.ofInt 0 = 0 := rfl
theorem zR0 : zR 0 := ⟨by decide, by decide⟩
theorem zI_nat {i : Int} {n : Nat} (h0 : 0 ≤ i) (h1 : i < n) (hn : n ≤ 30000) : vp_in (Int32.ofInt i) n ∧ (Int32.ofInt i).toNatClampNeg = i.toNat := by
  obtain ⟨j, rfl⟩ : ∃ j : Nat, i = j := ⟨i.toNat, by omega⟩
  rw [zofInt]
  refine ⟨vp_in_nI (by omega) (by omega), ?_⟩
  rw [nI_clamp (by omega)]
  omega

theorem z_iconst {n : Int} (hd : decode M.2.1 pc = .ok (.iconst n, 1)) (hp : pc + 1 = pc') (k : zB G R kc ks Z M pc' L (vi n :: st) h) : zB G R kc ks Z M pc L st h := by
  subst hp
  intro o vs vl p e s m args below meth c H locs ls F P S Lv
  exact lv_iconst F.1 F.2.1 hd rfl (k o (zvs_i _ vs) vl p e s m args below meth c H locs ls F P S Lv)
theorem z_bipush {n : Int} (hd : decode M.2.1 pc = .ok (.bipush n, 2)) (hn : (Int8.ofInt n).toInt32 = Int32.ofInt n) (hp : pc + 2 = pc') (k : zB G R kc ks Z M pc' L (vi n :: st) h) : zB G R kc ks Z M pc L st h := by
  subst hp
  intro o vs vl p e s m args below meth c H locs ls F P S Lv
  exact lv_bipush F.1 F.2.1 hd hn (k o (zvs_i _ vs) vl p e s m args below meth c H locs ls F P S Lv)
theorem z_sipush {n : Int} (hd : decode M.2.1 pc = .ok (.sipush n, 3)) (hn : (Int16.ofInt n).toInt32 = Int32.ofInt n) (hp : pc + 3 = pc') (k : zB G R kc ks Z M pc' L (vi n :: st) h) : zB G R kc ks Z M pc L st h := by
  subst hp
  intro o vs vl p e s m args below meth c H locs ls F P S Lv
  exact lv_sipush F.1 F.2.1 hd hn (k o (zvs_i _ vs) vl p e s m args below meth c H locs ls F P S Lv)
theorem z_lconst {n : Fin 2} {x : Int} (hd : decode M.2.1 pc = .ok (.lconst n, 1)) (hx : Int64.ofNat (n : Nat) = Int64.ofInt x) (hp : pc + 1 = pc') (k : zB G R kc ks Z M pc' L (vl x :: st) h) : zB G R kc ks Z M pc L st h := by
  subst hp
  intro o vs vl p e s m args below meth c H locs ls F P S Lv
  exact lv_lconst F.1 F.2.1 hd hx (k o (zvs_l _ vs) vl p e s m args below meth c H locs ls F P S Lv)
theorem z_ldc {idx : Nat} {v : Int32} {x : Int} (hw : Cond.constant M.1.cls idx v ∈ zUU) (hx : v = Int32.ofInt x) (hd : decode M.2.1 pc = .ok (.ldc idx, 2)) (hp : pc + 2 = pc') (k : zB G R kc ks Z M pc' L (vi x :: st) h) : zB G R kc ks Z M pc L st h := by
  subst hp
  subst hx
  intro o vs vl p e s m args below meth c H locs ls F P S Lv
  exact lv_ldc F.1 F.2.1 F.2.2.2.2.2.1 (F.2.2.2.2.2.2.1 _ hw) hd (k o (zvs_i _ vs) vl p e s m args below meth c H locs ls F P S Lv)
theorem z_ldcw {idx : Nat} {v : Int32} {x : Int} (hw : Cond.constant M.1.cls idx v ∈ zUU) (hx : v = Int32.ofInt x) (hd : decode M.2.1 pc = .ok (.ldc_w idx, 3)) (hp : pc + 3 = pc') (k : zB G R kc ks Z M pc' L (vi x :: st) h) : zB G R kc ks Z M pc L st h := by
  subst hp
  subst hx
  intro o vs vl p e s m args below meth c H locs ls F P S Lv
  exact lv_ldcw F.1 F.2.1 F.2.2.2.2.2.1 (F.2.2.2.2.2.2.1 _ hw) hd (k o (zvs_i _ vs) vl p e s m args below meth c H locs ls F P S Lv)
theorem z_ldc2 {idx : Nat} {v : Int64} {x : Int} (hw : Cond.constantLong M.1.cls idx v ∈ zUU) (hx : v = Int64.ofInt x) (hd : decode M.2.1 pc = .ok (.ldc2_w idx, 3)) (hp : pc + 3 = pc') (k : zB G R kc ks Z M pc' L (vl x :: st) h) : zB G R kc ks Z M pc L st h := by
  subst hp
  subst hx
  intro o vs vl p e s m args below meth c H locs ls F P S Lv
  exact lv_ldc2 F.1 F.2.1 F.2.2.2.2.2.1 (F.2.2.2.2.2.2.1 _ hw) hd (k o (zvs_l _ vs) vl p e s m args below meth c H locs ls F P S Lv)
theorem z_iload_n {q : Fin 4} (i : Nat) {x : Int} (hd : decode M.2.1 pc = .ok (.iload_n q, 1)) (hi : (q : Nat) = i) (hl : L[i]? = some (some (vi x))) (hp : pc + 1 = pc') (k : zB G R kc ks Z M pc' L (vi x :: st) h) : zB G R kc ks Z M pc L st h := by
  subst hp
  intro o vs vl p e s m args below meth c H locs ls F P S Lv
  exact lv_iload_n F.1 F.2.1 hd hi (Lv.2 i _ hl) (k o (zvs_i _ vs) vl p e s m args below meth c H locs ls F P S Lv)
theorem z_iload {i : Nat} {x : Int} (hd : decode M.2.1 pc = .ok (.iload i, 2)) (hl : L[i]? = some (some (vi x))) (hp : pc + 2 = pc') (k : zB G R kc ks Z M pc' L (vi x :: st) h) : zB G R kc ks Z M pc L st h := by
  subst hp
  intro o vs vl p e s m args below meth c H locs ls F P S Lv
  exact lv_iload F.1 F.2.1 hd (Lv.2 i _ hl) (k o (zvs_i _ vs) vl p e s m args below meth c H locs ls F P S Lv)
theorem z_lload_n {q : Fin 4} (i : Nat) {x : Int} (hd : decode M.2.1 pc = .ok (.lload_n q, 1)) (hi : (q : Nat) = i) (hl : L[i]? = some (some (vl x))) (hp : pc + 1 = pc') (k : zB G R kc ks Z M pc' L (vl x :: st) h) : zB G R kc ks Z M pc L st h := by
  subst hp
  intro o vs vl p e s m args below meth c H locs ls F P S Lv
  exact lv_lload_n F.1 F.2.1 hd hi (Lv.2 i _ hl) (k o (zvs_l _ vs) vl p e s m args below meth c H locs ls F P S Lv)
theorem z_lload {i : Nat} {x : Int} (hd : decode M.2.1 pc = .ok (.lload i, 2)) (hl : L[i]? = some (some (vl x))) (hp : pc + 2 = pc') (k : zB G R kc ks Z M pc' L (vl x :: st) h) : zB G R kc ks Z M pc L st h := by
  subst hp
  intro o vs vl p e s m args below meth c H locs ls F P S Lv
  exact lv_lload F.1 F.2.1 hd (Lv.2 i _ hl) (k o (zvs_l _ vs) vl p e s m args below meth c H locs ls F P S Lv)
theorem zref (G : zG) (v : zV) (hv : 10 ≤ v.1) : ∃ a, zcv G v = .ref a := by
  unfold zcv
  rw [if_neg (by omega), if_neg (by omega)]
  by_cases h1 : v.1 = 40
  · exact ⟨_, if_pos h1⟩
  · rw [if_neg h1]
    by_cases h2 : v.1 = 41
    · exact ⟨_, if_pos h2⟩
    · rw [if_neg h2]
      by_cases h3 : v.1 = 42
      · exact ⟨_, if_pos h3⟩
      · rw [if_neg h3]
        exact ⟨_, if_neg (by omega)⟩
theorem z_aload_n {q : Fin 4} (i : Nat) {v : zV} (hd : decode M.2.1 pc = .ok (.aload_n q, 1)) (hi : (q : Nat) = i) (hl : L[i]? = some (some v)) (hv : 10 ≤ v.1) (hp : pc + 1 = pc') (k : zB G R kc ks Z M pc' L (v :: st) h) : zB G R kc ks Z M pc L st h := by
  subst hp
  intro o vs vl p e s m args below meth c H locs ls F P S Lv
  have K := k o (zvs_c (vl v (List.mem_of_getElem? hl)) vs) vl p e s m args below meth c H locs ls F P S Lv
  obtain ⟨a, ha⟩ := zref G v hv
  have hq := Lv.2 i _ hl
  rw [List.map_cons, ha] at K
  rw [ha] at hq
  exact lv_aload_n F.1 F.2.1 hd hi hq K
theorem z_aload {i : Nat} {v : zV} (hd : decode M.2.1 pc = .ok (.aload i, 2)) (hl : L[i]? = some (some v)) (hv : 10 ≤ v.1) (hp : pc + 2 = pc') (k : zB G R kc ks Z M pc' L (v :: st) h) : zB G R kc ks Z M pc L st h := by
  subst hp
  intro o vs vl p e s m args below meth c H locs ls F P S Lv
  have K := k o (zvs_c (vl v (List.mem_of_getElem? hl)) vs) vl p e s m args below meth c H locs ls F P S Lv
  obtain ⟨a, ha⟩ := zref G v hv
  have hq := Lv.2 i _ hl
  rw [List.map_cons, ha] at K
  rw [ha] at hq
  exact lv_aload F.1 F.2.1 hd hq K
/-- a store into a local: what was a long just ahead of it is no more; a long takes two -/
def zst1 : List (Option zV) → Nat → zV → List (Option zV)
  | [], _, _ => []
  | _ :: r, 0, v => some v :: r
  | some w :: r, 1, v => (if w.1 = 1 then none else some w) :: zst1 r 0 v
  | none :: r, 1, v => none :: zst1 r 0 v
  | w :: r, i + 2, v => w :: zst1 r (i + 1) v
theorem zst1_at : ∀ {L : List (Option zV)} {i : Nat} {v : zV} {j : Nat} {w : zV}, (zst1 L i v)[j]? = some (some w) → (j = i ∧ w = v) ∨ (j ≠ i ∧ L[j]? = some (some w) ∧ ¬ (j + 1 = i ∧ w.1 = 1))
  | [], _, _, j, w, h => by simp [zst1] at h
  | a :: r, 0, v, 0, w, h => by
    left
    simp only [zst1, List.getElem?_cons_zero, Option.some.injEq] at h
    exact ⟨rfl, h.symm⟩
  | a :: r, 0, v, j + 1, w, h => by
    right
    simp only [zst1, List.getElem?_cons_succ] at h
    exact ⟨by omega, by rw [List.getElem?_cons_succ]; exact h, by omega⟩
  | some a :: r, 1, v, 0, w, h => by
    right
    simp only [zst1, List.getElem?_cons_zero, Option.some.injEq] at h
    by_cases e : a.1 = 1
    · rw [if_pos e] at h
      cases h
    · rw [if_neg e] at h
      cases h
      exact ⟨by omega, by simp, fun q => e q.2⟩
  | some a :: r, 1, v, j + 1, w, h => by
    simp only [zst1, List.getElem?_cons_succ] at h
    rcases zst1_at h with ⟨h1, h2⟩ | ⟨h1, h2, h3⟩
    · exact Or.inl ⟨by omega, h2⟩
    · exact Or.inr ⟨by omega, by rw [List.getElem?_cons_succ]; exact h2, by omega⟩
  | none :: r, 1, v, 0, w, h => by simp [zst1] at h
  | none :: r, 1, v, j + 1, w, h => by
    simp only [zst1, List.getElem?_cons_succ] at h
    rcases zst1_at h with ⟨h1, h2⟩ | ⟨h1, h2, h3⟩
    · exact Or.inl ⟨by omega, h2⟩
    · exact Or.inr ⟨by omega, by rw [List.getElem?_cons_succ]; exact h2, by omega⟩
  | a :: r, i + 2, v, 0, w, h => by
    right
    have e : zst1 (a :: r) (i + 2) v = a :: zst1 r (i + 1) v := by cases a <;> rfl
    rw [e, List.getElem?_cons_zero] at h
    exact ⟨by omega, by rw [List.getElem?_cons_zero]; exact h, by omega⟩
  | a :: r, i + 2, v, j + 1, w, h => by
    have e : zst1 (a :: r) (i + 2) v = a :: zst1 r (i + 1) v := by cases a <;> rfl
    rw [e, List.getElem?_cons_succ] at h
    rcases zst1_at h with ⟨h1, h2⟩ | ⟨h1, h2, h3⟩
    · exact Or.inl ⟨by omega, h2⟩
    · exact Or.inr ⟨by omega, by rw [List.getElem?_cons_succ]; exact h2, by omega⟩
def znone : List (Option zV) → Nat → List (Option zV)
  | [], _ => []
  | _ :: r, 0 => none :: r
  | w :: r, i + 1 => w :: znone r i
theorem znone_at : ∀ {L : List (Option zV)} {i j : Nat} {w : zV}, (znone L i)[j]? = some (some w) → j ≠ i ∧ L[j]? = some (some w)
  | [], _, j, w, h => by simp [znone] at h
  | a :: r, 0, 0, w, h => by simp [znone] at h
  | a :: r, 0, j + 1, w, h => by
    simp only [znone, List.getElem?_cons_succ] at h
    exact ⟨by omega, by rw [List.getElem?_cons_succ]; exact h⟩
  | a :: r, i + 1, 0, w, h => by
    simp only [znone, List.getElem?_cons_zero] at h
    exact ⟨by omega, by rw [List.getElem?_cons_zero]; exact h⟩
  | a :: r, i + 1, j + 1, w, h => by
    simp only [znone, List.getElem?_cons_succ] at h
    obtain ⟨h1, h2⟩ := znone_at h
    exact ⟨by omega, by rw [List.getElem?_cons_succ]; exact h2⟩
def zst2 (L : List (Option zV)) (i : Nat) (v : zV) : List (Option zV) := znone (zst1 L i v) (i + 1)
/-- the pairs that a list of locals stands for -/
def zprs (G : zG) (L : List (Option zV)) : List (Nat × Value) := (List.range L.length).filterMap (fun i => match L[i]? with | some (some v) => some (i, zcv G v) | _ => none)
theorem zprs_in (G : zG) {L : List (Option zV)} {i : Nat} {v : zV} (h : L[i]? = some (some v)) : (i, zcv G v) ∈ zprs G L := by
  refine List.mem_filterMap.mpr ⟨i, List.mem_range.mpr (List.getElem?_eq_some_iff.mp h).1, ?_⟩
  rw [h]
theorem zlv_has {ls : Array Slot} {n : Nat} (hl : zlv G ls n L) : lv_has ls n (zprs G L) := by
  refine ⟨hl.1.1, hl.1.2.1, fun q hq => ?_⟩
  obtain ⟨i, -, hi⟩ := List.mem_filterMap.mp hq
  split at hi
  · next v hv =>
    cases hi
    exact hl.2 i v hv
  · cases hi
theorem zlv_st1 {ls' : Array Slot} {n i : Nat} {v : zV} (hl : lv_has ls' n ((i, zcv G v) :: (zprs G L).filter (fun q => !(q.1 == i) && !(q.1 + 1 == i && q.2.category == 2)))) : zlv G ls' n (zst1 L i v) := by
  refine ⟨⟨hl.1, hl.2.1, fun q hq => absurd hq List.not_mem_nil⟩, fun j w hw => ?_⟩
  rcases zst1_at hw with ⟨rfl, rfl⟩ | ⟨h1, h2, h3⟩
  · exact hl.2.2 (j, zcv G w) List.mem_cons_self
  · refine hl.2.2 (j, zcv G w) (List.mem_cons_of_mem _ (List.mem_filter.mpr ⟨zprs_in G h2, ?_⟩))
    have c2 : (j + 1 == i && (zcv G w).category == 2) = false := by
      by_cases e : w.1 = 1
      · rw [Bool.and_eq_false_iff]
        exact Or.inl (beq_eq_false_iff_ne.mpr (fun q => h3 ⟨q, e⟩))
      · rw [zcv_cat1 G w e, Bool.and_eq_false_iff]
        exact Or.inr rfl
    show (!(j == i) && !(j + 1 == i && (zcv G w).category == 2)) = true
    rw [c2, beq_eq_false_iff_ne.mpr h1]
    rfl
theorem zlv_st2 {ls' : Array Slot} {n i : Nat} {v : zV} (hl : lv_has ls' n ((i, zcv G v) :: (zprs G L).filter (fun q => !(q.1 == i) && (!(q.1 == i + 1) && !(q.1 + 1 == i && q.2.category == 2))))) : zlv G ls' n (zst2 L i v) := by
  refine ⟨⟨hl.1, hl.2.1, fun q hq => absurd hq List.not_mem_nil⟩, fun j w hw => ?_⟩
  obtain ⟨h0, hw⟩ := znone_at hw
  rcases zst1_at hw with ⟨rfl, rfl⟩ | ⟨h1, h2, h3⟩
  · exact hl.2.2 (j, zcv G w) List.mem_cons_self
  · refine hl.2.2 (j, zcv G w) (List.mem_cons_of_mem _ (List.mem_filter.mpr ⟨zprs_in G h2, ?_⟩))
    have c2 : (j + 1 == i && (zcv G w).category == 2) = false := by
      by_cases e : w.1 = 1
      · rw [Bool.and_eq_false_iff]
        exact Or.inl (beq_eq_false_iff_ne.mpr (fun q => h3 ⟨q, e⟩))
      · rw [zcv_cat1 G w e, Bool.and_eq_false_iff]
        exact Or.inr rfl
    show (!(j == i) && (!(j == i + 1) && !(j + 1 == i && (zcv G w).category == 2))) = true
    rw [c2, beq_eq_false_iff_ne.mpr h1, beq_eq_false_iff_ne.mpr h0]
    rfl
theorem zls_st1 {i : Nat} {v : zV} (hl : zls L) (hv : zvok v) : zls (zst1 L i v) := fun w hw => by
  obtain ⟨j, hj⟩ := List.getElem?_of_mem hw
  rcases zst1_at hj with ⟨-, rfl⟩ | ⟨-, h2, -⟩
  · exact hv
  · exact hl w (List.mem_of_getElem? h2)
theorem zls_st2 {i : Nat} {v : zV} (hl : zls L) (hv : zvok v) : zls (zst2 L i v) := fun w hw => by
  obtain ⟨j, hj⟩ := List.getElem?_of_mem hw
  exact zls_st1 hl hv w (List.mem_of_getElem? (znone_at hj).2)
theorem z_istore_n {q : Fin 4} (i : Nat) {x : Int} (hd : decode M.2.1 pc = .ok (.istore_n q, 1)) (hi : (q : Nat) = i) (hn : i < M.2.2.1) (hL : zst1 L i (vi x) = L') (hp : pc + 1 = pc') (k : zB G R kc ks Z M pc' L' st h) : zB G R kc ks Z M pc L (vi x :: st) h := by
  subst hp
  subst hL
  intro o vs vl p e s m args below meth c H locs ls F P S Lv
  exact lv_istore_n F.1 F.2.1 hd hi (zlv_has Lv) hn rfl (fun ls' hl' => k o (zvs_t vs) (zls_st1 vl (Or.inl rfl)) p e s m args below meth c H locs ls' F P S (zlv_st1 hl'))
theorem z_istore {i : Nat} {x : Int} (hd : decode M.2.1 pc = .ok (.istore i, 2)) (hn : i < M.2.2.1) (hL : zst1 L i (vi x) = L') (hp : pc + 2 = pc') (k : zB G R kc ks Z M pc' L' st h) : zB G R kc ks Z M pc L (vi x :: st) h := by
  subst hp
  subst hL
  intro o vs vl p e s m args below meth c H locs ls F P S Lv
  exact lv_istore F.1 F.2.1 hd (zlv_has Lv) hn rfl (fun ls' hl' => k o (zvs_t vs) (zls_st1 vl (Or.inl rfl)) p e s m args below meth c H locs ls' F P S (zlv_st1 hl'))
theorem z_lstore_n {q : Fin 4} (i : Nat) {x : Int} (hd : decode M.2.1 pc = .ok (.lstore_n q, 1)) (hi : (q : Nat) = i) (hn : i + 1 < M.2.2.1) (hL : zst2 L i (vl x) = L') (hp : pc + 1 = pc') (k : zB G R kc ks Z M pc' L' st h) : zB G R kc ks Z M pc L (vl x :: st) h := by
  subst hp
  subst hL
  intro o vs vl p e s m args below meth c H locs ls F P S Lv
  exact lv_lstore_n F.1 F.2.1 hd hi (zlv_has Lv) hn rfl (fun ls' hl' => k o (zvs_t vs) (zls_st2 vl (Or.inr (Or.inl rfl))) p e s m args below meth c H locs ls' F P S (zlv_st2 hl'))
theorem z_lstore {i : Nat} {x : Int} (hd : decode M.2.1 pc = .ok (.lstore i, 2)) (hn : i + 1 < M.2.2.1) (hL : zst2 L i (vl x) = L') (hp : pc + 2 = pc') (k : zB G R kc ks Z M pc' L' st h) : zB G R kc ks Z M pc L (vl x :: st) h := by
  subst hp
  subst hL
  intro o vs vl p e s m args below meth c H locs ls F P S Lv
  exact lv_lstore F.1 F.2.1 hd (zlv_has Lv) hn rfl (fun ls' hl' => k o (zvs_t vs) (zls_st2 vl (Or.inr (Or.inl rfl))) p e s m args below meth c H locs ls' F P S (zlv_st2 hl'))
theorem z_astore_n {q : Fin 4} (i : Nat) {v : zV} (hd : decode M.2.1 pc = .ok (.astore_n q, 1)) (hi : (q : Nat) = i) (hn : i < M.2.2.1) (hv : 10 ≤ v.1) (hL : zst1 L i v = L') (hp : pc + 1 = pc') (k : zB G R kc ks Z M pc' L' st h) : zB G R kc ks Z M pc L (v :: st) h := by
  subst hp
  subst hL
  intro o vs vl p e s m args below meth c H locs ls F P S Lv
  obtain ⟨a, ha⟩ := zref G v hv
  show W _ _ _ _ _ _ _ _ _ _ _ _ _ _ _ (F0 m pc ls (zcv G v :: st.map (zcv G)))
  rw [ha]
  exact lv_astore_n F.1 F.2.1 hd hi (zlv_has Lv) hn rfl (fun ls' hl' => k o (zvs_t vs) (zls_st1 vl (zvs_h vs)) p e s m args below meth c H locs ls' F P S (zlv_st1 (by rw [ha]; exact hl')))
theorem z_astore {i : Nat} {v : zV} (hd : decode M.2.1 pc = .ok (.astore i, 2)) (hn : i < M.2.2.1) (hv : 10 ≤ v.1) (hL : zst1 L i v = L') (hp : pc + 2 = pc') (k : zB G R kc ks Z M pc' L' st h) : zB G R kc ks Z M pc L (v :: st) h := by
  subst hp
  subst hL
  intro o vs vl p e s m args below meth c H locs ls F P S Lv
  obtain ⟨a, ha⟩ := zref G v hv
  show W _ _ _ _ _ _ _ _ _ _ _ _ _ _ _ (F0 m pc ls (zcv G v :: st.map (zcv G)))
  rw [ha]
  exact lv_astore F.1 F.2.1 hd (zlv_has Lv) hn rfl (fun ls' hl' => k o (zvs_t vs) (zls_st1 vl (zvs_h vs)) p e s m args below meth c H locs ls' F P S (zlv_st1 (by rw [ha]; exact hl')))
theorem z_iinc {i : Nat} {n x : Int} (hd : decode M.2.1 pc = .ok (.iinc i n, 3)) (hl : L[i]? = some (some (vi x))) (hn : i < M.2.2.1) (hL : zst1 L i (vi (x + n)) = L') (hp : pc + 3 = pc') (k : zB G R kc ks Z M pc' L' st h) : zB G R kc ks Z M pc L st h := by
  subst hp
  subst hL
  intro o vs vl p e s m args below meth c H locs ls F P S Lv
  obtain ⟨q, hq⟩ := List.getElem?_of_mem (zprs_in G hl)
  exact lv_iinc F.1 F.2.1 hd (zlv_has Lv) hq (v := Int32.ofInt (x + n)) (Int32.ofInt_add x n).symm hn rfl (fun ls' hl' => k o vs (zls_st1 vl (Or.inl rfl)) p e s m args below meth c H locs ls' F P S (zlv_st1 hl'))
theorem z_iadd {x y : Int} (hd : decode M.2.1 pc = .ok (.iadd, 1)) (hp : pc + 1 = pc') (k : zB G R kc ks Z M pc' L (vi (x + y) :: st) h) : zB G R kc ks Z M pc L (vi y :: vi x :: st) h := by
  subst hp
  intro o vs vl p e s m args below meth c H locs ls F P S Lv
  have K := k o (zvs_i _ (zvs_t (zvs_t vs))) vl p e s m args below meth c H locs ls F P S Lv
  rw [List.map_cons, zcv_i, Int32.ofInt_add] at K
  exact lv_iadd F.1 F.2.1 hd K
theorem z_isub {x y : Int} (hd : decode M.2.1 pc = .ok (.isub, 1)) (hp : pc + 1 = pc') (k : zB G R kc ks Z M pc' L (vi (x - y) :: st) h) : zB G R kc ks Z M pc L (vi y :: vi x :: st) h := by
  subst hp
  intro o vs vl p e s m args below meth c H locs ls F P S Lv
  have K := k o (zvs_i _ (zvs_t (zvs_t vs))) vl p e s m args below meth c H locs ls F P S Lv
  rw [List.map_cons, zcv_i, Int32.ofInt_sub] at K
  exact lv_isub F.1 F.2.1 hd K
theorem z_imul {x y : Int} (hd : decode M.2.1 pc = .ok (.imul, 1)) (hp : pc + 1 = pc') (k : zB G R kc ks Z M pc' L (vi (x * y) :: st) h) : zB G R kc ks Z M pc L (vi y :: vi x :: st) h := by
  subst hp
  intro o vs vl p e s m args below meth c H locs ls F P S Lv
  have K := k o (zvs_i _ (zvs_t (zvs_t vs))) vl p e s m args below meth c H locs ls F P S Lv
  rw [List.map_cons, zcv_i, Int32.ofInt_mul] at K
  exact lv_imul F.1 F.2.1 hd K
theorem z_ladd {x y : Int} (hd : decode M.2.1 pc = .ok (.ladd, 1)) (hp : pc + 1 = pc') (k : zB G R kc ks Z M pc' L (vl (x + y) :: st) h) : zB G R kc ks Z M pc L (vl y :: vl x :: st) h := by
  subst hp
  intro o vs vl p e s m args below meth c H locs ls F P S Lv
  have K := k o (zvs_l _ (zvs_t (zvs_t vs))) vl p e s m args below meth c H locs ls F P S Lv
  rw [List.map_cons, zcv_l, Int64.ofInt_add] at K
  exact lv_ladd F.1 F.2.1 hd K
theorem z_lsub {x y : Int} (hd : decode M.2.1 pc = .ok (.lsub, 1)) (hp : pc + 1 = pc') (k : zB G R kc ks Z M pc' L (vl (x - y) :: st) h) : zB G R kc ks Z M pc L (vl y :: vl x :: st) h := by
  subst hp
  intro o vs vl p e s m args below meth c H locs ls F P S Lv
  have K := k o (zvs_l _ (zvs_t (zvs_t vs))) vl p e s m args below meth c H locs ls F P S Lv
  rw [List.map_cons, zcv_l, Int64.ofInt_sub] at K
  exact lv_lsub F.1 F.2.1 hd K
theorem z_lmul {x y : Int} (hd : decode M.2.1 pc = .ok (.lmul, 1)) (hp : pc + 1 = pc') (k : zB G R kc ks Z M pc' L (vl (x * y) :: st) h) : zB G R kc ks Z M pc L (vl y :: vl x :: st) h := by
  subst hp
  intro o vs vl p e s m args below meth c H locs ls F P S Lv
  have K := k o (zvs_l _ (zvs_t (zvs_t vs))) vl p e s m args below meth c H locs ls F P S Lv
  rw [List.map_cons, zcv_l, Int64.ofInt_mul] at K
  exact lv_lmul F.1 F.2.1 hd K
def ziand (x y : Int) : Int := (Int32.ofInt x &&& Int32.ofInt y).toInt
def zior (x y : Int) : Int := (Int32.ofInt x ||| Int32.ofInt y).toInt
def zishl (x y : Int) : Int := (Int32.ofInt x <<< (Int32.ofInt y &&& 31)).toInt
def zishr (x y : Int) : Int := (Int32.ofInt x >>> (Int32.ofInt y &&& 31)).toInt
def ziushr (x y : Int) : Int := ((Int32.ofInt x).toUInt32 >>> ((Int32.ofInt y).toUInt32 &&& Int32.toUInt32 31)).toInt32.toInt
def zland (x y : Int) : Int := (Int64.ofInt x &&& Int64.ofInt y).toInt
def zlor (x y : Int) : Int := (Int64.ofInt x ||| Int64.ofInt y).toInt
def zlxor (x y : Int) : Int := (Int64.ofInt x ^^^ Int64.ofInt y).toInt
def zlshl (x y : Int) : Int := (Int64.ofInt x <<< ((Int32.ofInt y).toInt64 &&& 63)).toInt
def zlshr (x y : Int) : Int := (Int64.ofInt x >>> ((Int32.ofInt y).toInt64 &&& 63)).toInt
def zlushr (x y : Int) : Int := ((Int64.ofInt x).toUInt64 >>> ((Int32.ofInt y).toInt64.toUInt64 &&& Int64.toUInt64 63)).toInt64.toInt
def zi2b (x : Int) : Int := (Int32.ofInt x).toInt8.toInt32.toInt
def zi2c (x : Int) : Int := ((Int32.ofInt x).toUInt32 % 65536).toInt32.toInt
def zcmp (x y : Int) : Int := (lg_cmp (Int64.ofInt x) (Int64.ofInt y)).toInt
theorem z_iand {x y : Int} (hd : decode M.2.1 pc = .ok (.iand, 1)) (hp : pc + 1 = pc') (k : zB G R kc ks Z M pc' L (vi (ziand x y) :: st) h) : zB G R kc ks Z M pc L (vi y :: vi x :: st) h := by
  subst hp
  intro o vs vl p e s m args below meth c H locs ls F P S Lv
  have K := k o (zvs_i _ (zvs_t (zvs_t vs))) vl p e s m args below meth c H locs ls F P S Lv
  rw [List.map_cons, zcv_i, ziand, Int32.ofInt_toInt] at K
  exact lv_iand F.1 F.2.1 hd K
theorem z_ior {x y : Int} (hd : decode M.2.1 pc = .ok (.ior, 1)) (hp : pc + 1 = pc') (k : zB G R kc ks Z M pc' L (vi (zior x y) :: st) h) : zB G R kc ks Z M pc L (vi y :: vi x :: st) h := by
  subst hp
  intro o vs vl p e s m args below meth c H locs ls F P S Lv
  have K := k o (zvs_i _ (zvs_t (zvs_t vs))) vl p e s m args below meth c H locs ls F P S Lv
  rw [List.map_cons, zcv_i, zior, Int32.ofInt_toInt] at K
  exact lv_ior F.1 F.2.1 hd K
theorem z_ishl {x y : Int} (hd : decode M.2.1 pc = .ok (.ishl, 1)) (hp : pc + 1 = pc') (k : zB G R kc ks Z M pc' L (vi (zishl x y) :: st) h) : zB G R kc ks Z M pc L (vi y :: vi x :: st) h := by
  subst hp
  intro o vs vl p e s m args below meth c H locs ls F P S Lv
  have K := k o (zvs_i _ (zvs_t (zvs_t vs))) vl p e s m args below meth c H locs ls F P S Lv
  rw [List.map_cons, zcv_i, zishl, Int32.ofInt_toInt] at K
  exact lv_ishl F.1 F.2.1 hd K
theorem z_ishr {x y : Int} (hd : decode M.2.1 pc = .ok (.ishr, 1)) (hp : pc + 1 = pc') (k : zB G R kc ks Z M pc' L (vi (zishr x y) :: st) h) : zB G R kc ks Z M pc L (vi y :: vi x :: st) h := by
  subst hp
  intro o vs vl p e s m args below meth c H locs ls F P S Lv
  have K := k o (zvs_i _ (zvs_t (zvs_t vs))) vl p e s m args below meth c H locs ls F P S Lv
  rw [List.map_cons, zcv_i, zishr, Int32.ofInt_toInt] at K
  exact lv_ishr F.1 F.2.1 hd K
theorem z_land {x y : Int} (hd : decode M.2.1 pc = .ok (.land, 1)) (hp : pc + 1 = pc') (k : zB G R kc ks Z M pc' L (vl (zland x y) :: st) h) : zB G R kc ks Z M pc L (vl y :: vl x :: st) h := by
  subst hp
  intro o vs vl p e s m args below meth c H locs ls F P S Lv
  have K := k o (zvs_l _ (zvs_t (zvs_t vs))) vl p e s m args below meth c H locs ls F P S Lv
  rw [List.map_cons, zcv_l, zland, Int64.ofInt_toInt] at K
  exact lv_land F.1 F.2.1 hd K
theorem z_lor {x y : Int} (hd : decode M.2.1 pc = .ok (.lor, 1)) (hp : pc + 1 = pc') (k : zB G R kc ks Z M pc' L (vl (zlor x y) :: st) h) : zB G R kc ks Z M pc L (vl y :: vl x :: st) h := by
  subst hp
  intro o vs vl p e s m args below meth c H locs ls F P S Lv
  have K := k o (zvs_l _ (zvs_t (zvs_t vs))) vl p e s m args below meth c H locs ls F P S Lv
  rw [List.map_cons, zcv_l, zlor, Int64.ofInt_toInt] at K
  exact lv_lor F.1 F.2.1 hd K
theorem z_lxor {x y : Int} (hd : decode M.2.1 pc = .ok (.lxor, 1)) (hp : pc + 1 = pc') (k : zB G R kc ks Z M pc' L (vl (zlxor x y) :: st) h) : zB G R kc ks Z M pc L (vl y :: vl x :: st) h := by
  subst hp
  intro o vs vl p e s m args below meth c H locs ls F P S Lv
  have K := k o (zvs_l _ (zvs_t (zvs_t vs))) vl p e s m args below meth c H locs ls F P S Lv
  rw [List.map_cons, zcv_l, zlxor, Int64.ofInt_toInt] at K
  exact lv_lxor F.1 F.2.1 hd K
theorem z_iushr {x y : Int} (hd : decode M.2.1 pc = .ok (.iushr, 1)) (hp : pc + 1 = pc') (k : zB G R kc ks Z M pc' L (vi (ziushr x y) :: st) h) : zB G R kc ks Z M pc L (vi y :: vi x :: st) h := by
  subst hp
  intro o vs vl p e s m args below meth c H locs ls F P S Lv
  have K := k o (zvs_i _ (zvs_t (zvs_t vs))) vl p e s m args below meth c H locs ls F P S Lv
  rw [List.map_cons, zcv_i, ziushr, Int32.ofInt_toInt] at K
  exact lv_iushr F.1 F.2.1 hd rfl K
theorem z_lshl {x y : Int} (hd : decode M.2.1 pc = .ok (.lshl, 1)) (hp : pc + 1 = pc') (k : zB G R kc ks Z M pc' L (vl (zlshl x y) :: st) h) : zB G R kc ks Z M pc L (vi y :: vl x :: st) h := by
  subst hp
  intro o vs vl p e s m args below meth c H locs ls F P S Lv
  have K := k o (zvs_l _ (zvs_t (zvs_t vs))) vl p e s m args below meth c H locs ls F P S Lv
  rw [List.map_cons, zcv_l, zlshl, Int64.ofInt_toInt] at K
  exact lv_lshl F.1 F.2.1 hd rfl K
theorem z_lshr {x y : Int} (hd : decode M.2.1 pc = .ok (.lshr, 1)) (hp : pc + 1 = pc') (k : zB G R kc ks Z M pc' L (vl (zlshr x y) :: st) h) : zB G R kc ks Z M pc L (vi y :: vl x :: st) h := by
  subst hp
  intro o vs vl p e s m args below meth c H locs ls F P S Lv
  have K := k o (zvs_l _ (zvs_t (zvs_t vs))) vl p e s m args below meth c H locs ls F P S Lv
  rw [List.map_cons, zcv_l, zlshr, Int64.ofInt_toInt] at K
  exact lv_lshr F.1 F.2.1 hd rfl K
theorem z_lushr {x y : Int} (hd : decode M.2.1 pc = .ok (.lushr, 1)) (hp : pc + 1 = pc') (k : zB G R kc ks Z M pc' L (vl (zlushr x y) :: st) h) : zB G R kc ks Z M pc L (vi y :: vl x :: st) h := by
  subst hp
  intro o vs vl p e s m args below meth c H locs ls F P S Lv
  have K := k o (zvs_l _ (zvs_t (zvs_t vs))) vl p e s m args below meth c H locs ls F P S Lv
  rw [List.map_cons, zcv_l, zlushr, Int64.ofInt_toInt] at K
  exact lv_lushr F.1 F.2.1 hd rfl K
theorem z_i2b {x : Int} (hd : decode M.2.1 pc = .ok (.i2b, 1)) (hp : pc + 1 = pc') (k : zB G R kc ks Z M pc' L (vi (zi2b x) :: st) h) : zB G R kc ks Z M pc L (vi x :: st) h := by
  subst hp
  intro o vs vl p e s m args below meth c H locs ls F P S Lv
  have K := k o (zvs_i _ (zvs_t vs)) vl p e s m args below meth c H locs ls F P S Lv
  rw [List.map_cons, zcv_i, zi2b, Int32.ofInt_toInt] at K
  exact lv_i2b F.1 F.2.1 hd rfl K
theorem z_i2c {x : Int} (hd : decode M.2.1 pc = .ok (.i2c, 1)) (hp : pc + 1 = pc') (k : zB G R kc ks Z M pc' L (vi (zi2c x) :: st) h) : zB G R kc ks Z M pc L (vi x :: st) h := by
  subst hp
  intro o vs vl p e s m args below meth c H locs ls F P S Lv
  have K := k o (zvs_i _ (zvs_t vs)) vl p e s m args below meth c H locs ls F P S Lv
  rw [List.map_cons, zcv_i, zi2c, Int32.ofInt_toInt] at K
  exact lv_i2c F.1 F.2.1 hd rfl K
theorem z_i2l {x : Int} (hd : decode M.2.1 pc = .ok (.i2l, 1)) (hx : zR x) (hp : pc + 1 = pc') (k : zB G R kc ks Z M pc' L (vl x :: st) h) : zB G R kc ks Z M pc L (vi x :: st) h := by
  subst hp
  intro o vs vl p e s m args below meth c H locs ls F P S Lv
  have K := k o (zvs_l _ (zvs_t vs)) vl p e s m args below meth c H locs ls F P S Lv
  refine lv_i2l F.1 F.2.1 hd (v := Int64.ofInt x) ?_ K
  rw [← Int64.toInt_inj, Int32.toInt_toInt64, zI_toInt hx, zL_toInt ⟨by have := hx.1; omega, by have := hx.2; omega⟩]
theorem z_l2i {x : Int} (hd : decode M.2.1 pc = .ok (.l2i, 1)) (hx : zRL x) (hp : pc + 1 = pc') (k : zB G R kc ks Z M pc' L (vi x :: st) h) : zB G R kc ks Z M pc L (vl x :: st) h := by
  subst hp
  intro o vs vl p e s m args below meth c H locs ls F P S Lv
  have K := k o (zvs_i _ (zvs_t vs)) vl p e s m args below meth c H locs ls F P S Lv
  refine lv_l2i F.1 F.2.1 hd (v := Int32.ofInt x) ?_ K
  rw [← Int32.toInt_inj, Int64.toInt_toInt32, zL_toInt hx, Int32.toInt_ofInt]
theorem z_lcmp {x y : Int} (hd : decode M.2.1 pc = .ok (.lcmp, 1)) (hp : pc + 1 = pc') (k : zB G R kc ks Z M pc' L (vi (zcmp x y) :: st) h) : zB G R kc ks Z M pc L (vl y :: vl x :: st) h := by
  subst hp
  intro o vs vl p e s m args below meth c H locs ls F P S Lv
  have K := k o (zvs_i _ (zvs_t (zvs_t vs))) vl p e s m args below meth c H locs ls F P S Lv
  rw [List.map_cons, zcv_i, zcmp, Int32.ofInt_toInt] at K
  exact W.lcmp F.1 F.2.1 hd K
theorem zI_of {x : Int} (h0 : 0 ≤ x) : Int32.ofInt x = nI x.toNat := by
  obtain ⟨j, rfl⟩ : ∃ j : Nat, x = j := ⟨x.toNat, by omega⟩
  rfl
theorem zL_of {x : Int} (h0 : 0 ≤ x) : Int64.ofInt x = lN x.toNat := by
  obtain ⟨j, rfl⟩ : ∃ j : Nat, x = j := ⟨x.toNat, by omega⟩
  rfl
theorem z_idiv {x y : Int} (hd : decode M.2.1 pc = .ok (.idiv, 1)) (hx : 0 ≤ x ∧ x < 2147483648 ∧ 0 < y ∧ y < 2147483648) (hp : pc + 1 = pc') (k : zB G R kc ks Z M pc' L (vi (x / y) :: st) h) : zB G R kc ks Z M pc L (vi y :: vi x :: st) h := by
  subst hp
  intro o vs vl p e s m args below meth c H locs ls F P S Lv
  have K := k o (zvs_i _ (zvs_t (zvs_t vs))) vl p e s m args below meth c H locs ls F P S Lv
  obtain ⟨a, rfl⟩ : ∃ a : Nat, x = a := ⟨x.toNat, by omega⟩
  obtain ⟨b, rfl⟩ : ∃ b : Nat, y = b := ⟨y.toNat, by omega⟩
  rw [List.map_cons, zcv_i, show (a : Int) / b = ((a / b : Nat) : Int) from rfl, zofInt, ← pk_div (by omega) (by omega) (by omega)] at K
  exact lv_idiv F.1 F.2.1 hd (nI_ne0 (by omega) (by omega)) K
theorem z_irem {x y : Int} (hd : decode M.2.1 pc = .ok (.irem, 1)) (hx : 0 ≤ x ∧ x < 2147483648 ∧ 0 < y ∧ y < 2147483648) (hp : pc + 1 = pc') (k : zB G R kc ks Z M pc' L (vi (x % y) :: st) h) : zB G R kc ks Z M pc L (vi y :: vi x :: st) h := by
  subst hp
  intro o vs vl p e s m args below meth c H locs ls F P S Lv
  have K := k o (zvs_i _ (zvs_t (zvs_t vs))) vl p e s m args below meth c H locs ls F P S Lv
  obtain ⟨a, rfl⟩ : ∃ a : Nat, x = a := ⟨x.toNat, by omega⟩
  obtain ⟨b, rfl⟩ : ∃ b : Nat, y = b := ⟨y.toNat, by omega⟩
  rw [List.map_cons, zcv_i, show (a : Int) % b = ((a % b : Nat) : Int) from rfl, zofInt, ← pk_rem (by omega) (by omega) (by omega)] at K
  exact lv_irem F.1 F.2.1 hd (nI_ne0 (by omega) (by omega)) K
theorem zlN_ne0 {n : Nat} (h0 : 0 < n) (h : n < 2 ^ 63) : ¬ lN n = 0 := fun q => absurd ((pk_lEQ h (by decide)).mp (show lN n = lN 0 from q)) (by omega)
theorem z_ldiv {x y : Int} (hd : decode M.2.1 pc = .ok (.ldiv, 1)) (hx : 0 ≤ x ∧ x < 9223372036854775808 ∧ 0 < y ∧ y < 9223372036854775808) (hp : pc + 1 = pc') (k : zB G R kc ks Z M pc' L (vl (x / y) :: st) h) : zB G R kc ks Z M pc L (vl y :: vl x :: st) h := by
  subst hp
  intro o vs vl p e s m args below meth c H locs ls F P S Lv
  have K := k o (zvs_l _ (zvs_t (zvs_t vs))) vl p e s m args below meth c H locs ls F P S Lv
  obtain ⟨a, rfl⟩ : ∃ a : Nat, x = a := ⟨x.toNat, by omega⟩
  obtain ⟨b, rfl⟩ : ∃ b : Nat, y = b := ⟨y.toNat, by omega⟩
  rw [List.map_cons, zcv_l, show (a : Int) / b = ((a / b : Nat) : Int) from rfl, show Int64.ofInt ((a / b : Nat) : Int) = lN (a / b) from rfl, ← pk_lDiv (by omega) (by omega) (by omega)] at K
  exact lv_ldiv F.1 F.2.1 hd (zlN_ne0 (by omega) (by omega)) K
theorem z_lrem {x y : Int} (hd : decode M.2.1 pc = .ok (.lrem, 1)) (hx : 0 ≤ x ∧ x < 9223372036854775808 ∧ 0 < y ∧ y < 9223372036854775808) (hp : pc + 1 = pc') (k : zB G R kc ks Z M pc' L (vl (x % y) :: st) h) : zB G R kc ks Z M pc L (vl y :: vl x :: st) h := by
  subst hp
  intro o vs vl p e s m args below meth c H locs ls F P S Lv
  have K := k o (zvs_l _ (zvs_t (zvs_t vs))) vl p e s m args below meth c H locs ls F P S Lv
  obtain ⟨a, rfl⟩ : ∃ a : Nat, x = a := ⟨x.toNat, by omega⟩
  obtain ⟨b, rfl⟩ : ∃ b : Nat, y = b := ⟨y.toNat, by omega⟩
  rw [List.map_cons, zcv_l, show (a : Int) % b = ((a % b : Nat) : Int) from rfl, show Int64.ofInt ((a % b : Nat) : Int) = lN (a % b) from rfl, ← pk_lRem (by omega) (by omega) (by omega)] at K
  exact lv_lrem F.1 F.2.1 hd (zlN_ne0 (by omega) (by omega)) K
theorem z_dup {v : zV} (hd : decode M.2.1 pc = .ok (.dup, 1)) (hv : v.1 ≠ 1) (hp : pc + 1 = pc') (k : zB G R kc ks Z M pc' L (v :: v :: st) h) : zB G R kc ks Z M pc L (v :: st) h := by
  subst hp
  intro o vs vl p e s m args below meth c H locs ls F P S Lv
  exact lv_dup F.1 F.2.1 hd (zcv_cat1 G v hv) (k o (zvs_c (zvs_h vs) vs) vl p e s m args below meth c H locs ls F P S Lv)
theorem z_pop {v : zV} (hd : decode M.2.1 pc = .ok (.pop, 1)) (hv : v.1 ≠ 1) (hp : pc + 1 = pc') (k : zB G R kc ks Z M pc' L st h) : zB G R kc ks Z M pc L (v :: st) h := by
  subst hp
  intro o vs vl p e s m args below meth c H locs ls F P S Lv
  exact lv_pop F.1 F.2.1 hd (zcv_cat1 G v hv) (k o (zvs_t vs) vl p e s m args below meth c H locs ls F P S Lv)
theorem z_dup2 {v w : zV} (hd : decode M.2.1 pc = .ok (.dup2, 1)) (hv : v.1 ≠ 1) (hw : w.1 ≠ 1) (hp : pc + 1 = pc') (k : zB G R kc ks Z M pc' L (v :: w :: v :: w :: st) h) : zB G R kc ks Z M pc L (v :: w :: st) h := by
  subst hp
  intro o vs vl p e s m args below meth c H locs ls F P S Lv
  exact lv_dup2_11 F.1 F.2.1 hd (zcv_cat1 G v hv) (zcv_cat1 G w hw) (k o (zvs_c (zvs_h vs) (zvs_c (zvs_h (zvs_t vs)) vs)) vl p e s m args below meth c H locs ls F P S Lv)
theorem z_icmp_eq {x y : Int} {off : Int} {tgt : Nat} (hd : decode M.2.1 pc = .ok (.if_icmp .eq off, 3)) (ht : (pc : Int) + off = (tgt : Int)) (hx : zR x) (hy : zR y) (hp : pc + 3 = pc') (k : (x = y → zB G R kc ks Z M tgt L st h) ∧ (¬ x = y → zB G R kc ks Z M pc' L st h)) : zB G R kc ks Z M pc L (vi y :: vi x :: st) h := by
  subst hp
  intro o vs vl p e s m args below meth c H locs ls F P S Lv
  exact lv_icmp_eq F.1 F.2.1 hd ht (fun q => k.1 ((zI_eq hx hy).mp q) o (zvs_t (zvs_t vs)) vl p e s m args below meth c H locs ls F P S Lv) (fun q => k.2 (fun z => q ((zI_eq hx hy).mpr z)) o (zvs_t (zvs_t vs)) vl p e s m args below meth c H locs ls F P S Lv)
theorem z_if_eq {x : Int} {off : Int} {tgt : Nat} (hd : decode M.2.1 pc = .ok (.ifCond .eq off, 3)) (ht : (pc : Int) + off = (tgt : Int)) (hx : zR x) (hp : pc + 3 = pc') (k : (x = 0 → zB G R kc ks Z M tgt L st h) ∧ (¬ x = 0 → zB G R kc ks Z M pc' L st h)) : zB G R kc ks Z M pc L (vi x :: st) h := by
  subst hp
  intro o vs vl p e s m args below meth c H locs ls F P S Lv
  exact lv_if_eq F.1 F.2.1 hd ht (fun q => k.1 ((zI_eq hx zR0).mp q) o (zvs_t vs) vl p e s m args below meth c H locs ls F P S Lv) (fun q => k.2 (fun z => q ((zI_eq hx zR0).mpr z)) o (zvs_t vs) vl p e s m args below meth c H locs ls F P S Lv)
theorem z_icmp_ne {x y : Int} {off : Int} {tgt : Nat} (hd : decode M.2.1 pc = .ok (.if_icmp .ne off, 3)) (ht : (pc : Int) + off = (tgt : Int)) (hx : zR x) (hy : zR y) (hp : pc + 3 = pc') (k : (¬ x = y → zB G R kc ks Z M tgt L st h) ∧ (x = y → zB G R kc ks Z M pc' L st h)) : zB G R kc ks Z M pc L (vi y :: vi x :: st) h := by
  subst hp
  intro o vs vl p e s m args below meth c H locs ls F P S Lv
  exact lv_icmp_ne F.1 F.2.1 hd ht (fun q => k.1 (fun z => q ((zI_eq hx hy).mpr z)) o (zvs_t (zvs_t vs)) vl p e s m args below meth c H locs ls F P S Lv) (fun q => k.2 ((zI_eq hx hy).mp q) o (zvs_t (zvs_t vs)) vl p e s m args below meth c H locs ls F P S Lv)
theorem z_if_ne {x : Int} {off : Int} {tgt : Nat} (hd : decode M.2.1 pc = .ok (.ifCond .ne off, 3)) (ht : (pc : Int) + off = (tgt : Int)) (hx : zR x) (hp : pc + 3 = pc') (k : (¬ x = 0 → zB G R kc ks Z M tgt L st h) ∧ (x = 0 → zB G R kc ks Z M pc' L st h)) : zB G R kc ks Z M pc L (vi x :: st) h := by
  subst hp
  intro o vs vl p e s m args below meth c H locs ls F P S Lv
  exact lv_if_ne F.1 F.2.1 hd ht (fun q => k.1 (fun z => q ((zI_eq hx zR0).mpr z)) o (zvs_t vs) vl p e s m args below meth c H locs ls F P S Lv) (fun q => k.2 ((zI_eq hx zR0).mp q) o (zvs_t vs) vl p e s m args below meth c H locs ls F P S Lv)
theorem z_icmp_lt {x y : Int} {off : Int} {tgt : Nat} (hd : decode M.2.1 pc = .ok (.if_icmp .lt off, 3)) (ht : (pc : Int) + off = (tgt : Int)) (hx : zR x) (hy : zR y) (hp : pc + 3 = pc') (k : (x < y → zB G R kc ks Z M tgt L st h) ∧ (¬ x < y → zB G R kc ks Z M pc' L st h)) : zB G R kc ks Z M pc L (vi y :: vi x :: st) h := by
  subst hp
  intro o vs vl p e s m args below meth c H locs ls F P S Lv
  exact lv_icmp_lt F.1 F.2.1 hd ht (fun q => k.1 ((zI_lt hx hy).mp q) o (zvs_t (zvs_t vs)) vl p e s m args below meth c H locs ls F P S Lv) (fun q => k.2 (fun z => q ((zI_lt hx hy).mpr z)) o (zvs_t (zvs_t vs)) vl p e s m args below meth c H locs ls F P S Lv)
theorem z_if_lt {x : Int} {off : Int} {tgt : Nat} (hd : decode M.2.1 pc = .ok (.ifCond .lt off, 3)) (ht : (pc : Int) + off = (tgt : Int)) (hx : zR x) (hp : pc + 3 = pc') (k : (x < 0 → zB G R kc ks Z M tgt L st h) ∧ (¬ x < 0 → zB G R kc ks Z M pc' L st h)) : zB G R kc ks Z M pc L (vi x :: st) h := by
  subst hp
  intro o vs vl p e s m args below meth c H locs ls F P S Lv
  exact lv_if_lt F.1 F.2.1 hd ht (fun q => k.1 ((zI_lt hx zR0).mp q) o (zvs_t vs) vl p e s m args below meth c H locs ls F P S Lv) (fun q => k.2 (fun z => q ((zI_lt hx zR0).mpr z)) o (zvs_t vs) vl p e s m args below meth c H locs ls F P S Lv)
theorem z_icmp_ge {x y : Int} {off : Int} {tgt : Nat} (hd : decode M.2.1 pc = .ok (.if_icmp .ge off, 3)) (ht : (pc : Int) + off = (tgt : Int)) (hx : zR x) (hy : zR y) (hp : pc + 3 = pc') (k : (y ≤ x → zB G R kc ks Z M tgt L st h) ∧ (¬ y ≤ x → zB G R kc ks Z M pc' L st h)) : zB G R kc ks Z M pc L (vi y :: vi x :: st) h := by
  subst hp
  intro o vs vl p e s m args below meth c H locs ls F P S Lv
  exact lv_icmp_ge F.1 F.2.1 hd ht (fun q => k.1 ((zI_le hy hx).mp q) o (zvs_t (zvs_t vs)) vl p e s m args below meth c H locs ls F P S Lv) (fun q => k.2 (fun z => q ((zI_le hy hx).mpr z)) o (zvs_t (zvs_t vs)) vl p e s m args below meth c H locs ls F P S Lv)
theorem z_if_ge {x : Int} {off : Int} {tgt : Nat} (hd : decode M.2.1 pc = .ok (.ifCond .ge off, 3)) (ht : (pc : Int) + off = (tgt : Int)) (hx : zR x) (hp : pc + 3 = pc') (k : (0 ≤ x → zB G R kc ks Z M tgt L st h) ∧ (¬ 0 ≤ x → zB G R kc ks Z M pc' L st h)) : zB G R kc ks Z M pc L (vi x :: st) h := by
  subst hp
  intro o vs vl p e s m args below meth c H locs ls F P S Lv
  exact lv_if_ge F.1 F.2.1 hd ht (fun q => k.1 ((zI_le zR0 hx).mp q) o (zvs_t vs) vl p e s m args below meth c H locs ls F P S Lv) (fun q => k.2 (fun z => q ((zI_le zR0 hx).mpr z)) o (zvs_t vs) vl p e s m args below meth c H locs ls F P S Lv)
theorem z_icmp_gt {x y : Int} {off : Int} {tgt : Nat} (hd : decode M.2.1 pc = .ok (.if_icmp .gt off, 3)) (ht : (pc : Int) + off = (tgt : Int)) (hx : zR x) (hy : zR y) (hp : pc + 3 = pc') (k : (y < x → zB G R kc ks Z M tgt L st h) ∧ (¬ y < x → zB G R kc ks Z M pc' L st h)) : zB G R kc ks Z M pc L (vi y :: vi x :: st) h := by
  subst hp
  intro o vs vl p e s m args below meth c H locs ls F P S Lv
  exact lv_icmp_gt F.1 F.2.1 hd ht (fun q => k.1 ((zI_lt hy hx).mp q) o (zvs_t (zvs_t vs)) vl p e s m args below meth c H locs ls F P S Lv) (fun q => k.2 (fun z => q ((zI_lt hy hx).mpr z)) o (zvs_t (zvs_t vs)) vl p e s m args below meth c H locs ls F P S Lv)
theorem z_if_gt {x : Int} {off : Int} {tgt : Nat} (hd : decode M.2.1 pc = .ok (.ifCond .gt off, 3)) (ht : (pc : Int) + off = (tgt : Int)) (hx : zR x) (hp : pc + 3 = pc') (k : (0 < x → zB G R kc ks Z M tgt L st h) ∧ (¬ 0 < x → zB G R kc ks Z M pc' L st h)) : zB G R kc ks Z M pc L (vi x :: st) h := by
  subst hp
  intro o vs vl p e s m args below meth c H locs ls F P S Lv
  exact lv_if_gt F.1 F.2.1 hd ht (fun q => k.1 ((zI_lt zR0 hx).mp q) o (zvs_t vs) vl p e s m args below meth c H locs ls F P S Lv) (fun q => k.2 (fun z => q ((zI_lt zR0 hx).mpr z)) o (zvs_t vs) vl p e s m args below meth c H locs ls F P S Lv)
theorem z_icmp_le {x y : Int} {off : Int} {tgt : Nat} (hd : decode M.2.1 pc = .ok (.if_icmp .le off, 3)) (ht : (pc : Int) + off = (tgt : Int)) (hx : zR x) (hy : zR y) (hp : pc + 3 = pc') (k : (x ≤ y → zB G R kc ks Z M tgt L st h) ∧ (¬ x ≤ y → zB G R kc ks Z M pc' L st h)) : zB G R kc ks Z M pc L (vi y :: vi x :: st) h := by
  subst hp
  intro o vs vl p e s m args below meth c H locs ls F P S Lv
  exact lv_icmp_le F.1 F.2.1 hd ht (fun q => k.1 ((zI_le hx hy).mp q) o (zvs_t (zvs_t vs)) vl p e s m args below meth c H locs ls F P S Lv) (fun q => k.2 (fun z => q ((zI_le hx hy).mpr z)) o (zvs_t (zvs_t vs)) vl p e s m args below meth c H locs ls F P S Lv)
theorem z_if_le {x : Int} {off : Int} {tgt : Nat} (hd : decode M.2.1 pc = .ok (.ifCond .le off, 3)) (ht : (pc : Int) + off = (tgt : Int)) (hx : zR x) (hp : pc + 3 = pc') (k : (x ≤ 0 → zB G R kc ks Z M tgt L st h) ∧ (¬ x ≤ 0 → zB G R kc ks Z M pc' L st h)) : zB G R kc ks Z M pc L (vi x :: st) h := by
  subst hp
  intro o vs vl p e s m args below meth c H locs ls F P S Lv
  exact lv_if_le F.1 F.2.1 hd ht (fun q => k.1 ((zI_le hx zR0).mp q) o (zvs_t vs) vl p e s m args below meth c H locs ls F P S Lv) (fun q => k.2 (fun z => q ((zI_le hx zR0).mpr z)) o (zvs_t vs) vl p e s m args below meth c H locs ls F P S Lv)
theorem z_goto {off : Int} {tgt : Nat} (hd : decode M.2.1 pc = .ok (.goto off, 3)) (ht : (pc : Int) + off = (tgt : Int)) (k : zB G R kc ks Z M tgt L st h) : zB G R kc ks Z M pc L st h := by
  intro o vs vl p e s m args below meth c H locs ls F P S Lv
  exact lv_goto F.1 F.2.1 hd ht (k o vs vl p e s m args below meth c H locs ls F P S Lv)
theorem z_table {dflt lo hi : Int} {offs : Array Int} {len : Nat} {x : Int} {dt : Nat} {ts : List Nat} (hd : decode M.2.1 pc = .ok (.tableswitch dflt lo hi offs, len)) (hx : zR x) (hdt : (pc : Int) + dflt = (dt : Int)) (hts : offs.toList.map (fun q => (pc : Int) + q) = ts.map (fun n : Nat => (n : Int))) (hlen : (ts.length : Int) = hi - lo + 1)
    (k : (x < lo ∨ hi < x → zB G R kc ks Z M dt L st h) ∧ ∀ (i t : Nat), ts[i]? = some t → x = lo + i → zB G R kc ks Z M t L st h) : zB G R kc ks Z M pc L (vi x :: st) h := by
  intro o vs vl p e s m args below meth c H locs ls F P S Lv
  by_cases hr : x < lo ∨ hi < x
  · exact lv_tableOut F.1 F.2.1 hd (by rw [zI_toInt hx]; exact hr) hdt (k.1 hr o (zvs_t vs) vl p e s m args below meth c H locs ls F P S Lv)
  · have hlt : (x - lo).toNat < ts.length := by omega
    have e1 : (ts.map (fun n : Nat => (n : Int)))[(x - lo).toNat]? = some ((ts[(x - lo).toNat]'hlt : Nat) : Int) := by rw [List.getElem?_map, List.getElem?_eq_getElem hlt]; rfl
    rw [← hts, List.getElem?_map] at e1
    cases ho : offs.toList[(x - lo).toNat]? with
    | none => rw [ho] at e1; cases e1
    | some off =>
      rw [ho] at e1
      have e2 : (pc : Int) + off = ((ts[(x - lo).toNat]'hlt : Nat) : Int) := Option.some.inj e1
      exact lv_tableIn F.1 F.2.1 hd (by rw [zI_toInt hx]; omega) (by rw [zI_toInt hx]; omega) (by rw [zI_toInt hx, ← Array.getElem?_toList]; exact ho) e2 (k.2 (x - lo).toNat _ (List.getElem?_eq_getElem hlt) (by omega) o (zvs_t vs) vl p e s m args below meth c H locs ls F P S Lv)
end ZR
