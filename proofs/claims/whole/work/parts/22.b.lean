/-! ===== sets of states, free steps ===== -/
def tS (x : Int) (q : Int) : Prop := 0 ≤ q ∧ q < 64 ∧ tb x q = true
/-- a long tells a set -/
def lp (x : Int) (S : Int → Prop) : Prop := zRL x ∧ ∀ q, tS x q ↔ S q
theorem lp_eq {x y : Int} {S : Int → Prop} (a : lp x S) (b : lp y S) : x = y := by
  refine tb_ext a.1 b.1 (fun k h0 h1 => ?_)
  have e := (a.2 k).trans (b.2 k).symm
  unfold tS at e
  cases hx : tb x k
  · cases hy : tb y k
    · rfl
    · have := (e.mpr ⟨h0, h1, hy⟩).2.2
      rw [hx] at this
      exact this
  · have := (e.mp ⟨h0, h1, hx⟩).2.2
    rw [this]
theorem lp_iff {x : Int} {S S' : Int → Prop} (a : lp x S) (e : ∀ q, S q ↔ S' q) : lp x S' := ⟨a.1, fun q => (a.2 q).trans (e q)⟩
theorem tS_lor {x y q : Int} : tS (zlor x y) q ↔ tS x q ∨ tS y q := by
  unfold tS
  rw [tb_lor, Bool.or_eq_true]
  constructor
  · rintro ⟨a, b, c | c⟩
    · exact Or.inl ⟨a, b, c⟩
    · exact Or.inr ⟨a, b, c⟩
  · rintro (⟨a, b, c⟩ | ⟨a, b, c⟩)
    · exact ⟨a, b, Or.inl c⟩
    · exact ⟨a, b, Or.inr c⟩
theorem tS_shl {k q : Int} (h0 : 0 ≤ k) (h1 : k < 64) : tS (zlshl 1 k) q ↔ q = k := by
  unfold tS
  constructor
  · rintro ⟨a, b, c⟩
    rw [tb_lshl h0 h1 a b, Bool.and_eq_true, decide_eq_true_iff] at c
    have d := c.2
    rw [tb_1 (by omega), decide_eq_true_iff] at d
    omega
  · intro e
    subst e
    refine ⟨h0, h1, ?_⟩
    rw [tb_lshl h0 h1 h0 h1, Bool.and_eq_true, decide_eq_true_iff, tb_1 (by omega), decide_eq_true_iff]
    omega
theorem tS_0 {q : Int} : ¬ tS 0 q := fun h => by
  have := h.2.2
  rw [tb_0] at this
  cases this
theorem tS_1 {q : Int} : tS 1 q ↔ q = 0 := by
  unfold tS
  constructor
  · rintro ⟨a, b, c⟩
    rwa [tb_1 a, decide_eq_true_iff] at c
  · intro e
    subst e
    exact ⟨by omega, by omega, by rw [tb_1 (by omega)]; rfl⟩
theorem lp_shl {k : Int} (h0 : 0 ≤ k) (h1 : k < 64) : lp (zlshl 1 k) (fun q => q = k) := ⟨zlshl_R _ _, fun _ => tS_shl h0 h1⟩
theorem lp_lor {x y : Int} {S T : Int → Prop} (a : lp x S) (b : lp y T) : lp (zlor x y) (fun q => S q ∨ T q) := ⟨zlor_R _ _, fun q => by rw [tS_lor, a.2 q, b.2 q]⟩
theorem lp_self {x : Int} (h : zRL x) : lp x (tS x) := ⟨h, fun _ => Iff.rfl⟩
theorem zRL_0 : zRL 0 := ⟨by decide, by decide⟩
theorem zRL_1 : zRL 1 := ⟨by decide, by decide⟩
/-- to what the first n free steps lead from some -/
def dClk (D : zH) (n : Int) (P : Int → Prop) (q : Int) : Prop := ∀ C : Int → Prop, (∀ p, P p → C p) → (∀ i, 0 ≤ i → i < n → C (D 5 i) → C (D 6 i)) → C q
abbrev dCl (D : zH) (P : Int → Prop) (q : Int) : Prop := dClk D (D 0 3) P q
section CL
variable {D : zH} {n : Int} {P Q : Int → Prop} {q : Int}
theorem dClk_in (h : P q) : dClk D n P q := fun _ c _ => c q h
theorem dClk_st {i : Int} (h0 : 0 ≤ i) (h1 : i < n) (h : dClk D n P (D 5 i)) : dClk D n P (D 6 i) := fun C c s => s i h0 h1 (h C c s)
theorem dClk_0 : dClk D 0 P q ↔ P q := ⟨fun h => h P (fun _ a => a) (fun i a b => absurd b (by omega)), dClk_in⟩
theorem dClk_sub (hs : ∀ p, P p → dClk D n Q p) (h : dClk D n P q) : dClk D n Q q := h (dClk D n Q) hs (fun _ a b c => dClk_st a b c)
theorem dClk_mono {m : Int} (hm : n ≤ m) (h : dClk D n P q) : dClk D m P q := fun C c s => h C c (fun i a b => s i a (by omega))
theorem dClk_s (hn : 0 ≤ n) : dClk D (n + 1) P q ↔ dClk D n P q ∨ (dClk D n P (D 5 n) ∧ dClk D n (fun p => p = D 6 n) q) := by
  constructor
  · intro h
    refine h (fun q => dClk D n P q ∨ (dClk D n P (D 5 n) ∧ dClk D n (fun p => p = D 6 n) q)) (fun p a => Or.inl (dClk_in a)) (fun i a b c => ?_)
    by_cases e : i = n
    · subst e
      refine Or.inr ⟨?_, dClk_in rfl⟩
      rcases c with c | c
      · exact c
      · exact c.1
    · rcases c with c | c
      · exact Or.inl (dClk_st a (by omega) c)
      · exact Or.inr ⟨c.1, dClk_st a (by omega) c.2⟩
  · rintro (h | ⟨h, k⟩)
    · exact dClk_mono (by omega) h
    · refine dClk_sub (fun p e => ?_) (dClk_mono (by omega) k)
      rw [e]
      exact dClk_st hn (by omega) (dClk_mono (by omega) h)
theorem dClk_un : dClk D n P q ↔ ∃ p, P p ∧ dClk D n (fun z => z = p) q := by
  constructor
  · intro h
    exact h (fun q => ∃ p, P p ∧ dClk D n (fun z => z = p) q) (fun p a => ⟨p, a, dClk_in rfl⟩) (fun i a b ⟨p, c, e⟩ => ⟨p, c, dClk_st a b e⟩)
  · rintro ⟨p, a, b⟩
    exact dClk_sub (fun z e => by rw [e]; exact dClk_in a) b
theorem dClk_rg (hD : mOK D) (hn : n ≤ D 0 3) (hP : ∀ p, P p → 0 ≤ p ∧ p < 64) (h : dClk D n P q) : 0 ≤ q ∧ q < 64 :=
  h (fun q => 0 ≤ q ∧ q < 64) hP (fun i a b _ => by have := mO_f hD a (by omega); have := mO_st hD; omega)
theorem dClk_iff (e : ∀ p, P p ↔ Q p) : dClk D n P q ↔ dClk D n Q q := ⟨dClk_sub (fun p a => dClk_in ((e p).mp a)), dClk_sub (fun p a => dClk_in ((e p).mpr a))⟩
end CL
/-- how many bits -/
def zpop (x : Int) : Int := zsum (fun k => if tb x k = true then 1 else 0) 64
theorem zpop_01 (x : Int) : 0 ≤ zpop x ∧ zpop x ≤ 64 := zsum_01 (n := 64) (fun i _ _ => by by_cases c : tb x i = true <;> simp [c])
theorem zsum_lt {f g : Int → Int} {n : Nat} (h : ∀ i : Int, 0 ≤ i → i < n → f i ≤ g i) {j : Int} (j0 : 0 ≤ j) (j1 : j < n) (hj : f j < g j) : zsum f n < zsum g n := by
  have le : ∀ m : Nat, m ≤ n → zsum f m ≤ zsum g m := by
    intro m
    induction m with
    | zero => exact fun _ => Int.le_refl _
    | succ m ih =>
      intro hm
      have a := ih (by omega)
      have b := h m (by omega) (by omega)
      show zsum f m + f m ≤ zsum g m + g m
      omega
  have lt : ∀ m : Nat, m ≤ n → j < m → zsum f m < zsum g m := by
    intro m
    induction m with
    | zero => exact fun _ q => absurd q (by omega)
    | succ m ih =>
      intro hm hj2
      show zsum f m + f m < zsum g m + g m
      by_cases e : j = m
      · subst e
        have a := le m (by omega)
        omega
      · have a := ih (by omega) (by omega)
        have b := h m (by omega) (by omega)
        omega
  exact lt n (Nat.le_refl _) j1
theorem zpop_lt {x y : Int} (hx : zRL x) (hy : zRL y) (h : ∀ q, tS x q → tS y q) (ne : x ≠ y) : zpop x < zpop y := by
  have ex : ∃ k, 0 ≤ k ∧ k < 64 ∧ tb x k ≠ tb y k := Classical.byContradiction (fun no => ne (tb_ext hx hy (fun k a b => Classical.byContradiction (fun c => no ⟨k, a, b, c⟩))))
  obtain ⟨k, a, b, c⟩ := ex
  refine zsum_lt (n := 64) (fun i i0 i1 => ?_) a b ?_
  · by_cases e : tb x i = true
    · rw [if_pos e, if_pos (h i ⟨i0, i1, e⟩).2.2]
      exact Int.le_refl _
    · rw [if_neg e]
      by_cases e2 : tb y i = true
      · rw [if_pos e2]
        omega
      · rw [if_neg e2]
        exact Int.le_refl _
  · have e : ¬ tb x k = true := fun e => c (by rw [e, (h k ⟨a, b, e⟩).2.2])
    have e2 : tb y k = true := by
      cases hy2 : tb y k
      · exact absurd (by rw [hy2]; cases hx2 : tb x k; rfl; exact absurd hx2 e) c
      · rfl
    show (if tb x k = true then (1 : Int) else 0) < (if tb y k = true then 1 else 0)
    rw [if_neg e, if_pos e2]
    omega
section SO
variable {G : zG} {d : Nat} {h D : zH}
/-- the model's fixpoint -/
theorem sm_freed {K : Int → zH → Prop} {i x : Int} (hD : mOK D) (hi : 0 ≤ i ∧ i < 14) (hr : mRep h i D) (hx : zRL x) (k : ∀ y, lp y (dCl D (tS x)) → K y h) : zCl G (d + 1) mX12_freed [vr 12 466, vi i, vl x] h K := by
  have hF := mO_fr hD
  have hS := mO_st hD
  obtain ⟨⟨-, -, -, c10, -⟩, -, r, -⟩ := hr
  -- a pass
  have pass : ∀ (f : Nat) (then_ all j : Int), 0 ≤ j → j + f = D 0 3 → zRL all → zRL then_ → (∀ q, tS x q → tS all q) → (∀ q, tS all q → dCl D (tS x) q) → (∀ q, tS then_ q → tS all q) → (then_ = all → ∀ a, 0 ≤ a → a < j → tS all (D 5 a) → tS all (D 6 a)) → (∀ all', zRL all' → (∀ q, tS x q → tS all' q) → (∀ q, tS all' q → dCl D (tS x) q) → (then_ = all' → ∀ a, 0 ≤ a → a < D 0 3 → tS all' (D 5 a) → tS all' (D 6 a)) → (then_ ≠ all' → zpop then_ < zpop all') → (then_ = all' → tX12_freed_6 G d K i all' 0 h) ∧ (then_ ≠ all' → tX12_freed_6 G d K i all' 1 h)) → tX12_freed_21 G d K i all then_ (i * 64 + j) h := by
    intro f
    induction f with
    | zero =>
      intro then_ all j j0 jf ra rt sx sc st cl fin
      obtain ⟨k1, k2⟩ := fin all ra sx sc (fun e a a0 a1 => cl e a a0 (by omega)) (fun ne => zpop_lt rt ra st ne)
      refine bX12_freed_21 ⟨hi, ⟨by omega, by omega⟩, ?_⟩
      rw [c10]
      refine ⟨⟨by omega, by omega⟩, fun _ => ⟨fun q => k1 ((zcmp_lt rt ra).2.1.mp q), fun q => k2 (fun e => q ((zcmp_lt rt ra).2.1.mpr e))⟩, fun q => absurd q (by omega)⟩
    | succ f ih =>
      intro then_ all j j0 jf ra rt sx sc st cl fin
      refine bX12_freed_21 ⟨hi, ⟨by omega, by omega⟩, ?_⟩
      rw [c10]
      obtain ⟨r5, r6⟩ := r j j0 (by omega)
      have f56 := mO_f hD j0 (show j < D 0 3 by omega)
      refine ⟨⟨by omega, by omega⟩, fun q => absurd q (by omega), fun _ => ⟨⟨by omega, by omega⟩, ?_⟩⟩
      rw [r5]
      refine sm_bit (by omega) ⟨fun q => ?_, fun q => ⟨⟨by omega, by omega⟩, ?_⟩⟩
      · rw [Int.add_assoc]
        refine ih then_ all (j + 1) (by omega) (by omega) ra rt sx sc st (fun e a a0 a1 t => ?_) fin
        by_cases ea : a = j
        · subst ea
          have := t.2.2
          rw [q] at this
          cases this
        · exact cl e a a0 (by omega) t
      · rw [r6, Int.add_assoc]
        have in5 : tS all (D 5 j) := ⟨by omega, by omega, q⟩
        have nt : ∀ q, tS (zlor all (zlshl 1 (D 6 j))) q ↔ tS all q ∨ q = D 6 j := fun q => by rw [tS_lor, tS_shl (by omega) (by omega)]
        refine ih then_ _ (j + 1) (by omega) (by omega) (zlor_R _ _) rt (fun p a => (nt p).mpr (Or.inl (sx p a))) (fun p a => ?_) (fun p a => (nt p).mpr (Or.inl (st p a))) (fun e a a0 a1 t => ?_) fin
        · rcases (nt p).mp a with c | c
          · exact sc p c
          · rw [c]
            exact dClk_st j0 (by omega) (sc _ in5)
        · have all_eq : all = then_ := by
            refine lp_eq (lp_self ra) ⟨rt, fun p => ⟨fun c => st p c, fun c => ?_⟩⟩
            rw [e]
            exact (nt p).mpr (Or.inl c)
          by_cases ea : a = j
          · subst ea
            exact (nt _).mpr (Or.inr rfl)
          · have old := cl all_eq.symm a a0 (by omega)
            rw [← e, ← all_eq] at t ⊢
            exact old t
  have loop : ∀ (f : Nat) (all : Int), 64 - zpop all ≤ f → zRL all → (∀ q, tS x q → tS all q) → (∀ q, tS all q → dCl D (tS x) q) → tX12_freed_6 G d K i all 1 h := by
    intro f
    induction f with
    | zero =>
      intro all hf ra sx sc
      refine bX12_freed_6 ⟨⟨by decide, by decide⟩, fun q => absurd q (by decide), fun _ => ?_⟩
      have := pass (D 0 3).toNat all all 0 (by omega) (by omega) ra ra sx sc (fun _ a => a) (fun _ a a0 a1 => absurd a1 (by omega)) (fun all' ra' sx' sc' cl ne => ⟨fun e => ?_, fun e => ?_⟩)
      · rwa [Int.add_zero] at this
      · refine bX12_freed_6 ⟨⟨by decide, by decide⟩, fun _ => k all' ⟨ra', fun q => ⟨sc' q, fun c => ?_⟩⟩, fun q => absurd rfl q⟩
        exact c (tS all') sx' (cl e)
      · have := ne e
        have := zpop_01 all'
        omega
    | succ f ih =>
      intro all hf ra sx sc
      refine bX12_freed_6 ⟨⟨by decide, by decide⟩, fun q => absurd q (by decide), fun _ => ?_⟩
      have := pass (D 0 3).toNat all all 0 (by omega) (by omega) ra ra sx sc (fun _ a => a) (fun _ a a0 a1 => absurd a1 (by omega)) (fun all' ra' sx' sc' cl ne => ⟨fun e => ?_, fun e => ?_⟩)
      · rwa [Int.add_zero] at this
      · refine bX12_freed_6 ⟨⟨by decide, by decide⟩, fun _ => k all' ⟨ra', fun q => ⟨sc' q, fun c => ?_⟩⟩, fun q => absurd rfl q⟩
        exact c (tS all') sx' (cl e)
      · have := ne e
        exact ih all' (by omega) ra' sx' sc'
  exact eX12_freed (bX12_freed_0 (loop 64 x (by have := zpop_01 x; omega) hx (fun _ a => a) (fun _ a => dClk_in a)))
end SO
