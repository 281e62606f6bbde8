/-! ===== tables of states and blocks ===== -/
def bSo (S : Int → Int) (x : Int) : Nat → Int
  | 0 => 0
  | k + 1 => if S ((k + 1 : Nat) : Int) ≤ x then ((k + 1 : Nat) : Int) else bSo S x k
/-- the block of a letter, by starts -/
def bS (S : Int → Int) (nb x : Int) : Int := bSo S x (nb - 1).toNat
theorem bSo_rg {S : Int → Int} {x : Int} : ∀ k : Nat, 0 ≤ bSo S x k ∧ bSo S x k ≤ k
  | 0 => ⟨Int.le_refl _, Int.le_refl _⟩
  | k + 1 => by
    unfold bSo
    have := bSo_rg (S := S) (x := x) k
    by_cases c : S ((k + 1 : Nat) : Int) ≤ x
    · rw [if_pos c]
      omega
    · rw [if_neg c]
      omega
theorem bSo_ok {S : Int → Int} {x : Int} (h0 : S 0 ≤ x) : ∀ k : Nat, S (bSo S x k) ≤ x ∧ ∀ c, bSo S x k < c → c ≤ k → x < S c
  | 0 => ⟨h0, fun c a b => absurd b (by have : 0 < c := a; omega)⟩
  | k + 1 => by
    have ih := bSo_ok h0 k
    unfold bSo
    by_cases c : S ((k + 1 : Nat) : Int) ≤ x
    · rw [if_pos c]
      exact ⟨c, fun e a b => absurd b (by omega)⟩
    · rw [if_neg c]
      refine ⟨ih.1, fun e a b => ?_⟩
      by_cases w : e = ((k + 1 : Nat) : Int)
      · rw [w]
        omega
      · exact ih.2 e a (by omega)
theorem bS_rg {S : Int → Int} {nb x : Int} (h : 1 ≤ nb) : 0 ≤ bS S nb x ∧ bS S nb x < nb := by
  have := bSo_rg (S := S) (x := x) (nb - 1).toNat
  unfold bS
  omega
theorem bS_ok {S : Int → Int} {nb x : Int} (h : dS S nb) (x0 : 0 ≤ x) : S (bS S nb x) ≤ x ∧ ∀ c, bS S nb x < c → c < nb → x < S c := by
  have := bSo_ok (S := S) (x := x) (by rw [h.2.1]; exact x0) (nb - 1).toNat
  have n1 := h.1
  exact ⟨this.1, fun c a b => this.2 c a (by omega)⟩
theorem bS_u {S : Int → Int} {nb x b : Int} (h : dS S nb) (x0 : 0 ≤ x) (hb : 0 ≤ b ∧ b < nb) (h1 : S b ≤ x) (h2 : b + 1 < nb → x < S (b + 1)) : bS S nb x = b := by
  have r := bS_rg (S := S) (x := x) h.1.1
  have o := bS_ok h x0
  rcases Int.lt_trichotomy (bS S nb x) b with c | c | c
  · have := o.2 b c hb.2
    omega
  · exact c
  · have n := h2 (by omega)
    by_cases e : bS S nb x = b + 1
    · rw [e] at o
      omega
    · have := h.2.2.2 (b + 1) (bS S nb x) (by omega) (by omega) r.2
      omega
theorem bS_st {S : Int → Int} {nb b : Int} (h : dS S nb) (hb : 0 ≤ b ∧ b < nb) : bS S nb (S b) = b := by
  have r := h.2.2.1 b hb.1 hb.2
  exact bS_u h r.1 hb (Int.le_refl _) (fun z => h.2.2.2 b (b + 1) hb.1 (by omega) z)
theorem bS_ch {S : Int → Int} {nb z : Int} (h : dS S nb) (z0 : 0 < z) (q : ¬ bS S nb z = bS S nb (z - 1)) : ∃ b, (0 ≤ b ∧ b < nb) ∧ S b = z := by
  have r := bS_rg (S := S) (x := z) h.1.1
  have o := bS_ok h (x := z) (by omega)
  refine ⟨bS S nb z, r, ?_⟩
  by_cases w : S (bS S nb z) = z
  · exact w
  · refine absurd (bS_u h (x := z - 1) (by omega) r (by omega) (fun y => ?_)).symm q
    have := o.2 (bS S nb z + 1) (by omega) y
    omega
/-- the letters of a state's edge to another -/
def tX (T : Int → Int → Int) (S : Int → Int) (nb q t z : Int) : Bool := decide (T q (bS S nb z) = t)
noncomputable def foB (T : Int → Int → Int) (q b : Int) : Bool := @decide (∀ k, 0 ≤ k → k < b → ¬ T q k = T q b) (Classical.propDecidable _)
theorem foB_t {T : Int → Int → Int} {q b : Int} : foB T q b = true ↔ ∀ k, 0 ≤ k → k < b → ¬ T q k = T q b := by
  unfold foB
  exact @decide_eq_true_iff _ (Classical.propDecidable _)
/-- the edges of a state, with their letters in the blocks ahead of B -/
noncomputable def eP (T : Int → Int → Int) (S : Int → Int) (nb q B : Int) : Nat → List eT
  | 0 => []
  | b + 1 => if foB T q b = true then eP T S nb q B b ++ [(q, T q b, fun z => tX T S nb q (T q b) z && decide (bS S nb z < B))] else eP T S nb q B b
noncomputable def eQ (T : Int → Int → Int) (S : Int → Int) (nb q : Int) : Nat → List eT
  | 0 => []
  | b + 1 => if foB T q b = true then eQ T S nb q b ++ [(q, T q b, tX T S nb q (T q b))] else eQ T S nb q b
noncomputable def eA (T : Int → Int → Int) (S : Int → Int) (nb : Int) : Nat → List eT
  | 0 => []
  | q + 1 => eA T S nb q ++ eQ T S nb q nb.toNat
section TB
variable {T : Int → Int → Int} {S : Int → Int} {nb q B : Int}
theorem eP_s {b : Nat} : eP T S nb q B (b + 1) = if foB T q b = true then eP T S nb q B b ++ [(q, T q b, fun z => tX T S nb q (T q b) z && decide (bS S nb z < B))] else eP T S nb q B b := rfl
theorem eQ_s {b : Nat} : eQ T S nb q (b + 1) = if foB T q b = true then eQ T S nb q b ++ [(q, T q b, tX T S nb q (T q b))] else eQ T S nb q b := rfl
theorem eA_s {q : Nat} : eA T S nb (q + 1) = eA T S nb q ++ eQ T S nb q nb.toNat := rfl
theorem eP_Q (h : 1 ≤ nb) (hB : nb ≤ B) : ∀ b : Nat, eP T S nb q B b = eQ T S nb q b
  | 0 => rfl
  | b + 1 => by
    have e : (fun z => tX T S nb q (T q b) z && decide (bS S nb z < B)) = tX T S nb q (T q b) := by
      funext z
      have := bS_rg (S := S) (x := z) h
      rw [decide_eq_true (show bS S nb z < B by omega), Bool.and_true]
    rw [eP_s, eQ_s, eP_Q h hB b, e]
theorem eP_len (B' : Int) : ∀ b : Nat, (eP T S nb q B b).length = (eP T S nb q B' b).length
  | 0 => rfl
  | b + 1 => by
    rw [eP_s, eP_s]
    by_cases c : foB T q b = true
    · rw [if_pos c, if_pos c, len_1, len_1, eP_len B' b]
    · rw [if_neg c, if_neg c, eP_len B' b]
/-- what an edge of a state is -/
theorem eP_at : ∀ {b : Nat} {j : Int}, 0 ≤ j → j < (eP T S nb q B b).length → ∃ k : Int, (0 ≤ k ∧ k < b) ∧ gE (eP T S nb q B b) j = (q, T q k, fun z => tX T S nb q (T q k) z && decide (bS S nb z < B))
  | 0, j, h0, h1 => absurd h1 (by show ¬ j < ((0 : Nat) : Int); omega)
  | b + 1, j, h0, h1 => by
    rw [eP_s] at h1 ⊢
    by_cases c : foB T q b = true
    · rw [if_pos c] at h1 ⊢
      rw [len_1] at h1
      by_cases w : j = (eP T S nb q B b).length
      · rw [gE_r w]
        exact ⟨b, by omega, rfl⟩
      · rw [gE_l h0 (by omega)]
        obtain ⟨k, hk, e⟩ := eP_at h0 (show j < (eP T S nb q B b).length by omega)
        exact ⟨k, by omega, e⟩
    · rw [if_neg c] at h1 ⊢
      obtain ⟨k, hk, e⟩ := eP_at h0 h1
      exact ⟨k, by omega, e⟩
/-- every target has its edge -/
theorem eP_ex : ∀ {b : Nat} {k : Int}, 0 ≤ k → k < b → ∃ j : Int, (0 ≤ j ∧ j < (eP T S nb q B b).length) ∧ (gE (eP T S nb q B b) j).2.1 = T q k
  | 0, k, h0, h1 => absurd h1 (by omega)
  | b + 1, k, h0, h1 => by
    rw [eP_s]
    by_cases c : foB T q b = true
    · rw [if_pos c, len_1]
      by_cases w : k = b
      · exact ⟨(eP T S nb q B b).length, by omega, by rw [gE_r rfl, w]⟩
      · obtain ⟨j, hj, e⟩ := eP_ex h0 (show k < (b : Int) by omega)
        exact ⟨j, by omega, by rw [gE_l hj.1 hj.2]; exact e⟩
    · rw [if_neg c]
      by_cases w : k = b
      · have : ∃ k', (0 ≤ k' ∧ k' < (b : Int)) ∧ T q k' = T q b := Classical.byContradiction (fun no => c (foB_t.mpr (fun k' a b' y => no ⟨k', ⟨a, b'⟩, y⟩)))
        obtain ⟨k', hk', e'⟩ := this
        obtain ⟨j, hj, e⟩ := eP_ex hk'.1 hk'.2
        exact ⟨j, hj, by rw [e, e', w]⟩
      · exact eP_ex h0 (by omega)
theorem eP_mono {b : Nat} : ∀ c : Nat, (eP T S nb q B b).length ≤ (eP T S nb q B (b + c)).length
  | 0 => Nat.le_refl _
  | c + 1 => by
    have := eP_mono (b := b) c
    rw [show b + (c + 1) = b + c + 1 by omega, eP_s]
    by_cases w : foB T q ((b + c : Nat) : Int) = true
    · rw [if_pos w, len_1]
      omega
    · rw [if_neg w]
      exact this
theorem eQ_mono (h : 1 ≤ nb) {b c : Nat} (hc : b ≤ c) : (eQ T S nb q b).length ≤ (eQ T S nb q c).length := by
  have := eP_mono (T := T) (S := S) (nb := nb) (q := q) (B := nb) (b := b) (c - b)
  rw [show b + (c - b) = c by omega] at this
  rw [← eP_Q h (Int.le_refl _), ← eP_Q h (Int.le_refl _)]
  exact this
theorem eA_mono {p : Nat} : ∀ c : Nat, (eA T S nb p).length ≤ (eA T S nb (p + c)).length
  | 0 => Nat.le_refl _
  | c + 1 => by
    have := eA_mono (p := p) c
    rw [show p + (c + 1) = p + c + 1 by omega, eA_s, List.length_append]
    omega
theorem eQ_mem (h : 1 ≤ nb) {b : Nat} {x : eT} (hx : x ∈ eQ T S nb q b) : ∃ k : Int, (0 ≤ k ∧ k < b) ∧ x = (q, T q k, tX T S nb q (T q k)) := by
  induction b with
  | zero => exact absurd hx (List.not_mem_nil)
  | succ b ih =>
    rw [eQ_s] at hx
    by_cases c : foB T q b = true
    · rw [if_pos c] at hx
      rcases List.mem_append.mp hx with hx | hx
      · obtain ⟨k, hk, e⟩ := ih hx
        exact ⟨k, by omega, e⟩
      · rw [List.mem_singleton] at hx
        exact ⟨b, by omega, hx⟩
    · rw [if_neg c] at hx
      obtain ⟨k, hk, e⟩ := ih hx
      exact ⟨k, by omega, e⟩
theorem eA_mem (h : 1 ≤ nb) {p : Nat} {x : eT} (hx : x ∈ eA T S nb p) : ∃ q k : Int, (0 ≤ q ∧ q < p) ∧ (0 ≤ k ∧ k < nb) ∧ x = (q, T q k, tX T S nb q (T q k)) := by
  induction p with
  | zero => exact absurd hx (List.not_mem_nil)
  | succ p ih =>
    rw [eA_s] at hx
    rcases List.mem_append.mp hx with hx | hx
    · obtain ⟨q, k, hq, hk, e⟩ := ih hx
      exact ⟨q, k, by omega, hk, e⟩
    · obtain ⟨k, hk, e⟩ := eQ_mem h hx
      exact ⟨p, k, by omega, by omega, e⟩
end TB
/-- places below n with a property -/
def cL (p : Int → Bool) : Nat → List Int
  | 0 => []
  | k + 1 => if p k = true then cL p k ++ [(k : Int)] else cL p k
theorem cL_s {p : Int → Bool} {k : Nat} : cL p (k + 1) = if p k = true then cL p k ++ [(k : Int)] else cL p k := rfl
theorem cL_in {p : Int → Bool} : ∀ {n : Nat} {k : Int}, 0 ≤ k → k < n → p k = true → k ∈ cL p n
  | 0, k, h0, h1, _ => absurd h1 (by omega)
  | n + 1, k, h0, h1, hp => by
    rw [cL_s]
    by_cases w : k = n
    · rw [w] at hp ⊢
      rw [if_pos hp]
      exact List.mem_append.mpr (Or.inr (List.mem_singleton.mpr rfl))
    · have := cL_in (n := n) h0 (by omega) hp
      by_cases c : p n = true
      · rw [if_pos c]
        exact List.mem_append.mpr (Or.inl this)
      · rw [if_neg c]
        exact this
theorem cL_len {p : Int → Bool} : ∀ n : Nat, (cL p n).length ≤ n
  | 0 => Nat.le_refl _
  | n + 1 => by
    have := cL_len (p := p) n
    rw [cL_s]
    by_cases c : p n = true
    · rw [if_pos c, len_1]
      omega
    · rw [if_neg c]
      omega
theorem cL_add {p r s : Int → Bool} : ∀ n : Nat, (∀ k : Int, 0 ≤ k → k < n → (s k = true ↔ p k = true ∨ r k = true) ∧ ¬ (p k = true ∧ r k = true)) → (cL s n).length = (cL p n).length + (cL r n).length
  | 0, _ => rfl
  | n + 1, h => by
    have ih := cL_add n (fun k a b => h k a (by omega))
    obtain ⟨h1, h2⟩ := h n (by omega) (by omega)
    rw [cL_s, cL_s, cL_s]
    by_cases a : p n = true
    · rw [if_pos a, if_pos (h1.mpr (Or.inl a)), if_neg (fun y => h2 ⟨a, y⟩), len_1, len_1]
      omega
    · rw [if_neg a]
      by_cases b : r n = true
      · rw [if_pos b, if_pos (h1.mpr (Or.inr b)), len_1, len_1]
        omega
      · rw [if_neg b, if_neg (fun y => (h1.mp y).elim a b)]
        exact ih
theorem rcn_tab {T : Int → Int → Int} {S : Int → Int} {nb q t : Int} (h : dS S nb) : rcn (tX T S nb q t) (cL (fun k => decide (T q k = t)) nb.toNat).length := by
  intro m s h1 h2
  refine pigJ (c := fun i => bS S nb (s i)) m _ (fun i i0 i1 => ?_) (fun i j i0 i1 i2 eq => ?_)
  · have r := bS_rg (S := S) (x := s i) h.1.1
    exact cL_in r.1 (by omega) (h1 i i0 i1).2.1
  · obtain ⟨p1, p2, p3⟩ := h1 i i0 (by omega)
    obtain ⟨q1, q2, q3⟩ := h1 j (by omega) i2
    have lt := h2 i j i0 i1 i2
    have eq : bS S nb (s i) = bS S nb (s j) := eq
    have r := bS_rg (S := S) (x := s i) h.1.1
    have o := bS_ok h (x := s i) p1.1
    have o2 := bS_ok h (x := s j) q1.1
    rw [← eq] at o2
    have e3 : bS S nb (s j - 1) = bS S nb (s i) := bS_u h (by omega) r (by omega) (fun y => by have := o2.2 (bS S nb (s i) + 1) (by omega) y; omega)
    rcases q3 with q3 | q3
    · omega
    · unfold tX at q3 p2
      rw [e3, p2] at q3
      cases q3
