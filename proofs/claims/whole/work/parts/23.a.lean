/-! ===== classes: what words of at most r letters part ===== -/
def pd (T : Int → Int) (nb : Int) (E : Int → Bool) : Nat → Int → Int → Prop
  | 0, s, t => ¬ E s = E t
  | r + 1, s, t => pd T nb E r s t ∨ ∃ b, 0 ≤ b ∧ b < nb ∧ pd T nb E r (T (s * 128 + b)) (T (t * 128 + b))
section PD
variable {T : Int → Int} {nb n : Int} {E : Int → Bool}
theorem pd_irr : ∀ {r : Nat} {s : Int}, ¬ pd T nb E r s s
  | 0, _ => fun h => h rfl
  | r + 1, _ => fun h => h.elim pd_irr (fun ⟨_, _, _, q⟩ => pd_irr q)
theorem pd_sym : ∀ {r : Nat} {s t : Int}, pd T nb E r s t → pd T nb E r t s
  | 0, _, _ => fun h q => h q.symm
  | r + 1, _, _ => fun h => h.elim (fun q => Or.inl (pd_sym q)) (fun ⟨b, h0, h1, q⟩ => Or.inr ⟨b, h0, h1, pd_sym q⟩)
theorem pd_tr : ∀ {r : Nat} {s u : Int} (t : Int), pd T nb E r s u → pd T nb E r s t ∨ pd T nb E r t u
  | 0, s, u, t => fun h => by
    by_cases c : E s = E t
    · exact Or.inr (fun q => h (c.trans q))
    · exact Or.inl c
  | r + 1, s, u, t => fun h => by
    rcases h with h | ⟨b, h0, h1, h⟩
    · rcases pd_tr t h with q | q
      · exact Or.inl (Or.inl q)
      · exact Or.inr (Or.inl q)
    · rcases pd_tr (T (t * 128 + b)) h with q | q
      · exact Or.inl (Or.inr ⟨b, h0, h1, q⟩)
      · exact Or.inr (Or.inr ⟨b, h0, h1, q⟩)
theorem pd_up {r : Nat} {s t : Int} (h : pd T nb E r s t) : pd T nb E (r + 1) s t := Or.inl h
theorem pd_mono {r : Nat} : ∀ {q : Nat} {s t : Int}, r ≤ q → pd T nb E r s t → pd T nb E q s t
  | 0, s, t, hq, h => by
    have : r = 0 := by omega
    subst this
    exact h
  | q + 1, s, t, hq, h => by
    by_cases c : r = q + 1
    · subst c
      exact h
    · exact pd_up (pd_mono (by omega) h)
/-- stable from R on -/
theorem pd_stab {R : Nat} (hT : ∀ s b, 0 ≤ s → s < n → 0 ≤ b → b < nb → 0 ≤ T (s * 128 + b) ∧ T (s * 128 + b) < n) (hs : ∀ s t, 0 ≤ s → s < n → 0 ≤ t → t < n → pd T nb E (R + 1) s t → pd T nb E R s t) : ∀ {q : Nat} {s t : Int}, 0 ≤ s → s < n → 0 ≤ t → t < n → pd T nb E q s t → pd T nb E R s t
  | 0, s, t, _, _, _, _, h => pd_mono (Nat.zero_le _) h
  | q + 1, s, t, s0, s1, t0, t1, h => by
    rcases h with h | ⟨b, h0, h1, h⟩
    · exact pd_stab hT hs s0 s1 t0 t1 h
    · have a := hT s b s0 s1 h0 h1
      have c := hT t b t0 t1 h0 h1
      exact hs s t s0 s1 t0 t1 (Or.inr ⟨b, h0, h1, pd_stab hT hs a.1 a.2 c.1 c.2 h⟩)
end PD
/-- sheaves below s are numbered by their first ones -/
def numI (e : Int → Int → Prop) (s C : Int) (Ki He : Int → Int) : Prop := (0 ≤ C ∧ C ≤ s) ∧ (∀ t, 0 ≤ t → t < s → (0 ≤ Ki t ∧ Ki t < C) ∧ e t (He (Ki t)) ∧ He (Ki t) ≤ t) ∧ (∀ c, 0 ≤ c → c < C → (0 ≤ He c ∧ He c < s) ∧ Ki (He c) = c) ∧ (∀ c c', 0 ≤ c → c < c' → c' < C → He c < He c')
/-- an equivalence of the sheaves below n -/
def eqv (n : Int) (e : Int → Int → Prop) : Prop := (∀ s, 0 ≤ s → s < n → e s s) ∧ (∀ s t, 0 ≤ s → s < n → 0 ≤ t → t < n → e s t → e t s) ∧ (∀ s t u, 0 ≤ s → s < n → 0 ≤ t → t < n → 0 ≤ u → u < n → e s t → e t u → e s u)
theorem eqv_pd {T : Int → Int} {nb n : Int} {E : Int → Bool} {r : Nat} : eqv n (fun s t => ¬ pd T nb E r s t) := ⟨fun _ _ _ => pd_irr, fun _ _ _ _ _ _ h q => h (pd_sym q), fun _ t _ _ _ _ _ _ _ h1 h2 q => (pd_tr t q).elim h1 h2⟩
section NU
variable {n C : Int} {Ki He : Int → Int} {e : Int → Int → Prop}
/-- two are alike just if their numbers are; wants that heads of two numbers aren't alike -/
theorem numI_eq (hv : eqv n e) (h : numI e n C Ki He) (hn : ∀ c c', 0 ≤ c → c < c' → c' < C → ¬ e (He c') (He c)) {s t : Int} (s0 : 0 ≤ s) (s1 : s < n) (t0 : 0 ≤ t) (t1 : t < n) : e s t ↔ Ki s = Ki t := by
  obtain ⟨-, h1, h2, h3⟩ := h
  obtain ⟨v1, v2, v3⟩ := hv
  obtain ⟨a1, a2, a3⟩ := h1 s s0 s1
  obtain ⟨b1, b2, b3⟩ := h1 t t0 t1
  have ha := (h2 _ a1.1 a1.2).1
  have hb := (h2 _ b1.1 b1.2).1
  constructor
  · intro q
    have st : e (He (Ki s)) (He (Ki t)) := v3 _ s _ ha.1 ha.2 s0 s1 hb.1 hb.2 (v2 _ _ s0 s1 ha.1 ha.2 a2) (v3 _ t _ s0 s1 t0 t1 hb.1 hb.2 q b2)
    rcases Int.lt_trichotomy (Ki s) (Ki t) with c | c | c
    · exact absurd (v2 _ _ ha.1 ha.2 hb.1 hb.2 st) (hn _ _ a1.1 c b1.2)
    · exact c
    · exact absurd st (hn _ _ b1.1 c a1.2)
  · intro q
    rw [q] at a2
    exact v3 _ _ _ s0 s1 hb.1 hb.2 t0 t1 a2 (v2 _ _ t0 t1 hb.1 hb.2 b2)
/-- the whole numbering -/
def numOK (e : Int → Int → Prop) (n C : Int) (Ki He : Int → Int) : Prop := numI e n C Ki He ∧ ∀ s t, 0 ≤ s → s < n → 0 ≤ t → t < n → (e s t ↔ Ki s = Ki t)
theorem num_one (hn : 1 ≤ n) (h : numOK e n C Ki He) : 1 ≤ C := by
  have := (h.1.2.1 0 (by omega) (by omega)).1
  omega
/-- a finer one has no fewer; if not more it is the same -/
theorem num_le {C2 : Int} {Ki2 He2 : Int → Int} {e2 : Int → Int → Prop} (h1 : numOK e n C Ki He) (h2 : numOK e2 n C2 Ki2 He2) (hf : ∀ s t, 0 ≤ s → s < n → 0 ≤ t → t < n → e2 s t → e s t) : C ≤ C2 ∧ (C2 ≤ C → ∀ s t, 0 ≤ s → s < n → 0 ≤ t → t < n → e s t → e2 s t) := by
  obtain ⟨⟨p0, p1, p2, p3⟩, p4⟩ := h1
  obtain ⟨⟨q0, q1, q2, q3⟩, q4⟩ := h2
  have hh : ∀ c, 0 ≤ c → c < C → (0 ≤ Ki2 (He c) ∧ Ki2 (He c) < C2) ∧ He2 (Ki2 (He c)) = He c := by
    intro c c0 c1
    obtain ⟨a1, a2⟩ := p2 c c0 c1
    obtain ⟨b1, b2, b3⟩ := q1 (He c) a1.1 a1.2
    refine ⟨b1, ?_⟩
    have b4 := (q2 _ b1.1 b1.2).1
    have b5 := hf _ _ a1.1 a1.2 b4.1 b4.2 b2
    have b6 := (p4 _ _ a1.1 a1.2 b4.1 b4.2).mp b5
    have b7 := (p1 _ b4.1 b4.2).2.2
    rw [← b6, a2] at b7
    omega
  have inc : ∀ c c', 0 ≤ c → c < c' → c' < C → Ki2 (He c) < Ki2 (He c') := by
    intro c c' c0 c1 c2
    obtain ⟨a1, a2⟩ := hh c c0 (by omega)
    obtain ⟨b1, b2⟩ := hh c' (by omega) c2
    have lt := p3 c c' c0 c1 c2
    rcases Int.lt_trichotomy (Ki2 (He c)) (Ki2 (He c')) with z | z | z
    · exact z
    · rw [z, b2] at a2
      omega
    · have := q3 _ _ b1.1 z a1.2
      omega
  have ge : ∀ k : Nat, (k : Int) < C → (k : Int) ≤ Ki2 (He k) := by
    intro k
    induction k with
    | zero => exact fun h => (hh 0 (by omega) h).1.1
    | succ k ih =>
      intro hk
      have a := ih (by omega)
      have b := inc k ((k + 1 : Nat) : Int) (by omega) (by omega) hk
      omega
  have hC : C ≤ C2 := by
    rcases Int.lt_or_le 0 C with z | z
    · have a := ge (C - 1).toNat (by omega)
      have b := (hh ((C - 1).toNat : Int) (by omega) (by omega)).1
      omega
    · omega
  refine ⟨hC, fun le s t s0 s1 t0 t1 hst => ?_⟩
  have eC : C2 = C := by omega
  have le2 : ∀ k : Nat, (k : Int) < C → Ki2 (He (C - 1 - k)) ≤ C - 1 - k := by
    intro k
    induction k with
    | zero =>
      intro hk
      have := (hh (C - 1 - ((0 : Nat) : Int)) (by omega) (by omega)).1
      omega
    | succ k ih =>
      intro hk
      have a := ih (by omega)
      have b := inc (C - 1 - ((k + 1 : Nat) : Int)) (C - 1 - (k : Int)) (by omega) (by omega) (by omega)
      omega
  have id : ∀ c, 0 ≤ c → c < C → Ki2 (He c) = c := by
    intro c c0 c1
    have a := ge c.toNat (by omega)
    have b := le2 (C - 1 - c).toNat (by omega)
    rw [show C - 1 - ((C - 1 - c).toNat : Int) = c by omega] at b
    rw [show ((c.toNat : Nat) : Int) = c by omega] at a
    omega
  have key : ∀ s, 0 ≤ s → s < n → Ki2 s = Ki s := by
    intro s s0 s1
    obtain ⟨b1, b2, b3⟩ := q1 s s0 s1
    have i1 := id (Ki2 s) b1.1 (by omega)
    obtain ⟨h1, h2⟩ := hh (Ki2 s) b1.1 (by omega)
    rw [i1] at h2
    have b4 := (q2 _ b1.1 b1.2).1
    have b5 := (p4 _ _ s0 s1 b4.1 b4.2).mp (hf _ _ s0 s1 b4.1 b4.2 b2)
    rw [h2, (p2 (Ki2 s) b1.1 (by omega)).2] at b5
    exact b5.symm
  rw [q4 s t s0 s1 t0 t1, key s s0 s1, key t t0 t1]
  exact (p4 s t s0 s1 t0 t1).mp hst
end NU
/-- an entry of the table of what parts two, after round r -/
def apE (T : Int → Int) (nb : Int) (E : Int → Bool) (r : Nat) (s t x : Int) : Prop := (x = -1 ∧ ¬ pd T nb E r s t) ∨ ∃ q : Nat, q ≤ r ∧ x = q ∧ pd T nb E q s t ∧ ∀ q' : Nat, q' < q → ¬ pd T nb E q' s t
section AP
variable {T : Int → Int} {nb n : Int} {E : Int → Bool} {r : Nat} {s t x y : Int}
theorem apE_rg (h : apE T nb E r s t x) : -1 ≤ x ∧ x ≤ r := by
  rcases h with ⟨h, -⟩ | ⟨q, a, b, -⟩ <;> omega
theorem apE_u (h : apE T nb E r s t x) (h2 : apE T nb E r s t y) : x = y := by
  rcases h with ⟨h, a⟩ | ⟨q, a, b, c, e⟩
  · rcases h2 with ⟨h2, -⟩ | ⟨q, a2, b2, c2, -⟩
    · omega
    · exact absurd (pd_mono a2 c2) a
  · rcases h2 with ⟨h2, a2⟩ | ⟨q2, a2, b2, c2, e2⟩
    · exact absurd (pd_mono a c) a2
    · rcases Nat.lt_trichotomy q q2 with z | z | z
      · exact absurd c (e2 q z)
      · omega
      · exact absurd c2 (e q2 z)
/-- the next round -/
theorem apE_old (h : apE T nb E r s t x) (hx : ¬ x = -1) : apE T nb E (r + 1) s t x := by
  rcases h with ⟨h, a⟩ | ⟨q, a, b, c⟩
  · exact absurd h hx
  · exact Or.inr ⟨q, by omega, b, c⟩
theorem apE_no (h : apE T nb E r s t x) (hx : x = -1) (hn : ¬ pd T nb E (r + 1) s t) : apE T nb E (r + 1) s t x := Or.inl ⟨hx, hn⟩
theorem apE_new (h : apE T nb E r s t x) (hx : x = -1) (hn : pd T nb E (r + 1) s t) : apE T nb E (r + 1) s t ((r + 1 : Nat) : Int) := by
  rcases h with ⟨h, a⟩ | ⟨q, a, b, c⟩
  · exact Or.inr ⟨r + 1, Nat.le_refl _, rfl, hn, fun q' hq z => a (pd_mono (by omega) z)⟩
  · omega
/-- an entry is r just if r letters are what it takes -/
theorem apE_is {R : Nat} (hR : r ≤ R) (h : apE T nb E R s t x) : x = r ↔ pd T nb E r s t ∧ ∀ q' : Nat, q' < r → ¬ pd T nb E q' s t := by
  rcases h with ⟨h, a⟩ | ⟨q, a, b, c, e⟩
  · exact ⟨fun z => by omega, fun z => absurd (pd_mono hR z.1) a⟩
  · constructor
    · intro z
      have : q = r := by omega
      subst this
      exact ⟨c, e⟩
    · rintro ⟨z1, z2⟩
      rcases Nat.lt_trichotomy q r with w | w | w
      · exact absurd c (z2 q w)
      · omega
      · exact absurd z1 (e r w)
theorem apE_sym (h : apE T nb E r s t x) : apE T nb E r t s x := by
  rcases h with ⟨h, a⟩ | ⟨q, a, b, c, e⟩
  · exact Or.inl ⟨h, fun z => a (pd_sym z)⟩
  · exact Or.inr ⟨q, a, b, pd_sym c, fun q' hq z => e q' hq (pd_sym z)⟩
end AP
/-- the classes of n sheaves: R rounds, C classes, numbers, heads, table -/
def clOK (n : Int) (T : Int → Int) (nb : Int) (E : Int → Bool) (R : Nat) (C : Int) (Ki He Ap : Int → Int) : Prop :=
  (∀ s t, 0 ≤ s → s < n → 0 ≤ t → t < n → pd T nb E (R + 1) s t → pd T nb E R s t) ∧ (∀ q : Nat, q < R → ∃ s t, (0 ≤ s ∧ s < n) ∧ (0 ≤ t ∧ t < n) ∧ pd T nb E (q + 1) s t ∧ ¬ pd T nb E q s t) ∧ numOK (fun s t => ¬ pd T nb E R s t) n C Ki He ∧ (∀ s t, 0 ≤ s → s < n → 0 ≤ t → t < n → apE T nb E R s t (Ap (s * 40 + t))) ∧ R ≤ 40
