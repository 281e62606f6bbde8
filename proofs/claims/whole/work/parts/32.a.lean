/-! ===== words, and pairs found by them ===== -/
/-- a word's letters, the last one first: the shorter one comes first, then the one whose first different letter is less -/
def wlt : List Int → List Int → Prop
  | _, [] => False
  | [], _ :: _ => True
  | a :: u, b :: v => wlt u v ∨ (u = v ∧ a < b)
theorem wlt_nil : ∀ u : List Int, ¬ wlt u []
  | [] => id
  | _ :: _ => id
theorem wlt_irr : ∀ u : List Int, ¬ wlt u u
  | [] => id
  | a :: u => fun h => h.elim (wlt_irr u) (fun q => absurd q.2 (by omega))
theorem wlt_tr : ∀ {u v w : List Int}, wlt u v → wlt v w → wlt u w
  | _, v, [], _, h => (wlt_nil v h).elim
  | [], _, _ :: _, _, _ => True.intro
  | a :: u, [], _ :: _, h, _ => (wlt_nil (a :: u) h).elim
  | a :: u, b :: v, c :: w, h1, h2 => by
    rcases h1 with h1 | ⟨e1, h1⟩
    · rcases h2 with h2 | ⟨e2, h2⟩
      · exact Or.inl (wlt_tr h1 h2)
      · subst e2
        exact Or.inl h1
    · subst e1
      rcases h2 with h2 | ⟨e2, h2⟩
      · exact Or.inl h2
      · exact Or.inr ⟨e2, by omega⟩
theorem wlt_tri : ∀ u v : List Int, wlt u v ∨ u = v ∨ wlt v u
  | [], [] => Or.inr (Or.inl rfl)
  | [], _ :: _ => Or.inl True.intro
  | _ :: _, [] => Or.inr (Or.inr True.intro)
  | a :: u, b :: v => by
    rcases wlt_tri u v with h | h | h
    · exact Or.inl (Or.inl h)
    · subst h
      rcases Int.lt_trichotomy a b with q | q | q
      · exact Or.inl (Or.inr ⟨rfl, q⟩)
      · exact Or.inr (Or.inl (by rw [q]))
      · exact Or.inr (Or.inr (Or.inr ⟨rfl, q⟩))
    · exact Or.inr (Or.inr (Or.inl h))
theorem wlt_cons : ∀ (b : Int) (u : List Int), wlt u (b :: u)
  | _, [] => True.intro
  | _, a :: u => Or.inl (wlt_cons a u)
def wle (u v : List Int) : Prop := u = v ∨ wlt u v
theorem wle_lt {u v w : List Int} (h : wle u v) (k : wlt v w) : wlt u w := h.elim (fun e => e ▸ k) (fun q => wlt_tr q k)
/-- letters are blocks -/
def wIn (n : Int) (w : List Int) : Prop := ∀ b ∈ w, 0 ≤ b ∧ b < n
def wRun (f : Int → Int → Int) : List Int → Int
  | [] => 0
  | b :: u => f (wRun f u) b
/-- the word by which a number was found -/
def isW (Pa Vi : Int → Int) : Int → List Int → Prop
  | j, [] => j = 0
  | j, b :: u => 0 < j ∧ Vi j = b ∧ isW Pa Vi (Pa j) u
theorem isW_u {Pa Vi : Int → Int} : ∀ {j : Int} {u v : List Int}, isW Pa Vi j u → isW Pa Vi j v → u = v
  | _, [], [], _, _ => rfl
  | j, [], _ :: _, h, k => absurd k.1 (by have : j = 0 := h; omega)
  | j, _ :: _, [], h, k => absurd h.1 (by have : j = 0 := k; omega)
  | _, _ :: _, _ :: _, h, k => by
    rw [← h.2.1, ← k.2.1, isW_u h.2.2 k.2.2]
/-- letter i of a word -/
def lw : List Int → Int → Int
  | [], _ => 0
  | b :: u, i => if (u.length : Int) = i then b else lw u i
/-- pairs found so far: all places before k0 were looked at -/
def pbf (n C1 C2 : Int) (f g : Int → Int → Int) (U : Int) (Nu A B Pa Vi De : Int → Int) (k0 : Int) : Prop :=
  (1 ≤ U ∧ A 0 = 0 ∧ B 0 = 0 ∧ Pa 0 = -1 ∧ De 0 = 0) ∧
  (∀ j, 0 ≤ j → j < U → (0 ≤ A j ∧ A j < C1) ∧ (0 ≤ B j ∧ B j < C2) ∧ Nu (A j * 40 + B j) = j) ∧
  (∀ a c, 0 ≤ a → a < 40 → 0 ≤ c → c < 40 → Nu (a * 40 + c) = -1 ∨ ((0 ≤ Nu (a * 40 + c) ∧ Nu (a * 40 + c) < U) ∧ A (Nu (a * 40 + c)) = a ∧ B (Nu (a * 40 + c)) = c)) ∧
  (∀ t b, 0 ≤ t → t < U → 0 ≤ b → b < n → t * 256 + b < k0 → ∃ j, (0 ≤ j ∧ j < U) ∧ A j = f (A t) b ∧ B j = g (B t) b ∧ (j = 0 ∨ Pa j * 256 + Vi j ≤ t * 256 + b)) ∧
  (∀ j, 0 < j → j < U → (0 ≤ Pa j ∧ Pa j < j) ∧ (0 ≤ Vi j ∧ Vi j < n) ∧ A j = f (A (Pa j)) (Vi j) ∧ B j = g (B (Pa j)) (Vi j) ∧ De j = De (Pa j) + 1 ∧ Pa j * 256 + Vi j < k0) ∧
  (∀ i j, 0 < i → i < j → j < U → Pa i * 256 + Vi i < Pa j * 256 + Vi j)
theorem pigJ {c : Int → Int} : ∀ (n : Nat) (Dl : List Int), (∀ i : Int, 0 ≤ i → i < n → c i ∈ Dl) → (∀ i j : Int, 0 ≤ i → i < j → j < n → ¬ c i = c j) → n ≤ Dl.length
  | 0, _, _, _ => Nat.zero_le _
  | n + 1, Dl, h, hr => by
    have m := h n (by omega) (by omega)
    have ih := pigJ n (Dl.erase (c n)) (fun i a b => (List.mem_erase_of_ne (hr i n a b (by omega))).mpr (h i a (by omega))) (fun i j a b e => hr i j a b (by omega))
    rw [List.length_erase_of_mem m] at ih
    have : 0 < Dl.length := List.length_pos_of_mem m
    omega
section PB
variable {n C1 C2 U k0 : Int} {f g : Int → Int → Int} {Nu A B Pa Vi De : Int → Int}
theorem pbf_skip {t : Int} (hn : n ≤ 256) (h : pbf n C1 C2 f g U Nu A B Pa Vi De (t * 256 + n)) : pbf n C1 C2 f g U Nu A B Pa Vi De ((t + 1) * 256) := by
  obtain ⟨p1, p2, p3, p4, p5, p6⟩ := h
  refine ⟨p1, p2, p3, fun t' b t0 t1 b0 b1 hk => p4 t' b t0 t1 b0 b1 (by omega), fun j j0 j1 => ?_, p6⟩
  obtain ⟨a, b, c, d, e, q⟩ := p5 j j0 j1
  exact ⟨a, b, c, d, e, by omega⟩
theorem pbf_old {t b : Int} (hn : n ≤ 256) (ht : 0 ≤ t ∧ t < U) (hb : 0 ≤ b ∧ b < n) (fr : (0 ≤ f (A t) b ∧ f (A t) b < 40) ∧ (0 ≤ g (B t) b ∧ g (B t) b < 40)) (hx : ¬ Nu (f (A t) b * 40 + g (B t) b) = -1) (h : pbf n C1 C2 f g U Nu A B Pa Vi De (t * 256 + b)) : pbf n C1 C2 f g U Nu A B Pa Vi De (t * 256 + (b + 1)) := by
  obtain ⟨p1, p2, p3, p4, p5, p6⟩ := h
  have q5 : ∀ j, 0 < j → j < U → (0 ≤ Pa j ∧ Pa j < j) ∧ (0 ≤ Vi j ∧ Vi j < n) ∧ A j = f (A (Pa j)) (Vi j) ∧ B j = g (B (Pa j)) (Vi j) ∧ De j = De (Pa j) + 1 ∧ Pa j * 256 + Vi j < t * 256 + (b + 1) := fun j j0 j1 => by
    obtain ⟨a, b, c, d, e, q⟩ := p5 j j0 j1
    exact ⟨a, b, c, d, e, by omega⟩
  refine ⟨p1, p2, p3, fun t' b' t0 t1 b0 b1 hk => ?_, q5, p6⟩
  by_cases e : t' * 256 + b' < t * 256 + b
  · exact p4 t' b' t0 t1 b0 b1 e
  · have e1 : t' = t := by omega
    have e2 : b' = b := by omega
    subst e1 e2
    rcases p3 _ _ fr.1.1 fr.1.2 fr.2.1 fr.2.2 with w | ⟨w1, w2, w3⟩
    · exact absurd w hx
    · refine ⟨_, w1, w2, w3, ?_⟩
      by_cases z : Nu (f (A t') b' * 40 + g (B t') b') = 0
      · exact Or.inl z
      · have := (p5 _ (by omega) w1.2).2.2.2.2.2
        exact Or.inr (by omega)
theorem pbf_room (hC : C1 ≤ 40 ∧ C2 ≤ 40) {a c : Int} (ha : 0 ≤ a ∧ a < C1) (hc : 0 ≤ c ∧ c < C2) (hx : Nu (a * 40 + c) = -1) (h : pbf n C1 C2 f g U Nu A B Pa Vi De k0) : U < 1600 := by
  obtain ⟨p1, p2, p3, p4, p5, p6⟩ := h
  have mem : ∀ z : Int, 0 ≤ z → z < 1600 → z ∈ (List.range 1600).map (fun i : Nat => (i : Int)) := fun z z0 z1 => List.mem_map.mpr ⟨z.toNat, List.mem_range.mpr (by omega), by omega⟩
  have pg := pigJ (c := fup (fun j => A j * 40 + B j) U (a * 40 + c)) (U + 1).toNat ((List.range 1600).map (fun i : Nat => (i : Int))) (fun i i0 i1 => by
    by_cases z : i = U
    · rw [z, fup_eq]
      exact mem _ (by omega) (by omega)
    · rw [fup_ne z]
      have := p2 i i0 (by omega)
      exact mem _ (by omega) (by omega)) (fun i j i0 i1 i2 e => by
    rw [fup_ne (show ¬ i = U by omega)] at e
    have q1 := p2 i i0 (by omega)
    by_cases z : j = U
    · rw [z, fup_eq] at e
      have q3 := q1.2.2
      rw [e, hx] at q3
      omega
    · rw [fup_ne z] at e
      have q2 := p2 j (by omega) (by omega)
      have q3 := q1.2.2
      rw [e, q2.2.2] at q3
      omega)
  rw [List.length_map, List.length_range] at pg
  omega
theorem pbf_new {t b : Int} (hn : n ≤ 256) (hC : C1 ≤ 40 ∧ C2 ≤ 40) (ht : 0 ≤ t ∧ t < U) (hb : 0 ≤ b ∧ b < n) (fr : (0 ≤ f (A t) b ∧ f (A t) b < C1) ∧ (0 ≤ g (B t) b ∧ g (B t) b < C2)) (hx : Nu (f (A t) b * 40 + g (B t) b) = -1) (h : pbf n C1 C2 f g U Nu A B Pa Vi De (t * 256 + b)) : pbf n C1 C2 f g (U + 1) (fup Nu (f (A t) b * 40 + g (B t) b) U) (fup A U (f (A t) b)) (fup B U (g (B t) b)) (fup Pa U t) (fup Vi U b) (fup De U (De t + 1)) (t * 256 + (b + 1)) := by
  obtain ⟨p1, p2, p3, p4, p5, p6⟩ := h
  have ne : ∀ j, j < U → ¬ j = U := fun j q => by omega
  refine ⟨?_, fun j j0 j1 => ?_, fun a c a0 a1 c0 c1 => ?_, fun t' b' t0 t1 b0 b1 hk => ?_, fun j j0 j1 => ?_, fun i j i0 i1 i2 => ?_⟩
  · rw [fup_ne (ne 0 (by omega)), fup_ne (ne 0 (by omega)), fup_ne (ne 0 (by omega)), fup_ne (ne 0 (by omega))]
    exact ⟨by omega, p1.2⟩
  · by_cases z : j = U
    · rw [z, fup_eq, fup_eq, fup_eq]
      exact ⟨fr.1, fr.2, rfl⟩
    · have q := p2 j j0 (by omega)
      rw [fup_ne z, fup_ne z, fup_ne (fun e => by rw [e, hx] at q; omega)]
      exact q
  · by_cases z : a * 40 + c = f (A t) b * 40 + g (B t) b
    · right
      rw [z, fup_eq, fup_eq, fup_eq]
      exact ⟨by omega, by omega, by omega⟩
    · rw [fup_ne z]
      rcases p3 a c a0 a1 c0 c1 with w | ⟨w1, w2⟩
      · exact Or.inl w
      · right
        rw [fup_ne (ne _ w1.2), fup_ne (ne _ w1.2)]
        exact ⟨by omega, w2⟩
  · by_cases e : t' * 256 + b' < t * 256 + b
    · have t3 : t' < U := by omega
      obtain ⟨j, j1, j2, j3, j4⟩ := p4 t' b' t0 t3 b0 b1 e
      refine ⟨j, by omega, ?_⟩
      rw [fup_ne (ne _ t3), fup_ne (ne _ t3), fup_ne (ne _ j1.2), fup_ne (ne _ j1.2), fup_ne (ne _ j1.2), fup_ne (ne _ j1.2)]
      exact ⟨j2, j3, j4⟩
    · have e1 : t' = t := by omega
      have e2 : b' = b := by omega
      subst e1 e2
      refine ⟨U, by omega, ?_⟩
      rw [fup_ne (ne _ ht.2), fup_ne (ne _ ht.2), fup_eq, fup_eq, fup_eq, fup_eq]
      exact ⟨rfl, rfl, Or.inr (by omega)⟩
  · by_cases z : j = U
    · rw [z, fup_eq, fup_eq, fup_eq, fup_eq, fup_eq, fup_ne (ne _ ht.2), fup_ne (ne _ ht.2), fup_ne (ne _ ht.2)]
      exact ⟨ht, hb, rfl, rfl, rfl, by omega⟩
    · have q := p5 j j0 (by omega)
      rw [fup_ne z, fup_ne z, fup_ne z, fup_ne z, fup_ne z, fup_ne (ne _ (by omega)), fup_ne (ne _ (by omega)), fup_ne (ne _ (by omega))]
      exact ⟨q.1, q.2.1, q.2.2.1, q.2.2.2.1, q.2.2.2.2.1, by omega⟩
  · rw [fup_ne (ne i (by omega)), fup_ne (ne i (by omega))]
    by_cases z : j = U
    · rw [z, fup_eq, fup_eq]
      exact (p5 i i0 (by omega)).2.2.2.2.2
    · rw [fup_ne z, fup_ne z]
      exact p6 i j i0 i1 (by omega)
theorem pbf_0 (hC : 1 ≤ C1 ∧ 1 ≤ C2) (h0 : A 0 = 0) (h1 : B 0 = 0) (h2 : Pa 0 = -1) (h3 : De 0 = 0) (h4 : Nu 0 = 0) (h5 : ∀ i, 0 < i → i < 1600 → Nu i = -1) : pbf n C1 C2 f g 1 Nu A B Pa Vi De 0 := by
  refine ⟨⟨by omega, h0, h1, h2, h3⟩, fun j j0 j1 => ?_, fun a c a0 a1 c0 c1 => ?_, fun t b t0 t1 b0 b1 hk => ?_, fun j j0 j1 => by omega, fun i j i0 i1 i2 => by omega⟩
  · rw [show j = 0 by omega, h0, h1]
    exact ⟨by omega, by omega, h4⟩
  · by_cases z : a * 40 + c = 0
    · right
      rw [z, h4, h0, h1]
      exact ⟨by omega, by omega, by omega⟩
    · exact Or.inl (h5 _ (by omega) (by omega))
  · omega
theorem W_ex (h : pbf n C1 C2 f g U Nu A B Pa Vi De k0) : ∀ (m : Nat) (j : Int), 0 ≤ j → j < U → j ≤ m → ∃ w, isW Pa Vi j w
  | 0, j, j0, _, jm => ⟨[], by show j = 0; omega⟩
  | m + 1, j, j0, j1, jm => by
    by_cases z : j = 0
    · exact ⟨[], z⟩
    · have q := h.2.2.2.2.1 j (by omega) j1
      obtain ⟨w, hw⟩ := W_ex h m (Pa j) (by omega) (by omega) (by omega)
      exact ⟨Vi j :: w, by omega, rfl, hw⟩
theorem W_run (h : pbf n C1 C2 f g U Nu A B Pa Vi De k0) : ∀ {w : List Int} {j : Int}, 0 ≤ j → j < U → isW Pa Vi j w → wRun f w = A j ∧ wRun g w = B j ∧ (w.length : Int) = De j ∧ wIn n w
  | [], j, j0, j1, hw => by
    have e : j = 0 := hw
    rw [e]
    exact ⟨h.1.2.1.symm, h.1.2.2.1.symm, h.1.2.2.2.2.symm, fun b hb => absurd hb (by simp)⟩
  | b :: u, j, j0, j1, ⟨h1, h2, h3⟩ => by
    have q := h.2.2.2.2.1 j h1 j1
    obtain ⟨a1, a2, a3, a4⟩ := W_run h q.1.1 (by omega) h3
    refine ⟨?_, ?_, ?_, fun c hc => ?_⟩
    · show f (wRun f u) b = _
      rw [a1, q.2.2.1, h2]
    · show g (wRun g u) b = _
      rw [a2, q.2.2.2.1, h2]
    · rw [List.length_cons, q.2.2.2.2.1, ← a3]
      omega
    · rcases List.mem_cons.mp hc with e | e
      · rw [e, ← h2]
        exact q.2.1
      · exact a4 c e
theorem W_lt (hn : n ≤ 256) (h : pbf n C1 C2 f g U Nu A B Pa Vi De k0) : ∀ {w' w : List Int} {i j : Int}, 0 ≤ i → i < j → j < U → isW Pa Vi i w → isW Pa Vi j w' → wlt w w'
  | [], _, i, j, i0, i1, _, _, hj => by
    have : j = 0 := hj
    omega
  | _ :: _, [], _, _, _, _, _, _, _ => True.intro
  | b' :: u', b :: u, i, j, i0, i1, j1, ⟨a1, a2, a3⟩, ⟨c1, c2, c3⟩ => by
    have q := h.2.2.2.2.2 i j a1 i1 j1
    have qi := h.2.2.2.2.1 i a1 (by omega)
    have qj := h.2.2.2.2.1 j c1 j1
    by_cases z : Pa i < Pa j
    · exact Or.inl (W_lt hn h qi.1.1 z (by omega) a3 c3)
    · have e : Pa i = Pa j := by omega
      rw [e] at a3
      exact Or.inr ⟨isW_u a3 c3, by omega⟩
theorem W_lt' (hn : n ≤ 256) (h : pbf n C1 C2 f g U Nu A B Pa Vi De k0) {w' w : List Int} {i j : Int} (hi : 0 ≤ i ∧ i < U) (hj : 0 ≤ j ∧ j < U) (wi : isW Pa Vi i w) (wj : isW Pa Vi j w') (l : wlt w w') : i < j := by
  rcases Int.lt_trichotomy i j with q | q | q
  · exact q
  · subst q
    rw [isW_u wi wj] at l
    exact absurd l (wlt_irr _)
  · exact absurd (wlt_tr l (W_lt hn h hj.1 q hi.2 wj wi)) (wlt_irr _)
/-- what comes before a word is found before it -/
theorem W_min (hn : n ≤ 256) {t : Int} {wt : List Int} (h : pbf n C1 C2 f g U Nu A B Pa Vi De (t * 256)) (ht : 0 ≤ t ∧ t < U) (hw : isW Pa Vi t wt) : ∀ w : List Int, wIn n w → wlt w wt → ∃ i wi, (0 ≤ i ∧ i < t) ∧ isW Pa Vi i wi ∧ A i = wRun f w ∧ B i = wRun g w ∧ wle wi w
  | [], _, l => by
    refine ⟨0, [], ⟨Int.le_refl _, ?_⟩, rfl, h.1.2.1, h.1.2.2.1, Or.inl rfl⟩
    by_cases z : t = 0
    · rw [z] at hw
      rw [isW_u hw (show isW Pa Vi 0 [] from rfl)] at l
      exact absurd l (wlt_irr _)
    · omega
  | b :: u, hi, l => by
    obtain ⟨i, wi, i1, i2, i3, i4, i5⟩ := W_min hn h ht hw u (fun c hc => hi c (List.mem_cons_of_mem _ hc)) (wlt_tr (wlt_cons b u) l)
    have hb := hi b (List.mem_cons_self)
    obtain ⟨j, j1, j2, j3, j4⟩ := h.2.2.2.1 i b i1.1 (by omega) hb.1 hb.2 (by omega)
    obtain ⟨wj, hwj⟩ := W_ex h j.toNat j j1.1 j1.2 (by omega)
    have le : wle wj (b :: u) := by
      by_cases z : j = 0
      · rw [z] at hwj
        rw [isW_u hwj (show isW Pa Vi 0 [] from rfl)]
        exact Or.inr True.intro
      · have q := h.2.2.2.2.1 j (by omega) j1.2
        have j4 : Pa j * 256 + Vi j ≤ i * 256 + b := by omega
        cases wj with
        | nil => exact absurd (show j = 0 from hwj) z
        | cons c v =>
          obtain ⟨c1, c2, c3⟩ := hwj
          by_cases y : Pa j < i
          · exact Or.inr (Or.inl (by
              have l1 := W_lt hn h q.1.1 y (by omega) c3 i2
              rcases i5 with e | e
              · rw [← e]
                exact l1
              · exact wlt_tr l1 e))
          · have e : Pa j = i := by omega
            rw [e] at c3
            have e2 := isW_u c3 i2
            rcases i5 with e3 | e3
            · by_cases y2 : c = b
              · exact Or.inl (by rw [e2, e3, y2])
              · exact Or.inr (Or.inr ⟨by rw [e2, e3], by omega⟩)
            · exact Or.inr (Or.inl (by rw [e2]; exact e3))
    exact ⟨j, wj, ⟨j1.1, W_lt' hn h j1 ht hwj hw (wle_lt le l)⟩, hwj, by show A j = f (wRun f u) b; rw [j2, i3], by show B j = g (wRun g u) b; rw [j3, i4], le⟩
theorem W_all (h : pbf n C1 C2 f g U Nu A B Pa Vi De (U * 256)) (hn : n ≤ 256) : ∀ w : List Int, wIn n w → ∃ i, (0 ≤ i ∧ i < U) ∧ A i = wRun f w ∧ B i = wRun g w
  | [], _ => ⟨0, ⟨by omega, by have := h.1.1; omega⟩, h.1.2.1, h.1.2.2.1⟩
  | b :: u, hi => by
    obtain ⟨i, i1, i2, i3⟩ := W_all h hn u (fun c hc => hi c (List.mem_cons_of_mem _ hc))
    have hb := hi b (List.mem_cons_self)
    obtain ⟨j, j1, j2, j3, -⟩ := h.2.2.2.1 i b i1.1 i1.2 hb.1 hb.2 (by omega)
    exact ⟨j, j1, by show A j = f (wRun f u) b; rw [j2, i2], by show B j = g (wRun g u) b; rw [j3, i3]⟩
end PB
/-- the first word that a pair of runs makes true -/
def fO (n : Int) (f g : Int → Int → Int) (tr : Int → Int → Bool) (w : List Int) : Prop := wIn n w ∧ tr (wRun f w) (wRun g w) = true ∧ ∀ v, wIn n v → wlt v w → tr (wRun f v) (wRun g v) = false
def fN (n : Int) (f g : Int → Int → Int) (tr : Int → Int → Bool) : Prop := ∀ v, wIn n v → tr (wRun f v) (wRun g v) = false
theorem fO_u {n : Int} {f g f' g' : Int → Int → Int} {tr tr' : Int → Int → Bool} {w w' : List Int} (e : ∀ v, wIn n v → tr (wRun f v) (wRun g v) = tr' (wRun f' v) (wRun g' v)) (h : fO n f g tr w) (h' : fO n f' g' tr' w') : w = w' := by
  rcases wlt_tri w w' with q | q | q
  · have := h'.2.2 w h.1 q
    rw [← e w h.1, h.2.1] at this
    cases this
  · exact q
  · have := h.2.2 w' h'.1 q
    rw [e w' h'.1, h'.2.1] at this
    cases this
theorem fON {n : Int} {f g f' g' : Int → Int → Int} {tr tr' : Int → Int → Bool} {w : List Int} (e : ∀ v, wIn n v → tr (wRun f v) (wRun g v) = tr' (wRun f' v) (wRun g' v)) (h : fO n f g tr w) (h' : fN n f' g' tr') : False := by
  have := h' w h.1
  rw [← e w h.1, h.2.1] at this
  cases this
