/-! ===== sets put together ===== -/
def rise (c : Int → Int) (n : Int) : Prop := 0 ≤ n ∧ (∀ i, 0 ≤ i → i < n → 0 ≤ c i ∧ c i ≤ 65536) ∧ ∀ i j, 0 ≤ i → i < j → j < n → c i < c j
/-- an odd number of cuts is passed -/
def inn (c : Int → Int) (n z : Int) : Prop := ∃ p, (0 ≤ p ∧ p ≤ n) ∧ p % 2 = 1 ∧ (∀ i, 0 ≤ i → i < p → c i ≤ z) ∧ (∀ i, p ≤ i → i < n → z < c i)
theorem rise_of {c : Int → Int} {n : Int} (h : cOK c n) : rise c n := ⟨h.1, h.2.2.1, h.2.2.2⟩
theorem rise_p {c : Int → Int} {n : Int} (h : rise c n) (z : Int) : ∃ p, (0 ≤ p ∧ p ≤ n) ∧ (∀ i, 0 ≤ i → i < p → c i ≤ z) ∧ (∀ i, p ≤ i → i < n → z < c i) := by
  have go : ∀ k : Nat, (k : Int) ≤ n → ∃ p, (0 ≤ p ∧ p ≤ (k : Int)) ∧ (∀ i, 0 ≤ i → i < p → c i ≤ z) ∧ (∀ i, p ≤ i → i < (k : Int) → z < c i) := by
    intro k
    induction k with
    | zero => exact fun _ => ⟨0, by omega, fun i a b => absurd b (by omega), fun i a b => absurd b (by omega)⟩
    | succ k ih =>
      intro hk
      obtain ⟨p, a, b, e⟩ := ih (by omega)
      by_cases w : c k ≤ z
      · refine ⟨((k + 1 : Nat) : Int), by omega, fun i i0 i1 => ?_, fun i i0 i1 => absurd i1 (by omega)⟩
        by_cases y : i = k
        · rw [y]
          exact w
        · have := h.2.2 i k i0 (by omega) (by omega)
          omega
      · refine ⟨p, by omega, b, fun i i0 i1 => ?_⟩
        by_cases y : i = k
        · rw [y]
          omega
        · exact e i i0 (by omega)
  have := go n.toNat (by have := h.1; omega)
  rwa [show ((n.toNat : Nat) : Int) = n by have := h.1; omega] at this
theorem inn_of {c : Int → Int} {n p z : Int} (hp : 0 ≤ p ∧ p ≤ n) (h1 : ∀ i, 0 ≤ i → i < p → c i ≤ z) (h2 : ∀ i, p ≤ i → i < n → z < c i) : inn c n z ↔ p % 2 = 1 := by
  constructor
  · rintro ⟨q, a, b, e, f⟩
    rcases Int.lt_trichotomy p q with w | w | w
    · have := h2 p (Int.le_refl _) (by omega)
      have := e p hp.1 w
      omega
    · omega
    · have := f q (Int.le_refl _) (by omega)
      have := h1 q a.1 w
      omega
  · exact fun w => ⟨p, hp, w, h1, h2⟩
theorem inn_cIn {c : Int → Int} {n z : Int} (h : cOK c n) : inn c n z ↔ cIn c n z := by
  obtain ⟨p, a, b, e⟩ := rise_p (rise_of h) z
  rw [inn_of a b e, cIn_of h a b e]
theorem pig {c : Int → Int} : ∀ (n : Nat) (Dl : List Int), (∀ i : Int, 0 ≤ i → i < n → c i ∈ Dl) → (∀ i j : Int, 0 ≤ i → i < j → j < n → c i < c j) → n ≤ Dl.length
  | 0, _, _, _ => Nat.zero_le _
  | n + 1, Dl, h, hr => by
    have m := h n (by omega) (by omega)
    have l := List.length_erase_of_mem m
    have p : 0 < Dl.length := List.length_pos_of_mem m
    have := pig n (Dl.erase (c n)) (fun i a b => by
      refine (List.mem_erase_of_ne ?_).mpr (h i a (by omega))
      have := hr i n a b (by omega)
      omega) (fun i j a b e => hr i j a b (by omega))
    omega
theorem zln_le (r : Int) : zln r ≤ 30000 := by
  unfold zln
  by_cases h : r.toNat < 526
  · have := zln_small r.toNat h
    omega
  · have : zlnN r.toNat = 0 := by
      unfold zlnN
      rw [List.getD_eq_getElem?_getD, List.getElem?_eq_none (by rw [zlen_ok]; omega)]
      rfl
    omega
def ztr (f : Int) (p q : Bool) : Bool := decide (ziand (zishr f ((if p then 1 else 0) + (if q then 2 else 0))) 1 = 1)
theorem ziand_R (x y : Int) : zR (ziand x y) := ⟨Int32.le_toInt _, Int32.toInt_lt _⟩
section SX
variable {G : zG} {d : Nat} {h : zH}
theorem sp_isTrue {K : Bool → zH → Prop} {f : Int} {p q : Bool} (k : K (ztr f p q) h) : zCb G d mX11_isTrue [vi f, vi (bi p), vi (bi q)] h K := by
  refine eX11_isTrue (bX11_isTrue_0 ⟨fun e1 => ⟨fun e2 => ⟨ziand_R _ _, ?_⟩, fun e2 => ⟨ziand_R _ _, ?_⟩⟩, fun e1 => ⟨fun e2 => ⟨ziand_R _ _, ?_⟩, fun e2 => ⟨ziand_R _ _, ?_⟩⟩⟩) <;> subst e1 e2 <;> exact kb (by unfold ztr; rw [decide_eq_true_iff]; exact Iff.rfl) k
theorem sm_holds {K : Bool → zH → Prop} {f : Int} {p q : Bool} (k : K (ztr f p q) h) : zCb G d mX12_holds [vi f, vi (bi p), vi (bi q)] h K := by
  refine eX12_holds (bX12_holds_0 ⟨fun e1 => ⟨fun e2 => ⟨ziand_R _ _, ?_⟩, fun e2 => ⟨ziand_R _ _, ?_⟩⟩, fun e1 => ⟨fun e2 => ⟨ziand_R _ _, ?_⟩, fun e2 => ⟨ziand_R _ _, ?_⟩⟩⟩) <;> subst e1 e2 <;> exact kb (by unfold ztr; rw [decide_eq_true_iff]; exact Iff.rfl) k
end SX
/-- how far two sets are put together: to the letter now, i and j cuts of them passed, U cuts made -/
def cmI (f : Int) (Dl : List Int) (X Y : Int) (cx cy co : Int → Int) (U i j now : Int) : Prop :=
  ((0 ≤ i ∧ i ≤ X) ∧ (0 ≤ j ∧ j ≤ Y) ∧ (0 ≤ now ∧ now ≤ 65536) ∧ now ∈ Dl) ∧ ((∀ a, 0 ≤ a → a < i → cx a < now) ∧ (∀ a, i ≤ a → a < X → now ≤ cx a)) ∧ ((∀ a, 0 ≤ a → a < j → cy a < now) ∧ (∀ a, j ≤ a → a < Y → now ≤ cy a)) ∧ (rise co U ∧ (∀ u, 0 ≤ u → u < U → co u < now) ∧ (∀ u, 0 ≤ u → u < U → co u ∈ Dl)) ∧ (∀ z, 0 ≤ z → z < now → ∀ bx by_ : Bool, (bx = true ↔ inn cx X z) → (by_ = true ↔ inn cy Y z) → (inn co U z ↔ ztr f bx by_ = true))
section CM
variable {f : Int} {Dl : List Int} {X Y : Int} {cx cy co : Int → Int} {U i j now : Int}
/-- a cut is passed -/
theorem cut_in {c : Int → Int} {n i now : Int} (hr : rise c n) (hi : 0 ≤ i ∧ i < n) (h1 : ∀ a, 0 ≤ a → a < i → c a < now) (e : c i = now) : (∀ a, 0 ≤ a → a < i + 1 → c a ≤ now) ∧ (∀ a, i + 1 ≤ a → a < n → now < c a) := by
  refine ⟨fun a a0 a1 => ?_, fun a a0 a1 => ?_⟩
  · by_cases z : a = i
    · rw [z, e]
      exact Int.le_refl _
    · have := h1 a a0 (by omega)
      omega
  · have := hr.2.2 i a hi.1 (by omega) a1
    omega
theorem cut_no {c : Int → Int} {n i now : Int} (hr : rise c n) (hi : 0 ≤ i) (h1 : ∀ a, 0 ≤ a → a < i → c a < now) (h2 : ∀ a, i ≤ a → a < n → now ≤ c a) (e : i < n → ¬ c i = now) : (∀ a, 0 ≤ a → a < i → c a ≤ now) ∧ (∀ a, i ≤ a → a < n → now < c a) := by
  refine ⟨fun a a0 a1 => by have := h1 a a0 a1; omega, fun a a0 a1 => ?_⟩
  have w := e (by omega)
  have w2 := h2 i (Int.le_refl _) (by omega)
  by_cases z : a = i
  · rw [z]
    omega
  · have := hr.2.2 i a hi (by omega) a1
    omega
/-- a cut more -/
theorem rise_add {x : Int} (h : rise co U) (h1 : ∀ u, 0 ≤ u → u < U → co u < x) (hx : 0 ≤ x ∧ x ≤ 65536) : rise (fup co U x) (U + 1) := by
  have := h.1
  refine ⟨by omega, fun u a b => ?_, fun u v a b e => ?_⟩
  · by_cases z : u = U
    · rw [z, fup_eq]
      exact hx
    · rw [fup_ne z]
      exact h.2.1 u a (by omega)
  · rw [fup_ne (show ¬ u = U by omega)]
    by_cases z : v = U
    · rw [z, fup_eq]
      exact h1 u a (by omega)
    · rw [fup_ne z]
      exact h.2.2 u v a b (by omega)
/-- a cut behind z doesn't change z -/
theorem inn_add {x z : Int} (h : rise co U) (hz : z < x) : inn (fup co U x) (U + 1) z ↔ inn co U z := by
  obtain ⟨p, a, b, e⟩ := rise_p h z
  rw [inn_of a b e]
  refine inn_of ⟨a.1, by omega⟩ (fun i i0 i1 => ?_) (fun i i0 i1 => ?_)
  · rw [fup_ne (by omega)]
    exact b i i0 i1
  · by_cases w : i = U
    · rw [w, fup_eq]
      exact hz
    · rw [fup_ne w]
      exact e i i0 (by omega)
/-- on to the next letter -/
theorem cmI_next {i' j' now' U' : Int} {co' : Int → Int} {bx by_ : Bool} (hI : cmI f Dl X Y cx cy co U i j now) (hrx : rise cx X) (hry : rise cy Y) (hi : 0 ≤ i' ∧ i' ≤ X) (hj : 0 ≤ j' ∧ j' ≤ Y) (px : (∀ a, 0 ≤ a → a < i' → cx a ≤ now) ∧ (∀ a, i' ≤ a → a < X → now < cx a)) (py : (∀ a, 0 ≤ a → a < j' → cy a ≤ now) ∧ (∀ a, j' ≤ a → a < Y → now < cy a)) (hbx : bx = true ↔ i' % 2 = 1) (hby : by_ = true ↔ j' % 2 = 1) (hu : (U' = U ∧ co' = co) ∨ (U' = U + 1 ∧ co' = fup co U now)) (ht : U' % 2 = 1 ↔ ztr f bx by_ = true) (hn : now < now') (hn2 : now' ≤ 65536) (hx' : ∀ a, i' ≤ a → a < X → now' ≤ cx a) (hy' : ∀ a, j' ≤ a → a < Y → now' ≤ cy a) (hm : now' ∈ Dl) : cmI f Dl X Y cx cy co' U' i' j' now' := by
  obtain ⟨⟨a1, a2, a3, a4⟩, ⟨b1, b2⟩, ⟨c1, c2⟩, ⟨d1, d2, d3⟩, e⟩ := hI
  have hr' : rise co' U' := by
    rcases hu with ⟨q1, q2⟩ | ⟨q1, q2⟩
    · rw [q1, q2]
      exact d1
    · rw [q1, q2]
      exact rise_add d1 d2 a3
  have lt' : ∀ u, 0 ≤ u → u < U' → co' u ≤ now ∧ co' u ∈ Dl := fun u u0 u1 => by
    rcases hu with ⟨q1, q2⟩ | ⟨q1, q2⟩
    · rw [q2]
      exact ⟨by have := d2 u u0 (by omega); omega, d3 u u0 (by omega)⟩
    · rw [q2]
      by_cases z : u = U
      · rw [z, fup_eq]
        exact ⟨Int.le_refl _, a4⟩
      · rw [fup_ne z]
        exact ⟨by have := d2 u u0 (by omega); omega, d3 u u0 (by omega)⟩
  refine ⟨⟨hi, hj, by omega, hm⟩, ⟨fun a w0 w1 => by have := px.1 a w0 w1; omega, hx'⟩, ⟨fun a w0 w1 => by have := py.1 a w0 w1; omega, hy'⟩, ⟨hr', fun u u0 u1 => by have := (lt' u u0 u1).1; omega, fun u u0 u1 => (lt' u u0 u1).2⟩, fun z z0 z1 bx' by' hbx' hby' => ?_⟩
  by_cases w : z < now
  · have old := e z z0 w bx' by' hbx' hby'
    rcases hu with ⟨q1, q2⟩ | ⟨q1, q2⟩
    · rw [q1, q2]
      exact old
    · rw [q1, q2, inn_add d1 w]
      exact old
  · have i1 : inn cx X z ↔ i' % 2 = 1 := inn_of hi (fun a w0 w1 => by have := px.1 a w0 w1; omega) (fun a w0 w1 => by have := hx' a w0 w1; omega)
    have i2 : inn cy Y z ↔ j' % 2 = 1 := inn_of hj (fun a w0 w1 => by have := py.1 a w0 w1; omega) (fun a w0 w1 => by have := hy' a w0 w1; omega)
    have i3 : inn co' U' z ↔ U' % 2 = 1 := inn_of ⟨hr'.1, Int.le_refl _⟩ (fun a w0 w1 => by have := (lt' a w0 w1).1; omega) (fun a w0 w1 => absurd w1 (by omega))
    have e1 : bx' = bx := by
      have q := (hbx'.trans i1).trans hbx.symm
      cases bx' <;> cases bx <;> simp_all
    have e2 : by' = by_ := by
      have q := (hby'.trans i2).trans hby.symm
      cases by' <;> cases by_ <;> simp_all
    rw [i3, ht, e1, e2]
end CM
