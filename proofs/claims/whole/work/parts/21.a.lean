/-! ===== sets as cuts ===== -/
/-- n cuts that rise, from 0 to 65536, an even number of them -/
def cOK (c : Int → Int) (n : Int) : Prop := 0 ≤ n ∧ n % 2 = 0 ∧ (∀ i, 0 ≤ i → i < n → 0 ≤ c i ∧ c i ≤ 65536) ∧ ∀ i j, 0 ≤ i → i < j → j < n → c i < c j
/-- x lies between an even cut and the next -/
def cIn (c : Int → Int) (n x : Int) : Prop := ∃ i, 0 ≤ i ∧ 2 * i + 1 < n ∧ c (2 * i) ≤ x ∧ x < c (2 * i + 1)
/-- the count of cuts passed tells it -/
theorem cIn_of {c : Int → Int} {n p x : Int} (hc : cOK c n) (hp : 0 ≤ p ∧ p ≤ n) (h1 : ∀ i, 0 ≤ i → i < p → c i ≤ x) (h2 : ∀ i, p ≤ i → i < n → x < c i) : cIn c n x ↔ p % 2 = 1 := by
  obtain ⟨hn, he, hr, hm⟩ := hc
  constructor
  · rintro ⟨i, h0, h3, h4, h5⟩
    have a : 2 * i < p := by
      rcases Int.lt_or_le (2 * i) p with q | q
      · exact q
      · have := h2 (2 * i) q (by omega)
        omega
    have b : p ≤ 2 * i + 1 := by
      rcases Int.lt_or_le (2 * i + 1) p with q | q
      · have := h1 (2 * i + 1) (by omega) q
        omega
      · exact q
    omega
  · intro h
    refine ⟨p / 2, by omega, by omega, h1 _ (by omega) (by omega), ?_⟩
    have e : 2 * (p / 2) + 1 = p := by omega
    rw [e]
    exact h2 p (by omega) (by omega)
section SL
variable {G : zG} {d : Nat} {h : zH}
theorem sp_rangeCount {K : Int → zH → Prop} {r : Int} (h0 : 0 ≤ h r 1) (h1 : h r 1 < 2147483648) (k : K (h r 1 / 2) h) : zCi G d mX3_rangeCount [vr 3 r] h K := eX3_rangeCount (bX3_rangeCount_0 ⟨⟨h0, h1⟩, k⟩)
/-- a set's cell is well: its cuts are, and they have room -/
def lsOK (h : zH) (r : Int) : Prop := cOK (fun i => h (r + 1) i) (h r 1) ∧ h r 1 ≤ zln (r + 1)
theorem sp_holds {K : Bool → zH → Prop} {r x : Int} (hr : lsOK h r) (hx : zR x) (k : ∀ b : Bool, (b = true ↔ cIn (fun i => h (r + 1) i) (h r 1) x) → K b h) : zCb G d mX3_holds [vr 3 r, vi x] h K := by
  obtain ⟨hc, hl⟩ := hr
  have hz := zR_zln (r + 1)
  have fin : ∀ p, 0 ≤ p → p ≤ h r 1 → (∀ i, 0 ≤ i → i < p → h (r + 1) i ≤ x) → (∀ i, p ≤ i → i < h r 1 → x < h (r + 1) i) → (0 ≤ p ∧ p < 2147483648) ∧ (¬ p % 2 = 1 → K false h) ∧ (p % 2 = 1 → K true h) := fun p p0 p1 q1 q2 => by
    have hi := cIn_of hc ⟨p0, p1⟩ q1 q2
    refine ⟨⟨p0, by omega⟩, fun q => k false ⟨fun z => (by cases z), fun z => absurd (hi.mp z) q⟩, fun q => k true ⟨fun _ => hi.mpr q, fun _ => rfl⟩⟩
  have go : ∀ (f : Nat) (p : Int), 0 ≤ p → p ≤ h r 1 → h r 1 ≤ p + f → (∀ i, 0 ≤ i → i < p → h (r + 1) i ≤ x) → tX3_holds_2 G d K r x p h := by
    intro f
    induction f with
    | zero =>
      intro p p0 p1 p2 q1
      exact bX3_holds_2 ⟨⟨by omega, by omega⟩, ⟨by omega, by omega⟩, fun _ => fin p p0 p1 q1 (fun i a b => absurd b (by omega)), fun q => absurd q (by omega)⟩
    | succ f ih =>
      intro p p0 p1 p2 q1
      refine bX3_holds_2 ⟨⟨by omega, by omega⟩, ⟨by omega, by omega⟩, fun _ => fin p p0 p1 q1 (fun i a b => absurd b (by omega)), fun q => ⟨⟨p0, by omega⟩, ?_, hx, fun z => fin p p0 p1 q1 (fun i a b => ?_), fun z => ih (p + 1) (by omega) (by omega) (by omega) (fun i a b => ?_)⟩⟩
      · have := hc.2.2.1 p p0 (by omega)
        dsimp only at this
        exact ⟨by omega, by omega⟩
      · by_cases e : i = p
        · rw [e]
          exact z
        · have := hc.2.2.2 p i p0 (by omega) b
          dsimp only at this
          omega
      · by_cases e : i = p
        · rw [e]
          omega
        · exact q1 i a (by omega)
  exact eX3_holds (bX3_holds_0 (go (h r 1).toNat 0 (by omega) hc.1 (by have := hc.1; omega) (fun i a b => absurd b (by omega))))
end SL
