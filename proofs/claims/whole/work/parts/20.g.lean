/-! ===== word of the model ===== -/
section SX
variable {G : zG} {d : Nat}
theorem sm_word82 {K : Int → zH → Prop} {n a b c e : Int} (hn : 0 ≤ n ∧ n < 5) : ∀ (f : Nat) (i : Int) (h : zH), 0 ≤ i → i ≤ n → n ≤ i + f → (∀ j, 0 ≤ j → j < i → h 514 j = wsel j a b c e) →
    (∀ h' : zH, (∀ j, 0 ≤ j → j < n → h' 514 j = wsel j a b c e) → (∀ x y, x ≠ 514 → h' x y = h x y) → K n (zup (zup (zup h' 466 77 n) 466 1 0) 466 2 (-1))) → tX12_word_82 G d K n a b c e i h := by
  intro f
  induction f with
  | zero =>
    intro i h h0 h1 h2 hj k
    exact bX12_word_82 ⟨⟨by omega, by omega⟩, ⟨by omega, by omega⟩, fun _ => sm_good (k h (fun j p q => hj j p (by omega)) (fun _ _ _ => rfl)), fun q => absurd q (by omega)⟩
  | succ f ih =>
    intro i h h0 h1 h2 hj k
    have hr : zR i := ⟨by omega, by omega⟩
    have go : i < n → ∀ v, wsel i a b c e = v → tX12_word_82 G d K n a b c e (i + 1) (zup h 514 i v) := fun hin v hv => ih (i + 1) _ (by omega) (by omega) (by omega) (fun j p q => by
      unfold zup
      by_cases z : j = i
      · rw [if_pos ⟨rfl, z⟩, z, hv]
      · rw [if_neg (fun w => z w.2)]
        exact hj j p (by omega)) (fun h' p q => k h' p (fun x y w => by
      rw [q x y w]
      unfold zup
      rw [if_neg (fun z => w z.1)]))
    refine bX12_word_82 ⟨hr, ⟨by omega, by omega⟩, fun z => sm_good (k h (fun j p q => hj j p (by omega)) (fun _ _ _ => rfl)), fun z => ⟨hr, fun q0 => ⟨hr, fun q1 => ⟨hr, fun q2 => ⟨⟨by omega, by omega⟩, go (by omega) e ?_⟩, fun q2 => ⟨⟨by omega, by omega⟩, go (by omega) c ?_⟩⟩, fun q1 => ⟨⟨by omega, by omega⟩, go (by omega) b ?_⟩⟩, fun q0 => ⟨⟨by omega, by omega⟩, go (by omega) a ?_⟩⟩⟩
    · unfold wsel
      rw [if_neg q0, if_neg q1, if_neg q2]
    · unfold wsel
      rw [if_neg q0, if_neg q1, if_pos q2]
    · unfold wsel
      rw [if_neg q0, if_pos q1]
    · unfold wsel
      rw [if_pos q0]
end SX
