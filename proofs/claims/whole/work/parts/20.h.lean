/-! ===== word of the model: its checks ===== -/
section SY
variable {G : zG} {d : Nat} {h : zH}
theorem sm_word23 {K : Int → zH → Prop} {n a b c e : Int} (hn : 0 ≤ n ∧ n < 5) (ha : zR a) (hb : zR b) (hc : zR c) (he : zR e) (k1 : (∀ i, 0 ≤ i → i < n → zLt (wsel i a b c e)) → tX12_word_82 G (d + 1) K n a b c e 0 h) (k2 : ¬ (∀ i, 0 ≤ i → i < n → zLt (wsel i a b c e)) → K (-1) (zup (zup h 466 1 2) 466 2 (-1))) : ∀ (f : Nat) (i : Int), 0 ≤ i → i ≤ n → n ≤ i + f → (∀ j, 0 ≤ j → j < i → zLt (wsel j a b c e)) → tX12_word_23 G (d + 1) K n a b c e i h := by
  intro f
  induction f with
  | zero =>
    intro i h0 h1 h2 hj
    exact bX12_word_23 ⟨⟨by omega, by omega⟩, ⟨by omega, by omega⟩, fun _ => k1 (fun j p q => hj j p (by omega)), fun q => absurd q (by omega)⟩
  | succ f ih =>
    intro i h0 h1 h2 hj
    have hr : zR i := ⟨by omega, by omega⟩
    have go : i < n → zLt (wsel i a b c e) → tX12_word_23 G (d + 1) K n a b c e (i + 1) h := fun hin hv => ih (i + 1) (by omega) (by omega) (by omega) (fun j p q => by
      by_cases z : j = i
      · rw [z]
        exact hv
      · exact hj j p (by omega))
    have no : i < n → ¬ zLt (wsel i a b c e) → zCi G (d + 1) mX12_refused [vr 12 466, vi 2] h (fun x h' => K x h') := fun hin hv => sm_refused (k2 (fun z => hv (z i h0 hin)))
    have one : ∀ v, zR v → wsel i a b c e = v → i < n → zCb G (d + 1) mX12_isLetter [vi v] h (fun x h' => (x = true → tX12_word_23 G (d + 1) K n a b c e (i + 1) h') ∧ (x = false → zCi G (d + 1) mX12_refused [vr 12 466, vi 2] h' (fun x3 h4 => K x3 h4))) := fun v hv hw hin => sm_isLetter hv ⟨fun q => go hin (by
      have := of_decide_eq_true q
      rw [hw]
      exact ⟨this.1, by omega⟩), fun q => no hin (by
      have := of_decide_eq_false q
      rw [hw]
      intro z
      exact this ⟨z.1, by have := z.2; omega⟩)⟩
    refine bX12_word_23 ⟨hr, ⟨by omega, by omega⟩, fun z => k1 (fun j p q => hj j p (by omega)), fun z => ⟨hr, fun q0 => ⟨hr, fun q1 => ⟨hr, fun q2 => one e he ?_ (by omega), fun q2 => one c hc ?_ (by omega)⟩, fun q1 => one b hb ?_ (by omega)⟩, fun q0 => one a ha ?_ (by omega)⟩⟩
    · unfold wsel
      rw [if_neg q0, if_neg q1, if_neg q2]
    · unfold wsel
      rw [if_neg q0, if_neg q1, if_pos q2]
    · unfold wsel
      rw [if_neg q0, if_pos q1]
    · unfold wsel
      rw [if_pos q0]
theorem sm_word {K : Int → zH → Prop} {n a b c e : Int} (hn : zR n) (ha : zR a) (hb : zR b) (hc : zR c) (he : zR e) (k1 : (0 ≤ n ∧ n < 5) → (∀ i, 0 ≤ i → i < n → zLt (wsel i a b c e)) → ∀ h' : zH, (∀ j, 0 ≤ j → j < n → h' 514 j = wsel j a b c e) → (∀ x y, x ≠ 514 → h' x y = zup h 466 0 0 x y) → K n (zup (zup (zup h' 466 77 n) 466 1 0) 466 2 (-1))) (k2 : ¬ ((0 ≤ n ∧ n < 5) ∧ ∀ i, 0 ≤ i → i < n → zLt (wsel i a b c e)) → K (-1) (zup (zup (zup h 466 0 0) 466 1 2) 466 2 (-1))) : zCi G (d + 2) mX12_word [vr 12 466, vi n, vi a, vi b, vi c, vi e] h K := by
  refine eX12_word (bX12_word_0 (sm_in hn ⟨by omega, by omega⟩ ⟨by omega, by omega⟩ ⟨fun q => ?_, fun q => sm_refused (k2 (fun z => of_decide_eq_false q ⟨z.1.1, by have := z.1.2; omega⟩))⟩))
  have q := of_decide_eq_true q
  have q5 : 0 ≤ n ∧ n < 5 := ⟨q.1, by omega⟩
  refine sm_word23 q5 ha hb hc he (fun z => ?_) (fun z => k2 (fun w => z w.2)) 5 0 (by omega) (by omega) (by omega) (fun j p w => absurd w (by omega))
  exact sm_word82 q5 5 0 _ (by omega) (by omega) (by omega) (fun j p w => absurd w (by omega)) (k1 q5 z)
end SY
