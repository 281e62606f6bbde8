/-! ===== word ===== -/
def zLt (x : Int) : Prop := 0 ≤ x ∧ x < 65536
def wsel (i a b c e : Int) : Int := if i = 0 then a else if i = 1 then b else if i = 2 then c else e
section SW
variable {G : zG} {d : Nat} {h : zH}
theorem sp_word {K : Int → zH → Prop} {n a b c e : Int} (hn : zR n) (ha : zR a) (hb : zR b) (hc : zR c) (he : zR e) (k1 : (0 ≤ n ∧ n < 5) → (∀ i, 0 ≤ i → i < n → zLt (wsel i a b c e)) → K n (zup (zup (zup (zup (zup (zup h 2 0 a) 2 1 b) 2 2 c) 2 3 e) 0 11 n) 0 14 0)) (k2 : ¬ ((0 ≤ n ∧ n < 5) ∧ ∀ i, 0 ≤ i → i < n → zLt (wsel i a b c e)) → K (-1) (zup h 0 14 2)) : zCi G (d + 1) mX11_word [vr 11 0, vi n, vi a, vi b, vi c, vi e] h K := by
  have bad : (0 ≤ n ∧ n < 5) → ∀ i, 0 ≤ i → i < n → ¬ zLt (wsel i a b c e) → tX11_word_76 G d K n a b c e h := fun _ i h1 h2 h3 => bX11_word_76 (sp_refused (k2 (fun q => h3 (q.2 i h1 h2))))
  refine eX11_word (bX11_word_0 (sp_isIn hn ⟨by omega, by omega⟩ ⟨fun q => ?_, fun q => sp_refused (k2 (fun z => of_decide_eq_false q z.1))⟩))
  have q := of_decide_eq_true q
  have t72 : (∀ i, 0 ≤ i → i < n → zLt (wsel i a b c e)) → tX11_word_72 G d K n a b c e h := fun z => bX11_word_72 (sp_granted (k1 q z))
  have t57 : (∀ i, 0 ≤ i → i < n → i < 3 → zLt (wsel i a b c e)) → tX11_word_57 G d K n a b c e h := fun z => bX11_word_57 ⟨hn, fun w => t72 (fun i h1 h2 => z i h1 h2 (by omega)), fun w => sp_isIn he ⟨by omega, by omega⟩ ⟨fun y => bad q 3 (by omega) (by omega) (show ¬ (0 ≤ e ∧ e < 65536) from of_decide_eq_false y), fun y => t72 (fun i h1 h2 => by
    rcases (show i < 3 ∨ i = 3 by omega) with g | rfl
    · exact z i h1 h2 g
    · exact (show 0 ≤ e ∧ e < 65536 from of_decide_eq_true y))⟩⟩
  have t42 : (∀ i, 0 ≤ i → i < n → i < 2 → zLt (wsel i a b c e)) → tX11_word_42 G d K n a b c e h := fun z => bX11_word_42 ⟨hn, fun w => t57 (fun i h1 h2 _ => z i h1 h2 (by omega)), fun w => sp_isIn hc ⟨by omega, by omega⟩ ⟨fun y => bad q 2 (by omega) (by omega) (show ¬ (0 ≤ c ∧ c < 65536) from of_decide_eq_false y), fun y => t57 (fun i h1 h2 h3 => by
    rcases (show i < 2 ∨ i = 2 by omega) with g | rfl
    · exact z i h1 h2 g
    · exact (show 0 ≤ c ∧ c < 65536 from of_decide_eq_true y))⟩⟩
  have t28 : (∀ i, 0 ≤ i → i < n → i < 1 → zLt (wsel i a b c e)) → tX11_word_28 G d K n a b c e h := fun z => bX11_word_28 ⟨hn, fun w => t42 (fun i h1 h2 _ => z i h1 h2 (by omega)), fun w => sp_isIn hb ⟨by omega, by omega⟩ ⟨fun y => bad q 1 (by omega) (by omega) (show ¬ (0 ≤ b ∧ b < 65536) from of_decide_eq_false y), fun y => t42 (fun i h1 h2 h3 => by
    rcases (show i < 1 ∨ i = 1 by omega) with g | rfl
    · exact z i h1 h2 g
    · exact (show 0 ≤ b ∧ b < 65536 from of_decide_eq_true y))⟩⟩
  exact ⟨hn, fun w => t28 (fun i h1 h2 _ => absurd h2 (by omega)), fun w => sp_isIn ha ⟨by omega, by omega⟩ ⟨fun y => bad q 0 (by omega) (by omega) (show ¬ (0 ≤ a ∧ a < 65536) from of_decide_eq_false y), fun y => t28 (fun i h1 h2 h3 => by
    have : i = 0 := by omega
    subst this
    exact (show 0 ≤ a ∧ a < 65536 from of_decide_eq_true y))⟩⟩
end SW
