/-! ===== mixes of the model ===== -/
/-- what the model has counted of the cuts below l: p of them -/
def mxI (co : Int → Int) (U i l p a b c e : Int) : Prop := (0 ≤ p ∧ p ≤ U) ∧ (∀ u, 0 ≤ u → u < p → co u < l) ∧ (∀ u, p ≤ u → u < U → l ≤ co u) ∧ a = (p + 1) / 2 ∧ b = cSum co (p / 2).toNat + (if p % 2 = 1 then l - co (p - 1) else 0) ∧ (i < (p + 1) / 2 → c = co (2 * i)) ∧ (2 * i + 2 ≤ p → e = co (2 * i + 1) - 1) ∧ (p = 2 * i + 1 → e = l - 1)
section MX
variable {co : Int → Int} {U i l p a b c e p' l' : Int}
theorem mx_0 (h : mxI co U i l p a b c e) (hr : rise co U) (hi : 0 ≤ i) (hl : l < l') (hp' : (p' = p ∧ (p < U → ¬ co p = l)) ∨ (p' = p + 1 ∧ p < U ∧ co p = l)) (hq : ∀ u, p' ≤ u → u < U → l' ≤ co u) (ht : p' % 2 = 0) : mxI co U i l' p' a b c e := by
  obtain ⟨h1, h2, h3, h4, h5, h6, h7, h8⟩ := h
  rcases hp' with ⟨q, q2⟩ | ⟨q, q2, q3⟩
  · subst q
    refine ⟨h1, fun u u0 u1 => by have := h2 u u0 u1; omega, hq, h4, ?_, h6, h7, fun w => by omega⟩
    rw [h5, if_neg (by omega), if_neg (by omega)]
  · subst q
    refine ⟨by omega, fun u u0 u1 => ?_, hq, by omega, ?_, fun w => h6 (by omega), fun w => ?_, fun w => by omega⟩
    · by_cases z : u = p
      · rw [z]
        omega
      · have := h2 u u0 (by omega)
        omega
    · rw [h5, if_pos (by omega), if_neg (by omega), show ((p + 1) / 2).toNat = (p / 2).toNat + 1 by omega]
      show _ = cSum co (p / 2).toNat + (co (2 * (((p / 2).toNat : Nat) : Int) + 1) - co (2 * (((p / 2).toNat : Nat) : Int))) + 0
      rw [show 2 * (((p / 2).toNat : Nat) : Int) + 1 = p by omega, show 2 * (((p / 2).toNat : Nat) : Int) = p - 1 by omega, q3]
      omega
    · by_cases z : 2 * i + 2 ≤ p
      · exact h7 z
      · have z2 : p = 2 * i + 1 := by omega
        rw [← z2, q3]
        exact h8 z2
theorem mx_s (h : mxI co U i l p a b c e) (hi : 0 ≤ i) (hl : l < l') (hp : p % 2 = 0) (hu : p < U) (he : co p = l) (hq : ∀ u, p + 1 ≤ u → u < U → l' ≤ co u) {c' e' : Int} (hc : (a = i → c' = l) ∧ (¬ a = i → c' = c)) (hee : (a + 1 = i + 1 → e' = l' - 1) ∧ (¬ a + 1 = i + 1 → e' = e)) : mxI co U i l' (p + 1) (a + 1) (b + (l' - l)) c' e' := by
  obtain ⟨h1, h2, h3, h4, h5, h6, h7, h8⟩ := h
  refine ⟨by omega, fun u u0 u1 => ?_, hq, by omega, ?_, fun w => ?_, fun w => ?_, fun w => hee.1 (by omega)⟩
  · by_cases z : u = p
    · rw [z]
      omega
    · have := h2 u u0 (by omega)
      omega
  · rw [h5, if_neg (by omega), if_pos (by omega), show ((p + 1) / 2).toNat = (p / 2).toNat by omega, show p + 1 - 1 = p by omega, he]
    omega
  · by_cases z : a = i
    · rw [hc.1 z, ← he, show p = 2 * i by omega]
    · rw [hc.2 z]
      exact h6 (by omega)
  · rw [hee.2 (by omega)]
    exact h7 (by omega)
theorem mx_c (h : mxI co U i l p a b c e) (hi : 0 ≤ i) (hl : l < l') (hp : p % 2 = 1) (hq : ∀ u, p ≤ u → u < U → l' ≤ co u) {e' : Int} (hee : (a = i + 1 → e' = l' - 1) ∧ (¬ a = i + 1 → e' = e)) : mxI co U i l' p a (b + (l' - l)) c e' := by
  obtain ⟨h1, h2, h3, h4, h5, h6, h7, h8⟩ := h
  refine ⟨h1, fun u u0 u1 => by have := h2 u u0 u1; omega, hq, h4, ?_, h6, fun w => ?_, fun w => hee.1 (by omega)⟩
  · rw [h5, if_pos hp, if_pos hp]
    omega
  · rw [hee.2 (by omega)]
    exact h7 w
theorem mx_end (h : mxI co U i 65536 p a b c e) (hc : cOK co U) (hi : 0 ≤ i) : a = U / 2 ∧ b = cSum co (U / 2).toNat ∧ (i < U / 2 → c = co (2 * i) ∧ e = co (2 * i + 1) - 1) := by
  obtain ⟨h1, h2, h3, h4, h5, h6, h7, h8⟩ := h
  obtain ⟨c1, c2, c3, c4⟩ := hc
  have pe : p = U ∨ (p = U - 1 ∧ co p = 65536) := by
    by_cases z : p = U
    · exact Or.inl z
    · have w1 := h3 p (Int.le_refl _) (by omega)
      have w2 := c3 p h1.1 (by omega)
      by_cases z2 : p = U - 1
      · exact Or.inr ⟨z2, by omega⟩
      · have w3 := c4 p (p + 1) h1.1 (by omega) (by omega)
        have w4 := c3 (p + 1) (by omega) (by omega)
        omega
  rcases pe with z | ⟨z, z2⟩
  · subst z
    refine ⟨by omega, ?_, fun w => ⟨h6 (by omega), h7 (by omega)⟩⟩
    rw [h5, if_neg (by omega)]
    omega
  · refine ⟨by omega, ?_, fun w => ⟨h6 (by omega), ?_⟩⟩
    · rw [h5, if_pos (by omega), show (U / 2).toNat = (p / 2).toNat + 1 by omega]
      show _ = cSum co (p / 2).toNat + (co (2 * (((p / 2).toNat : Nat) : Int) + 1) - co (2 * (((p / 2).toNat : Nat) : Int)))
      rw [show 2 * (((p / 2).toNat : Nat) : Int) + 1 = p by omega, show 2 * (((p / 2).toNat : Nat) : Int) = p - 1 by omega, z2]
    · by_cases y : 2 * i + 2 ≤ p
      · exact h7 y
      · have y2 : p = 2 * i + 1 := by omega
        rw [← y2, z2]
        exact h8 y2
end MX
section SMX
variable {G : zG} {d : Nat} {h : zH}
theorem sm_setTurns {K : Int → zH → Prop} {s n x : Int} {c : Int → Int} (hs : 0 ≤ s ∧ s < 24) (hm : mS h s n c) (hx : 0 ≤ x ∧ x < 65536) (k : ∀ r, x < r → r ≤ 65536 → (∀ i, 0 ≤ i → i < n → c i ≤ x ∨ r ≤ c i) → K r h) : zCi G d mX12_setTurns [vr 12 466, vi s, vi x] h K := by
  obtain ⟨o1, o2, o3, o4⟩ := hm
  obtain ⟨c1, c2, c3, c4⟩ := o1
  have go : ∀ (f : Nat) (j : Int), 0 ≤ j → j + f = n / 2 → (∀ i, 0 ≤ i → i < 2 * j → c i ≤ x) → tX12_setTurns_2 G d K s x j h := by
    intro f
    induction f with
    | zero =>
      intro j j0 jf le
      refine bX12_setTurns_2 ⟨hs, ?_⟩
      rw [o3]
      exact ⟨⟨by omega, by omega⟩, ⟨by omega, by omega⟩, fun _ => k 65536 (by omega) (Int.le_refl _) (fun i a b => Or.inl (le i a (by omega))), fun z => absurd z (by omega)⟩
    | succ f ih =>
      intro j j0 jf le
      obtain ⟨w1, w2⟩ := o4 j j0 (by omega)
      have cb1 := c3 (2 * j) (by omega) (by omega)
      have cb2 := c3 (2 * j + 1) (by omega) (by omega)
      refine bX12_setTurns_2 ⟨hs, ?_⟩
      rw [o3, w1, w2]
      refine ⟨⟨by omega, by omega⟩, ⟨by omega, by omega⟩, fun z => absurd z (by omega), fun _ => ⟨⟨by omega, by omega⟩, ⟨by omega, by omega⟩, ⟨by omega, by omega⟩, fun q => ⟨⟨by omega, by omega⟩, ⟨by omega, by omega⟩, ⟨by omega, by omega⟩, fun q2 => ih (j + 1) (by omega) (by omega) (fun i a b => ?_), fun q2 => ⟨⟨by omega, by omega⟩, ?_⟩⟩, fun q => ⟨⟨by omega, by omega⟩, k _ (by omega) cb1.2 (fun i a b => ?_)⟩⟩⟩
      · by_cases z : i < 2 * j
        · exact le i a z
        · by_cases z2 : i = 2 * j
          · rw [z2]
            exact q
          · rw [show i = 2 * j + 1 by omega]
            omega
      · refine k _ (by omega) (by omega) (fun i a b => ?_)
        by_cases z : i < 2 * j
        · exact Or.inl (le i a z)
        · by_cases z2 : i = 2 * j
          · rw [z2]
            exact Or.inl q
          · by_cases z3 : i = 2 * j + 1
            · rw [z3]
              exact Or.inr (by omega)
            · have := c4 (2 * j + 1) i (by omega) (by omega) b
              exact Or.inr (by omega)
      · by_cases z : i < 2 * j
        · exact Or.inl (le i a z)
        · by_cases z2 : i = 2 * j
          · rw [z2]
            exact Or.inr (Int.le_refl _)
          · have := c4 (2 * j) i (by omega) (by omega) b
            exact Or.inr (by omega)
  exact eX12_setTurns (bX12_setTurns_0 (go (n / 2).toNat 0 (by omega) (by omega) (fun i a b => absurd b (by omega))))
/-- between two cuts a set stays -/
theorem inn_const {c : Int → Int} {n x r z : Int} (hr : rise c n) (h : ∀ i, 0 ≤ i → i < n → c i ≤ x ∨ r ≤ c i) (h1 : x ≤ z) (h2 : z < r) : inn c n z ↔ inn c n x := by
  obtain ⟨p, a, b, e⟩ := rise_p hr x
  rw [inn_of a b e]
  refine inn_of a (fun i i0 i1 => by have := b i i0 i1; omega) (fun i i0 i1 => ?_)
  have := e i i0 i1
  rcases h i (by omega) i1 with w | w <;> omega
theorem bool_of {P : Prop} : ∃ b : Bool, b = true ↔ P := by
  by_cases h : P
  · exact ⟨true, fun _ => h, fun _ => rfl⟩
  · exact ⟨false, fun q => (by cases q), fun q => absurd q h⟩
theorem sm_mixes {K : zH → Prop} {s t f i X Y U : Int} {cx cy co : Int → Int} (hs : 0 ≤ s ∧ s < 24) (ht : 0 ≤ t ∧ t < 24) (ms : mS h s X cx) (mt : mS h t Y cy) (ho : cOK co U) (hU : U ≤ 1000) (tr : ∀ z, 0 ≤ z → z < 65536 → ∀ bx by_ : Bool, (bx = true ↔ inn cx X z) → (by_ = true ↔ inn cy Y z) → (inn co U z ↔ ztr f bx by_ = true)) (hi : 0 ≤ i ∧ i < 65536)
    (k : ∀ h' : zH, (∀ a, ¬ a = 466 → h' a = h a) → (∀ j, ¬ (36 ≤ j ∧ j ≤ 39) → h' 466 j = h 466 j) → h' 466 36 = U / 2 → h' 466 37 = cSum co (U / 2).toNat → (i < U / 2 → h' 466 38 = co (2 * i) ∧ h' 466 39 = co (2 * i + 1) - 1) → K h') : zCv G (d + 2) mX12_mixes [vr 12 466, vi s, vi t, vi f, vi i] h K := by
  have hro := rise_of ho
  have loop : ∀ (n : Nat) (l p bf : Int) (h1 : zH), 65536 - l ≤ n → 0 ≤ l ∧ l ≤ 65536 → bf = p % 2 → (∀ a, ¬ a = 466 → h1 a = h a) → (∀ j, ¬ (36 ≤ j ∧ j ≤ 39) → h1 466 j = h 466 j) → mxI co U i l p (h1 466 36) (h1 466 37) (h1 466 38) (h1 466 39) → tX12_mixes_16 G (d + 1) K s t f i l bf h1 := by
    intro n
    induction n with
    | zero =>
      intro l p bf h1 hn hl hb g1 g2 hI
      have el : l = 65536 := by omega
      subst el
      obtain ⟨x1, x2, x3⟩ := mx_end hI ho hi.1
      exact bX12_mixes_16 ⟨⟨by omega, by omega⟩, fun _ => k h1 g1 g2 x1 x2 x3, fun z => absurd z (by omega)⟩
    | succ n ih =>
      intro l p bf h1 hn hl hb g1 g2 hI
      have p0 := hI.1
      refine bX12_mixes_16 ⟨⟨by omega, by omega⟩, fun q => ?_, fun q => ?_⟩
      · have el : l = 65536 := by omega
        subst el
        obtain ⟨x1, x2, x3⟩ := mx_end hI ho hi.1
        exact k h1 g1 g2 x1 x2 x3
      · have ms1 : mS h1 s X cx := mS_fr (g1 471 (by decide)) (g1 472 (by decide)) (g1 473 (by decide)) ms
        have mt1 : mS h1 t Y cy := mS_fr (g1 471 (by decide)) (g1 472 (by decide)) (g1 473 (by decide)) mt
        have ct : ∀ next, l < next → next ≤ 65536 → (∀ a, 0 ≤ a → a < X → cx a ≤ l ∨ next ≤ cx a) → (∀ a, 0 ≤ a → a < Y → cy a ≤ l ∨ next ≤ cy a) → zCb G (d + 1) mX12_setHas [vr 12 466, vi s, vi l] h1 (fun x5 h6 => zCb G (d + 1) mX12_setHas [vr 12 466, vi t, vi l] h6 (fun x7 h8 => zCb G (d + 1) mX12_holds [vi f, vi (bi x5), vi (bi x7)] h8 (fun x9 h10 => (x9 = false → tX12_mixes_113 G (d + 1) K s t f i l next (bi x9) h10) ∧ (x9 = true → zR bf ∧ (¬ bf = 0 → tX12_mixes_113 G (d + 1) K s t f i l next (bi x9) h10) ∧ (bf = 0 → zR (h10 466 36) ∧ zR i ∧ (¬ (h10 466 36) = i → tX12_mixes_103 G (d + 1) K s t f i l next (bi x9) h10) ∧ ((h10 466 36) = i → tX12_mixes_103 G (d + 1) K s t f i l next (bi x9) (zup h10 466 38 l))))))) := by
          intro next n1 n2 nx ny
          refine sm_setHas hs ms1 ⟨by omega, by omega⟩ (fun bx hbx => sm_setHas ht mt1 ⟨by omega, by omega⟩ (fun by_ hby => sm_holds ?_))
          have hbx' : bx = true ↔ inn cx X l := hbx.trans (inn_cIn ms.1).symm
          have hby' : by_ = true ↔ inn cy Y l := hby.trans (inn_cIn mt.1).symm
          have tl := tr l hl.1 (by omega) bx by_ hbx' hby'
          have cst : ∀ z, l ≤ z → z < next → (inn co U z ↔ inn co U l) := fun z z0 z1 => by
            rw [tl]
            exact tr z (by omega) (by omega) bx by_ (hbx'.trans (inn_const (rise_of ms.1) nx z0 z1).symm) (hby'.trans (inn_const (rise_of mt.1) ny z0 z1).symm)
          have gap : ∀ u, 0 ≤ u → u < U → l < co u → next ≤ co u := fun u u0 u1 u2 => by
            rcases Int.lt_or_le (co u) next with w | w
            · exfalso
              have a1 := cst (co u) (by omega) w
              have a2 := cst (co u - 1) (by omega) (by omega)
              have a3 : inn co U (co u) ↔ (u + 1) % 2 = 1 := inn_of (by omega) (fun v v0 v1 => by
                by_cases y : v = u
                · rw [y]
                  exact Int.le_refl _
                · have := hro.2.2 v u v0 (by omega) u1
                  omega) (fun v v0 v1 => hro.2.2 u v u0 (by omega) v1)
              have a4 : inn co U (co u - 1) ↔ u % 2 = 1 := inn_of (by omega) (fun v v0 v1 => by
                have := hro.2.2 v u v0 v1 u1
                omega) (fun v v0 v1 => by
                by_cases y : v = u
                · rw [y]
                  omega
                · have := hro.2.2 u v u0 (by omega) v1
                  omega)
              have a5 := (a3.symm.trans a1).trans (a2.symm.trans a4)
              omega
            · exact w
          have h3 := hI.2.2.1
          have h2 := hI.2.1
          have a36 := hI.2.2.2.1
          -- how many cuts up to l
          have pp : ∃ p', ((p' = p ∧ (p < U → ¬ co p = l)) ∨ (p' = p + 1 ∧ p < U ∧ co p = l)) ∧ (inn co U l ↔ p' % 2 = 1) ∧ (∀ u, p' ≤ u → u < U → next ≤ co u) := by
            by_cases w : p < U ∧ co p = l
            · have gg : ∀ u, p + 1 ≤ u → u < U → l < co u := fun u u0 u1 => by
                have := hro.2.2 p u p0.1 (by omega) u1
                omega
              refine ⟨p + 1, Or.inr ⟨rfl, w⟩, inn_of (by omega) (fun u u0 u1 => ?_) gg, fun u u0 u1 => gap u (by omega) u1 (gg u u0 u1)⟩
              by_cases y : u = p
              · rw [y]
                omega
              · have := h2 u u0 (by omega)
                omega
            · have gg : ∀ u, p ≤ u → u < U → l < co u := fun u u0 u1 => by
                have z1 := h3 u u0 u1
                by_cases y : u = p
                · rw [y] at z1 ⊢
                  by_cases y2 : co p = l
                  · exact absurd ⟨by omega, y2⟩ w
                  · omega
                · have z2 := h3 p (Int.le_refl _) (by omega)
                  have := hro.2.2 p u p0.1 (by omega) u1
                  omega
              refine ⟨p, Or.inl ⟨rfl, fun y y2 => w ⟨y, y2⟩⟩, inn_of p0 (fun u u0 u1 => by have := h2 u u0 u1; omega) gg, fun u u0 u1 => gap u (by omega) u1 (gg u u0 u1)⟩
          obtain ⟨p', hp', hin, hq⟩ := pp
          have t156 : ∀ (h9 : zH) (bb p' : Int), bb = p' % 2 → (∀ a, ¬ a = 466 → h9 a = h a) → (∀ j, ¬ (36 ≤ j ∧ j ≤ 39) → h9 466 j = h 466 j) → mxI co U i next p' (h9 466 36) (h9 466 37) (h9 466 38) (h9 466 39) → tX12_mixes_156 G (d + 1) K s t f i next bb h9 := fun h9 bb p' e q1 q2 q3 => bX12_mixes_156 (ih next p' bb h9 (by omega) (by omega) e q1 q2 q3)
          have r36 : zR (h1 466 36) := ⟨by omega, by omega⟩
          have t132 : ∀ (h9 : zH) (p'' : Int), p'' % 2 = 1 → p'' ≤ U ∧ 0 ≤ p'' → (∀ a, ¬ a = 466 → h9 a = h a) → (∀ j, ¬ (36 ≤ j ∧ j ≤ 39) → h9 466 j = h 466 j) → h9 466 36 = (p'' + 1) / 2 → (∀ e', ((h9 466 36 = i + 1 → e' = next - 1) ∧ (¬ h9 466 36 = i + 1 → e' = h9 466 39)) → mxI co U i next p'' (h9 466 36) (h9 466 37) (h9 466 38) e') → tX12_mixes_132 G (d + 1) K s t f i next 1 h9 := by
            intro h9 p'' e1 e0 q1 q2 q36 q3
            refine bX12_mixes_132 ⟨⟨by decide, by decide⟩, fun w => absurd w (by decide), fun _ => ⟨⟨by omega, by omega⟩, ⟨by omega, by omega⟩, fun w => t156 h9 1 p'' e1.symm q1 q2 (q3 _ ⟨fun z => absurd z w, fun _ => rfl⟩), fun w => ?_⟩⟩
            refine t156 _ 1 p'' e1.symm (fun a z => by rw [zup_ne z, q1 a z]) (fun j z => by rw [zup_ns (by omega), q2 j z]) ?_
            rw [zup_ns (by decide), zup_ns (by decide), zup_ns (by decide), zup_eq]
            exact q3 _ ⟨fun _ => rfl, fun z => absurd w z⟩
          refine ⟨fun w => ?_, fun w => ⟨⟨by omega, by omega⟩, fun z => ?_, fun z => ⟨r36, ⟨by omega, by omega⟩, fun y => ?_, fun y => ?_⟩⟩⟩
          · have ev : p' % 2 = 0 := by
              have : ¬ p' % 2 = 1 := fun y => by
                have := tl.mp (hin.mpr y)
                rw [w] at this
                cases this
              omega
            rw [w]
            refine bX12_mixes_113 ⟨⟨by decide, by decide⟩, fun _ => bX12_mixes_132 ⟨⟨by decide, by decide⟩, fun _ => t156 h1 _ p' ?_ g1 g2 (mx_0 hI hro hi.1 n1 hp' hq ev), fun y => absurd rfl y⟩, fun y => absurd rfl y⟩
            rw [ev]
            rfl
          · have od := hin.mp (tl.mpr w)
            have ep : p' = p := by
              rcases hp' with y | y <;> omega
            subst ep
            rw [w]
            refine bX12_mixes_113 ⟨⟨by decide, by decide⟩, fun y => absurd y (by decide), fun _ => t132 _ p' od (by omega) (fun a z => by rw [zup_ne z, g1 a z]) (fun j z => by rw [zup_ns (by omega), g2 j z]) (by rw [zup_ns (by decide)]; exact a36) (fun e' he' => ?_)⟩
            rw [zup_ns (by decide), zup_ns (by decide)] at he'
            rw [zup_ns (by decide), zup_eq, zup_ns (by decide)]
            exact mx_c hI hi.1 n1 od hq he'
          · have od := hin.mp (tl.mpr w)
            have ep : p' = p + 1 ∧ p < U ∧ co p = l := by
              rcases hp' with y | y
              · omega
              · exact y
            obtain ⟨ep, e1, e2⟩ := ep
            rw [w]
            refine bX12_mixes_103 (bX12_mixes_113 ⟨⟨by decide, by decide⟩, fun y => absurd y (by decide), fun _ => t132 _ (p + 1) (by omega) (by omega) (fun a z => by rw [zup_ne z, zup_ne z, g1 a z]) (fun j z => by rw [zup_ns (by omega), zup_ns (by omega), g2 j z]) (by rw [zup_ns (by decide), zup_eq]; omega) (fun e' he' => ?_)⟩)
            rw [zup_ns (by decide), zup_eq, zup_ns (by decide), zup_ns (by decide)] at he'
            rw [zup_ns (by decide), zup_eq, zup_eq, zup_ns (by decide), zup_ns (by decide), zup_ns (by decide)]
            exact mx_s hI hi.1 n1 (by omega) e1 e2 (fun u u0 u1 => hq u (by omega) u1) ⟨fun z => absurd z y, fun _ => rfl⟩ he'
          · have od := hin.mp (tl.mpr w)
            have ep : p' = p + 1 ∧ p < U ∧ co p = l := by
              rcases hp' with y | y
              · omega
              · exact y
            obtain ⟨ep, e1, e2⟩ := ep
            rw [w]
            refine bX12_mixes_103 (bX12_mixes_113 ⟨⟨by decide, by decide⟩, fun y => absurd y (by decide), fun _ => t132 _ (p + 1) (by omega) (by omega) (fun a z => by rw [zup_ne z, zup_ne z, zup_ne z, g1 a z]) (fun j z => by rw [zup_ns (by omega), zup_ns (by omega), zup_ns (by omega), g2 j z]) (by rw [zup_ns (by decide), zup_eq, zup_ns (by decide)]; omega) (fun e' he' => ?_)⟩)
            rw [zup_ns (by decide), zup_eq, zup_ns (by decide), zup_ns (by decide), zup_ns (by decide), zup_ns (by decide)] at he'
            rw [zup_ns (by decide), zup_eq, zup_eq, zup_ns (by decide), zup_ns (by decide), zup_ns (by decide), zup_ns (by decide), zup_ns (by decide), zup_eq]
            exact mx_s hI hi.1 n1 (by omega) e1 e2 (fun u u0 u1 => hq u (by omega) u1) ⟨fun _ => rfl, fun z => absurd y z⟩ he'
        refine sm_setTurns hs ms1 (by omega) (fun r1 a1 a2 a3 => sm_setTurns ht mt1 (by omega) (fun r2 b1 b2 b3 => ⟨⟨by omega, by omega⟩, ⟨by omega, by omega⟩, fun w => ct r2 b1 b2 (fun a x0 x1 => ?_) b3, fun w => ct r1 a1 a2 a3 (fun a x0 x1 => ?_)⟩))
        · have := a3 a x0 x1
          omega
        · have := b3 a x0 x1
          omega
  refine eX12_mixes (bX12_mixes_0 (loop 65536 0 0 0 _ (by omega) (by omega) rfl (fun a z => by rw [zup_ne z, zup_ne z]) (fun j z => by rw [zup_ns (by omega), zup_ns (by omega)]) ?_))
  rw [zup_ns (by decide), zup_eq, zup_eq]
  refine ⟨⟨by omega, ho.1⟩, fun u a b => absurd b (by omega), fun u a b => (ho.2.2.1 u a b).1, rfl, rfl, fun w => absurd w (by omega), fun w => absurd w (by omega), fun w => absurd w (by omega)⟩
end SMX
