/-! ===== the class leads ===== -/
section LD
variable {G : zG} {d : Nat} {h : zH} {n en nb : Int} {LA : List eT} {LF : List fT} {T : Int → Int → Int} {S : Int → Int}
theorem drC_ov {h' : zH} {L L' : List eT} (a : 160 < L.length) (b : 160 < L'.length) (k : drC h n en L LF) (f : ∀ x, ¬ x = 4 → ¬ x = 7 → h' x = h x) (g : ∀ j, ¬ j = 12 → h' 4 j = h 4 j) (o : h' 4 12 = 1) : drC h' n en L' LF := by
  obtain ⟨k1, k2, k3, k4, k5, k6, k7, k8, k9, k10⟩ := k
  unfold drC
  rw [g 7 (by decide), g 8 (by decide), g 9 (by decide), g 10 (by decide), g 11 (by decide), f 5 (by decide) (by decide), f 6 (by decide) (by decide), f 8 (by decide) (by decide), f 9 (by decide) (by decide), f 10 (by decide) (by decide)]
  exact ⟨k1, k2, k3, k4, fun z => absurd z (by omega), k6, fun _ => k7 a, k8, fun z => absurd z.2.1 (by omega), fun _ => o⟩
/-- letters of the same blocks -/
theorem drC_X {L L' : List eT} (k : drC h n en L LF) (l : L'.length = L.length) (e : ∀ j : Int, 0 ≤ j → j < L.length → (gE L' j).1 = (gE L j).1 ∧ (gE L' j).2.1 = (gE L j).2.1 ∧ ∀ b, 0 ≤ b → b < h 4 11 → (gE L' j).2.2 (h 10 b) = (gE L j).2.2 (h 10 b)) : drC h n en L' LF := by
  obtain ⟨k1, k2, k3, k4, k5, k6, k7, k8, k9, k10⟩ := k
  unfold drC fits at *
  rw [l]
  refine ⟨k1, k2, k3, k4, fun z => ⟨(k5 z).1, fun j a b => ?_⟩, k6, k7, k8, k9, k10⟩
  obtain ⟨e1, e2, e3⟩ := e j a b
  obtain ⟨x1, x2, x3⟩ := (k5 z).2 j a b
  exact ⟨by rw [e1, x1], by rw [e2, x2], fun c c0 c1 => by rw [e3 c c0 c1, x3 c c0 c1]⟩
/-- edges of earlier states -/
def eLow (LA : List eT) (q : Int) : Prop := ∀ j : Int, 0 ≤ j → j < LA.length → (gE LA j).1 < q
/-- a search that comes to nothing, or to something, in a draft that is over -/
theorem sp_lead_ov {K : zH → Prop} {q t b : Int} (E0 : h 4 9 = 160) (hz : ∀ e, 0 ≤ e → e < 160 → zR (h 5 e) ∧ zR (h 6 e)) (hq : zR q) (ht : zR t) (hb : 0 ≤ b ∧ b < 256) (k : ∀ h' : zH, (∀ x, ¬ x = 4 → ¬ x = 7 → h' x = h x) → (∀ j, ¬ j = 12 → h' 4 j = h 4 j) → (h' 4 12 = h 4 12 ∨ h' 4 12 = 1) → K h') : zCv G (d + 1) mX2_lead [vr 2 4, vi q, vi t, vi b] h K := by
  have add : zCi G d mX2_addEdge [vr 2 4, vi q, vi t] h (fun x1 h2 => zR x1 ∧ (x1 < 0 → K h2) ∧ (¬ x1 < 0 → zCv G d mX2_mark [vr 2 4, vi x1, vi b] h2 (fun h4 => K h4))) := sp_addEdge (by omega) (fun z => absurd E0 (by omega)) (fun _ => ⟨zR_m1, fun _ => k _ (fun x p _ => zup_ne p) (fun j p => zup_ns p) (Or.inr zup_eq), fun z => absurd (by decide) z⟩)
  have mrk : ∀ e, 0 ≤ e ∧ e < 160 → zR e ∧ (e < 0 → K h) ∧ (¬ e < 0 → zCv G d mX2_mark [vr 2 4, vi e, vi b] h (fun h6 => K h6)) := fun e he => ⟨⟨by omega, by omega⟩, fun z => absurd z (by omega), fun _ => sp_mark he hb (fun h' g1 _ => k h' (fun x _ p => g1 x p) (fun j _ => by rw [g1 4 (by decide)]) (Or.inl (by rw [g1 4 (by decide)])))⟩
  have go : ∀ (f : Nat) (e : Int), e = (f : Int) - 1 → e < 160 → tX2_lead_8 G d K q t b e h := by
    intro f
    induction f with
    | zero =>
      intro e ee e1
      refine bX2_lead_8 ⟨⟨by omega, by omega⟩, fun _ => ⟨⟨by omega, by omega⟩, fun _ => add, fun z => absurd (by omega) z⟩, fun z => absurd (by omega) z⟩
    | succ f ih =>
      intro e ee e1
      have z := hz e (by omega) e1
      refine bX2_lead_8 ⟨⟨by omega, by omega⟩, fun y => absurd y (by omega), fun _ => ⟨by omega, z.1, hq, fun _ => ⟨⟨by omega, by omega⟩, fun y => absurd y (by omega), fun _ => ⟨by omega, z.1, hq, fun _ => mrk e (by omega), fun _ => add⟩⟩, fun _ => ⟨by omega, z.2, ht, fun _ => ⟨⟨by omega, by omega⟩, fun y => absurd y (by omega), fun _ => ⟨by omega, z.1, hq, fun _ => mrk e (by omega), fun _ => add⟩⟩, fun _ => ?_⟩⟩⟩
      exact ih (e + -1) (by omega) (by omega)
  refine eX2_lead (bX2_lead_0 ?_)
  rw [E0]
  exact go 160 (160 - 1) (by omega) (by omega)
/-- a block's letters lead on -/
theorem sp_lead {K : zH → Prop} {q : Int} {b : Nat} (hS : dS S nb) (hq : 0 ≤ q ∧ q < 40) (hb : (b : Int) < nb) (e10 : h 10 = S) (e11 : h 4 11 = nb) (lo : eLow LA q) (hT : zR (T q b)) (dc : drC h n en (LA ++ eP T S nb q b b) LF) (kk : ∀ h' : zH, dF h h' → drC h' n en (LA ++ eP T S nb q (b + 1 : Nat) (b + 1)) LF → K h') : zCv G (d + 1) mX2_lead [vr 2 4, vi q, vi (T q b), vi b] h K := by
  have n256 := hS.1
  obtain ⟨L, eL⟩ : ∃ L, L = LA ++ eP T S nb q b b := ⟨_, rfl⟩
  have lL : L.length = LA.length + (eP T S nb q b b).length := by rw [eL, List.length_append]
  have l1 : (eP T S nb q (b + 1 : Nat) (b + 1)).length = (eP T S nb q b (b + 1)).length := eP_len _ _
  have lm := eP_mono (T := T) (S := S) (nb := nb) (q := q) (B := (b : Int)) (b := b) 1
  rw [← eL] at dc
  by_cases ov : 160 < L.length
  · have k7 := dc.2.2.2.2.2.2.1 ov
    have l2 : 160 < (LA ++ eP T S nb q (b + 1 : Nat) (b + 1)).length := by rw [List.length_append]; omega
    have on : h 4 12 = 1 := dc.2.2.2.2.2.2.2.2.2 (fun z => absurd z.2.1 (by omega))
    refine sp_lead_ov k7 (fun e a c => dc.2.2.1.2 e a (by omega)) ⟨by omega, by omega⟩ hT (by omega) (fun h' g1 g2 g3 => kk h' ⟨fun x p => g1 x (by omega) (by omega), g2 11 (by decide)⟩ (drC_ov ov l2 dc g1 g2 ?_))
    rcases g3 with g3 | g3
    · rw [g3, on]
    · exact g3
  -- there is room so far
  obtain ⟨e9, ct⟩ := dc.2.2.2.2.1 (by omega)
  have ctA : ∀ j : Int, 0 ≤ j → j < LA.length → gE L j = gE LA j := fun j a c => by rw [eL, gE_l a c]
  have gEr : ∀ (M N : List eT) (j : Int), M.length ≤ j → gE (M ++ N) j = gE N (j - M.length) := fun M N j c => by
    unfold gE
    rw [List.getD_eq_getElem?_getD, List.getD_eq_getElem?_getD, List.getElem?_append_right (by omega), show j.toNat - M.length = (j - M.length).toNat by omega]
  have ctB : ∀ j : Int, LA.length ≤ j → j < L.length → ∃ k : Int, (0 ≤ k ∧ k < b) ∧ gE L j = (q, T q k, fun z => tX T S nb q (T q k) z && decide (bS S nb z < b)) := fun j a c => by
    rw [eL, gEr _ _ _ a]
    exact eP_at (by omega) (by omega)
  have zz : ∀ e : Int, 0 ≤ e → e < L.length → zR (h 5 e) ∧ zR (h 6 e) := fun e a c => dc.2.2.1.2 e a (by omega)
  have stb : bS S nb (S b) = b := bS_st hS (by omega)
  -- mark an edge of this state that leads there
  have mrk : ∀ e : Int, LA.length ≤ e → e < L.length → h 6 e = T q b → zR e ∧ (e < 0 → K h) ∧ (¬ e < 0 → zCv G d mX2_mark [vr 2 4, vi e, vi b] h (fun h6 => K h6)) := by
    intro e a cc e6
    refine ⟨⟨by omega, by omega⟩, fun z => absurd z (by omega), fun _ => sp_mark (by omega) (by omega) (fun h' g1 g2 => ?_)⟩
    have seen : ¬ foB T q b = true := fun f => by
      obtain ⟨k, hk, ek⟩ := ctB e a cc
      have := (ct e (by omega) cc).2.1
      rw [ek] at this
      exact foB_t.mp f k hk.1 hk.2 (by rw [← e6]; exact this.symm)
    have eP1 : ∀ B : Int, eP T S nb q B (b + 1) = eP T S nb q B b := fun B => by rw [eP_s, if_neg seen]
    refine kk h' ⟨fun x p => g1 x (by omega), by rw [g1 4 (by decide)]⟩ ?_
    rw [eP1]
    have lQ : (LA ++ eP T S nb q (b + 1 : Nat) b).length = L.length := by rw [List.length_append, lL, eP_len (b : Int) b]
    obtain ⟨k1, k2, k3, k4, k5, k6, k7, k8, k9, k10⟩ := dc
    unfold drC fits at *
    rw [lQ, g1 4 (by decide), g1 5 (by decide), g1 6 (by decide), g1 8 (by decide), g1 9 (by decide), g1 10 (by decide)]
    refine ⟨k1, k2, k3, k4, fun z => ⟨e9, fun j a0 a1 => ?_⟩, k6, k7, k8, k9, k10⟩
    obtain ⟨x1, x2, x3⟩ := ct j a0 a1
    by_cases w : j < LA.length
    · rw [gE_l a0 w, ← ctA j a0 w]
      refine ⟨x1, x2, fun c c0 c1 => ?_⟩
      rw [g2 j c a0 c0 (by omega), decide_eq_false (fun z => absurd z.1 (by omega)), x3 c c0 c1]
      rfl
    · obtain ⟨k, hk, ek⟩ := ctB j (by omega) a1
      have ek2 : gE (LA ++ eP T S nb q (b + 1 : Nat) b) j = (q, T q k, fun z => tX T S nb q (T q k) z && decide (bS S nb z < (b + 1 : Nat))) := by
        rw [gEr _ _ _ (by omega)]
        rw [eL, gEr _ _ _ (by omega)] at ek
        obtain ⟨k', hk', e'⟩ := eP_at (T := T) (S := S) (nb := nb) (q := q) (B := ((b + 1 : Nat) : Int)) (b := b) (j := j - LA.length) (by omega) (by rw [eP_len (b : Int) b]; omega)
        have same : T q k' = T q k := by
          -- the target does not depend on where letters end
          have tt : ∀ (m : Nat) (j : Int), (gE (eP T S nb q ((b + 1 : Nat) : Int) m) j).2.1 = (gE (eP T S nb q (b : Int) m) j).2.1 := by
            intro m
            induction m with
            | zero => exact fun j => rfl
            | succ m ih =>
              intro j
              rw [eP_s, eP_s]
              by_cases f : foB T q m = true
              · rw [if_pos f, if_pos f]
                have ll := eP_len (T := T) (S := S) (nb := nb) (q := q) (B := ((b + 1 : Nat) : Int)) (b : Int) m
                by_cases j0 : 0 ≤ j
                · by_cases v : j < (eP T S nb q (b : Int) m).length
                  · rw [gE_l j0 (by omega), gE_l j0 v]
                    exact ih j
                  · by_cases v2 : j = (eP T S nb q (b : Int) m).length
                    · rw [gE_r (by omega), gE_r v2]
                    · unfold gE
                      rw [List.getD_eq_getElem?_getD, List.getD_eq_getElem?_getD, List.getElem?_eq_none (by rw [len_1]; omega), List.getElem?_eq_none (by rw [len_1]; omega)]
                · have e0 : j.toNat = 0 := by omega
                  have := ih 0
                  by_cases v : 0 < (eP T S nb q (b : Int) m).length
                  · have hh : ∀ M : List eT, gE M j = gE M 0 := fun M => by unfold gE; rw [e0]; rfl
                    rw [hh, hh, gE_l (by omega) (by omega), gE_l (by omega) (by omega)]
                    exact this
                  · have hh : ∀ M : List eT, gE M j = gE M 0 := fun M => by unfold gE; rw [e0]; rfl
                    rw [hh, hh, gE_r (by omega), gE_r (by omega)]
              · rw [if_neg f, if_neg f]
                exact ih j
          have := tt b (j - LA.length)
          rw [e', ek] at this
          exact this
        rw [e', same]
      rw [ek] at x1 x2 x3
      rw [ek2]
      refine ⟨x1, x2, fun c c0 c1 => ?_⟩
      rw [g2 j c a0 c0 (by omega), x3 c c0 c1, e10]
      show (decide (j = e ∧ c = b) || (tX T S nb q (T q k) (S c) && decide (bS S nb (S c) < b))) = (tX T S nb q (T q k) (S c) && decide (bS S nb (S c) < (b + 1 : Nat)))
      rw [e11] at c1
      have stc : bS S nb (S c) = c := bS_st hS (by omega)
      unfold tX
      rw [stc]
      by_cases y : c = b
      · rw [y]
        have tk : (T q b = T q k) ↔ j = e := by
          constructor
          · intro eq
            -- targets are different
            have dis : ∀ (m : Nat) (i j : Int), 0 ≤ i → i < j → j < (eP T S nb q (b : Int) m).length → ¬ (gE (eP T S nb q (b : Int) m) i).2.1 = (gE (eP T S nb q (b : Int) m) j).2.1 := by
              intro m
              induction m with
              | zero => exact fun i j i0 i1 i2 => absurd i2 (by show ¬ j < ((0 : Nat) : Int); omega)
              | succ m ih =>
                intro i j i0 i1 i2
                rw [eP_s] at i2 ⊢
                by_cases f : foB T q m = true
                · rw [if_pos f] at i2 ⊢
                  rw [len_1] at i2
                  by_cases v : j = (eP T S nb q (b : Int) m).length
                  · rw [gE_r v, gE_l i0 (by omega)]
                    obtain ⟨k', hk', e'⟩ := eP_at (T := T) (S := S) (nb := nb) (q := q) (B := (b : Int)) (b := m) (j := i) i0 (by omega)
                    rw [e']
                    exact foB_t.mp f k' hk'.1 hk'.2
                  · rw [gE_l i0 (by omega), gE_l (by omega) (by omega)]
                    exact ih i j i0 i1 (by omega)
                · rw [if_neg f] at i2 ⊢
                  exact ih i j i0 i1 i2
            have te : (gE L e).2.1 = T q b := by rw [← (ct e (by omega) cc).2.1, e6]
            have tj : (gE L j).2.1 = T q b := by rw [ek, eq]
            rw [eL, gEr _ _ _ (by omega)] at te tj
            rcases Int.lt_trichotomy j e with v | v | v
            · exact absurd (tj.trans te.symm) (dis b (j - LA.length) (e - LA.length) (by omega) (by omega) (by omega))
            · exact v
            · exact absurd (te.trans tj.symm) (dis b (e - LA.length) (j - LA.length) (by omega) (by omega) (by omega))
          · intro eq
            rw [← e6, ← eq]
            exact x2
        by_cases v : j = e
        · rw [decide_eq_true (show j = e ∧ (b : Int) = b from ⟨v, rfl⟩), decide_eq_true (tk.mpr v), decide_eq_true (show (b : Int) < (b + 1 : Nat) by omega)]
          rfl
        · rw [decide_eq_false (fun z => v z.1), decide_eq_false (fun z => v (tk.mp z))]
          rfl
      · rw [decide_eq_false (fun z => y z.2)]
        by_cases v : c < b
        · rw [decide_eq_true v, decide_eq_true (show c < ((b + 1 : Nat) : Int) by omega)]
          rfl
        · rw [decide_eq_false v, decide_eq_false (show ¬ c < ((b + 1 : Nat) : Int) by omega), Bool.and_false]
          rfl
  -- an edge more
  have add : (∀ e : Int, LA.length ≤ e → e < L.length → ¬ h 6 e = T q b) → zCi G d mX2_addEdge [vr 2 4, vi q, vi (T q b)] h (fun x1 h2 => zR x1 ∧ (x1 < 0 → K h2) ∧ (¬ x1 < 0 → zCv G d mX2_mark [vr 2 4, vi x1, vi b] h2 (fun h4 => K h4))) := by
    intro none
    have fresh : foB T q b = true := foB_t.mpr (fun k k0 k1 eq => by
      obtain ⟨j, hj, e⟩ := eP_ex (T := T) (S := S) (nb := nb) (q := q) (B := (b : Int)) k0 k1
      refine none (LA.length + j) (by omega) (by omega) ?_
      rw [(ct (LA.length + j) (by omega) (by omega)).2.1, eL, gEr _ _ _ (by omega), show (LA.length : Int) + j - LA.length = j by omega, e, eq])
    have eP1 : ∀ B : Int, eP T S nb q B (b + 1) = eP T S nb q B b ++ [(q, T q b, fun z => tX T S nb q (T q b) z && decide (bS S nb z < B))] := fun B => by rw [eP_s, if_pos fresh]
    refine sp_addEdge dc.2.2.1.1 (fun E1 h2 g1 g2 g3 g4 g5 g6 => ⟨⟨by omega, by omega⟩, fun z => absurd z (by omega), fun _ => sp_mark (by omega) (by omega) (fun h3 u1 u2 => ?_)⟩) (fun E1 => ⟨zR_m1, fun _ => ?_, fun z => absurd (by decide) z⟩)
    · refine kk h3 ⟨fun x p => by rw [u1 x (by omega), g1 x (by omega)], by rw [u1 4 (by decide), g2 11 (by decide)]⟩ ?_
      have d3 : drC h3 n en (L ++ [(q, T q b, fun z => tX T S nb q (T q b) z && decide (bS S nb z < (b + 1 : Nat)))]) LF := by
        obtain ⟨k1, k2, k3, k4, k5, k6, k7, k8, k9, k10⟩ := dc
        have fq : fits n (L ++ [(q, T q b, fun z => tX T S nb q (T q b) z && decide (bS S nb z < (b + 1 : Nat)))]) LF ↔ fits n L LF := by
          unfold fits
          rw [len_1]
          omega
        have x4 : ∀ j, ¬ j = 9 → h3 4 j = h 4 j := fun j p => by rw [u1 4 (by decide), g2 j p]
        have x9 : h3 4 9 = h 4 9 + 1 := by rw [u1 4 (by decide), g3]
        unfold drC
        rw [fq, len_1, x4 7 (by decide), x4 8 (by decide), x4 11 (by decide), x4 10 (by decide), x4 12 (by decide), x9, u1 10 (by decide), g1 10 (by decide), u1 5 (by decide), g4, u1 6 (by decide), g5, u1 8 (by decide), g1 8 (by decide), u1 9 (by decide), g1 9 (by decide)]
        refine ⟨k1, k2, ⟨by omega, fun e' a0 a1 => ?_⟩, k4, fun _ => ⟨by omega, fun e' a0 a1 => ?_⟩, k6, fun z => absurd z (by omega), k8, k9, k10⟩
        · by_cases w : e' = h 4 9
          · rw [w, fup_eq, fup_eq]
            exact ⟨⟨by omega, by omega⟩, hT⟩
          · rw [fup_ne w, fup_ne w]
            exact k3.2 e' a0 (by omega)
        · by_cases w : e' = L.length
          · rw [gE_r w, w, ← e9, fup_eq, fup_eq]
            refine ⟨rfl, rfl, fun b' b0 b1 => ?_⟩
            show mk h3 (h 4 9) b' = (tX T S nb q (T q b) (h 10 b') && decide (bS S nb (h 10 b') < (b + 1 : Nat)))
            rw [e11] at b1
            rw [u2 _ b' (by omega) b0 (by omega), g6 _ b' (by omega) b0 (by omega), if_pos rfl, Bool.or_false, e10]
            have stc : bS S nb (S b') = b' := bS_st hS (by omega)
            unfold tX
            rw [stc, Bool.eq_iff_iff, Bool.and_eq_true, decide_eq_true_iff, decide_eq_true_iff, decide_eq_true_iff]
            constructor
            · rintro ⟨-, z⟩
              rw [z]
              exact ⟨rfl, by omega⟩
            · rintro ⟨z1, z2⟩
              refine ⟨rfl, ?_⟩
              by_cases v : b' = b
              · exact v
              · exact absurd z1 (foB_t.mp fresh b' b0 (by omega))
          · obtain ⟨x1, x2, x3⟩ := ct e' a0 (by omega)
            rw [gE_l a0 (by omega), fup_ne (by omega), fup_ne (by omega)]
            refine ⟨x1, x2, fun b' b0 b1 => ?_⟩
            rw [u2 _ b' (by omega) b0 (by omega), g6 _ b' (by omega) b0 (by omega), if_neg (by omega), decide_eq_false (fun z => absurd z.1 (by omega)), x3 b' b0 b1]
            rfl
      have z10 : h3 10 = S := by rw [u1 10 (by decide), g1 10 (by decide), e10]
      have z11 : h3 4 11 = nb := by rw [u1 4 (by decide), g2 11 (by decide), e11]
      have lQ : (LA ++ eP T S nb q (b + 1 : Nat) (b + 1)).length = L.length + 1 := by rw [List.length_append, eP1, len_1, lL, eP_len (b : Int) b]; omega
      refine drC_X d3 (by rw [lQ, len_1]) (fun j a0 a1 => ?_)
      rw [len_1] at a1
      rw [z10, z11]
      by_cases w : j = L.length
      · rw [gE_r w, eP1, ← List.append_assoc, gE_r (by rw [List.length_append, eP_len (b : Int) b, w, lL])]
        exact ⟨rfl, rfl, fun _ _ _ => rfl⟩
      · rw [eP1, ← List.append_assoc, gE_l (L := LA ++ eP T S nb q ((b + 1 : Nat) : Int) b) a0 (by rw [List.length_append, eP_len (b : Int) b]; omega), gE_l (L := L) a0 (by omega)]
        by_cases v : j < LA.length
        · rw [gE_l a0 v, ctA j a0 v]
          exact ⟨rfl, rfl, fun _ _ _ => rfl⟩
        · have lj : j - LA.length < (eP T S nb q (b : Int) b).length := by omega
          rw [gEr _ _ _ (by omega), eL, gEr _ _ _ (by omega)]
          -- side by side
          have sbs : ∀ (m : Nat), (m : Int) ≤ b → ∀ i : Int, 0 ≤ i → i < (eP T S nb q (b : Int) m).length → (gE (eP T S nb q ((b + 1 : Nat) : Int) m) i).1 = (gE (eP T S nb q (b : Int) m) i).1 ∧ (gE (eP T S nb q ((b + 1 : Nat) : Int) m) i).2.1 = (gE (eP T S nb q (b : Int) m) i).2.1 ∧ ∀ c, 0 ≤ c → c < nb → (gE (eP T S nb q ((b + 1 : Nat) : Int) m) i).2.2 (S c) = (gE (eP T S nb q (b : Int) m) i).2.2 (S c) := by
            intro m
            induction m with
            | zero => exact fun _ i i0 i1 => absurd i1 (by show ¬ i < ((0 : Nat) : Int); omega)
            | succ m ih =>
              intro hm i i0 i1
              have ll := eP_len (T := T) (S := S) (nb := nb) (q := q) (B := ((b + 1 : Nat) : Int)) (b : Int) m
              rw [eP_s] at i1
              rw [eP_s, eP_s]
              by_cases f : foB T q m = true
              · rw [if_pos f] at i1
                rw [if_pos f, if_pos f]
                rw [len_1] at i1
                by_cases y : i = (eP T S nb q (b : Int) m).length
                · rw [gE_r y, gE_r (by omega)]
                  refine ⟨rfl, rfl, fun c c0 c1 => ?_⟩
                  show (tX T S nb q (T q m) (S c) && decide (bS S nb (S c) < ((b + 1 : Nat) : Int))) = (tX T S nb q (T q m) (S c) && decide (bS S nb (S c) < (b : Int)))
                  unfold tX
                  rw [bS_st hS ⟨c0, c1⟩]
                  by_cases y2 : c = b
                  · rw [y2, decide_eq_false (show ¬ T q b = T q m from fun y3 => foB_t.mp fresh m (by omega) (by omega) y3.symm)]
                    rfl
                  · by_cases y4 : c < b
                    · rw [decide_eq_true y4, decide_eq_true (show c < ((b + 1 : Nat) : Int) by omega)]
                    · rw [decide_eq_false y4, decide_eq_false (show ¬ c < ((b + 1 : Nat) : Int) by omega)]
                · rw [gE_l i0 (by omega), gE_l i0 (by omega)]
                  exact ih (by omega) i i0 (by omega)
              · rw [if_neg f] at i1
                rw [if_neg f, if_neg f]
                exact ih (by omega) i i0 i1
          exact sbs b (Int.le_refl _) (j - LA.length) (by omega) lj
    · refine kk _ ⟨fun x p => zup_ne (by omega), zup_ns (by decide)⟩ ?_
      have d3 := drC_eo (x := (q, T q b, fun z => tX T S nb q (T q b) z && decide (bS S nb z < (b + 1 : Nat)))) dc E1
      have lQ : (LA ++ eP T S nb q (b + 1 : Nat) (b + 1)).length = L.length + 1 := by rw [List.length_append, eP1, len_1, lL, eP_len (b : Int) b]; omega
      exact drC_ov (by rw [len_1]; omega) (by omega) d3 (fun _ _ _ => rfl) (fun _ _ => rfl) zup_eq
  -- the search
  have go : ∀ (f : Nat) (e : Int), e = (f : Int) - 1 → e < L.length → (LA.length : Int) - 1 ≤ e → (∀ e', e < e' → e' < L.length → LA.length ≤ e' → ¬ h 6 e' = T q b) → tX2_lead_8 G d K q (T q b) b e h := by
    intro f
    induction f with
    | zero =>
      intro e ee e1 e2 none
      exact bX2_lead_8 ⟨⟨by omega, by omega⟩, fun _ => ⟨⟨by omega, by omega⟩, fun _ => add (fun e' a c => none e' (by omega) c a), fun z => absurd (by omega) z⟩, fun z => absurd (by omega) z⟩
    | succ f ih =>
      intro e ee e1 e2 none
      have z := zz e (by omega) e1
      by_cases w : LA.length ≤ e
      · obtain ⟨k, hk, ek⟩ := ctB e w e1
        have f5 : h 5 e = q := by rw [(ct e (by omega) e1).1, ek]
        refine bX2_lead_8 ⟨⟨by omega, by omega⟩, fun y => absurd y (by omega), fun _ => ⟨by omega, z.1, ⟨by omega, by omega⟩, fun y => absurd f5 y, fun _ => ⟨by omega, z.2, hT, fun y => ⟨⟨by omega, by omega⟩, fun y => absurd y (by omega), fun _ => ⟨by omega, z.1, ⟨by omega, by omega⟩, fun _ => mrk e w e1 y, fun y => absurd f5 y⟩⟩, fun y => ih (e + -1) (by omega) (by omega) (by omega) (fun e' a c g => ?_)⟩⟩⟩
        by_cases v : e' = e
        · rw [v]
          exact y
        · exact none e' (by omega) c g
      · have f5 : ¬ h 5 e = q := by
          have := lo e (by omega) (by omega)
          rw [(ct e (by omega) e1).1, ctA e (by omega) (by omega)]
          omega
        exact bX2_lead_8 ⟨⟨by omega, by omega⟩, fun y => absurd y (by omega), fun _ => ⟨by omega, z.1, ⟨by omega, by omega⟩, fun _ => ⟨⟨by omega, by omega⟩, fun y => absurd y (by omega), fun _ => ⟨by omega, z.1, ⟨by omega, by omega⟩, fun y => absurd y f5, fun _ => add (fun e' a c => none e' (by omega) c a)⟩⟩, fun y => absurd y f5⟩⟩
  refine eX2_lead (bX2_lead_0 ?_)
  rw [e9]
  exact go L.length ((L.length : Int) - 1) (by omega) (by omega) (by omega) (fun e' a c => absurd c (by omega))
end LD
