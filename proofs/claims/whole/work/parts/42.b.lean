/-! ===== the class reads a body ===== -/
/-- the table of sets -/
def TB (h : zH) (t : Int) (L : List nsT) (Dl : List Int) : Prop := (t = 82 ∨ t = 249) ∧ h t 2 = L.length ∧ (L.length : Int) ≤ 12 ∧ (∀ s, 0 ≤ s → s < 12 → h (t + 1) s = t + 3 + 2 * s) ∧ ∀ s : Int, 0 ≤ s → s < L.length → h (t + 2) s = (gS L s).1 ∧ zRL (gS L s).1 ∧ lsP h (t + 3 + 2 * s) (gS L s).2 Dl ∧ h (t + 3 + 2 * s) 1 ≤ 48
theorem TB_fr {h h' : zH} {t : Int} {L : List nsT} {Dl : List Int} (e : ∀ a, t ≤ a → a ≤ t + 26 → h' a = h a) (k : TB h t L Dl) : TB h' t L Dl := by
  obtain ⟨k1, k2, k3, k4, k5⟩ := k
  refine ⟨k1, by rw [e t (by omega) (by omega), k2], k3, fun s a b => by rw [e (t + 1) (by omega) (by omega), k4 s a b], fun s a b => ?_⟩
  obtain ⟨p1, p2, p3, p4⟩ := k5 s a b
  exact ⟨by rw [e (t + 2) (by omega) (by omega), p1], p2, lsP_fr (e _ (by omega) (by omega)) (e _ (by omega) (by omega)) p3, by rw [e _ (by omega) (by omega)]; exact p4⟩
theorem TB_fB {h h' : zH} {t : Int} {L : List nsT} {Dl : List Int} (f : fB h h') (k : TB h t L Dl) : TB h' t L Dl := TB_fr (fun a p q => f.1 a (by rcases k.1 with z | z <;> omega) (by rcases k.1 with z | z <;> omega)) k
section RB
variable {G : zG} {d : Nat} {h : zH} {K Sp V : Int → Int} {m i : Int} {L : List nsT} {Dl : List Int} {t : Int}
theorem sp_numberOf {Q : Int → zH → Prop} {v : Int} (tb : TB h t L Dl) (hv : zRL v) (k1 : lkp L v = none → Q (-1) h) (k2 : ∀ j : Int, 0 ≤ j → j < L.length → lkp L v = some (gS L j).2 → Q j h) : zCi G d mX9_numberOf [vr 9 t, vl v] h Q := by
  obtain ⟨t1, t2, t3, t4, t5⟩ := tb
  have go : ∀ (f : Nat) (j : Int), 0 ≤ j → j + f = L.length → (∀ x : Int, 0 ≤ x → x < j → ¬ (gS L x).1 = v) → tX9_numberOf_2 G d Q t v j h := by
    intro f
    induction f with
    | zero =>
      intro j j0 jf no
      refine bX9_numberOf_2 ?_
      rw [t2]
      exact ⟨⟨by omega, by omega⟩, ⟨by omega, by omega⟩, fun _ => k1 (lkp_none (fun x a b => no x a (by omega))), fun z => absurd (by omega) z⟩
    | succ f ih =>
      intro j j0 jf no
      obtain ⟨p1, p2, p3, p4⟩ := t5 j j0 (by omega)
      have z := (zcmp_lt p2 hv).2.1
      refine bX9_numberOf_2 ?_
      rw [t2, p1]
      refine ⟨⟨by omega, by omega⟩, ⟨by omega, by omega⟩, fun z => absurd z (by omega), fun _ => ⟨⟨by omega, by omega⟩, fun z => absurd z (by omega), fun _ => ⟨by omega, fun ne => ih (j + 1) (by omega) (by omega) (fun x a b => ?_), fun eq => k2 j j0 (by omega) (lkp_some j0 (by omega) (z.mp eq) no)⟩⟩⟩
      by_cases w : x = j
      · rw [w]
        exact fun q => ne (z.mpr q)
      · exact no x a (by omega)
  exact eX9_numberOf (bX9_numberOf_0 (go L.length 0 (by omega) (by omega) (fun x a b => absurd b (by omega))))
theorem sp_readName {Q : Bool → zH → Prop} {f : Nat} {o : Int} {E M : Int → Bool} (tk : TK K V m) (dk : dlK Dl) (bd : bdy h) (tb : TB h t L Dl) (tx : TX h K Sp V m i) (n1 : ¬ K i = 33) (n2 : ¬ K i = 40) (n3 : ¬ K i = 91) (k1 : ∀ S, pr K Sp V L (f + 1) false i o E M = rO (i + 1) S → ∀ h' : zH, LF h h' → TX h' K Sp V m (i + 1) → lsP h' (bR h' 0) S Dl → Q true h') (k2 : ∀ n, ¬ n = 0 → pr K Sp V L (f + 1) false i o E M = rF n (Sp i) → ∀ h' : zH, FT h h' n (Sp i) → Q false h') : zCb G (d + 2) mX0_readName [vr 0 17, vr 9 t] h Q := by
  have ti := tk.2 i tx.2.2.1.1 tx.2.2.1.2
  have b0 := bd.1 0 (by decide) (by decide)
  have ln := bdy_ln b0
  -- the leaf stands
  have fin : ∀ (S : Int → Bool) (h15 : zH), (∀ a, ¬ a = bR h 0 → ¬ a = bR h 0 + 1 → h15 a = h a) → lsP h15 (bR h 0) S Dl → ¬ K i = 0 → ¬ K i = 1 → pr K Sp V L (f + 1) false i o E M = rO (i + 1) S → zCv G (d + 1) mX10_step [vr 10 13] h15 (fun h17 => Q true h17) := by
    intro S h15 g1 g3 kn0 kn1 eq
    have tx2 : TX h15 K Sp V m i := TX_fr tx (g1 13 (by omega) (by omega)) (g1 14 (by omega) (by omega)) (g1 15 (by omega) (by omega)) (g1 16 (by omega) (by omega))
    refine sp_stepT tk tx2 kn0 kn1 (fun h17 u1 u2 u3 => k1 S eq h17 ?_ u3 ?_)
    · refine LF_t (h2 := h15) ⟨⟨fun a p q => g1 a (by omega) (by omega), fun j p => by rw [g1 13 (by omega) (by omega)]⟩, fun j p => by rw [g1 17 (by omega) (by omega)], fun a p q => g1 a (by omega) (by omega), Or.inl ⟨by rw [bR_0, bR_0, g1 17 (by omega) (by omega)], by rw [bR_1, bR_1, g1 17 (by omega) (by omega)]⟩, fun a p q1 q2 q3 q4 => g1 a q1 q2⟩ (LF_13 u1 ⟨fun a p _ => u1 a p, fun j p => u2 j (by omega)⟩)
    · have e0 : bR h17 0 = bR h 0 := by rw [bR_0, bR_0, u1 17 (by decide), g1 17 (by omega) (by omega)]
      rw [e0]
      exact lsP_fr (u1 _ (by omega)) (u1 _ (by omega)) g3
  refine eX0_readName (bX0_readName_0 ?_)
  rw [tx.2.2.2.2.1, tx.2.2.2.2.2.2, ← bR_0 (h := h)]
  refine ⟨ti.1, fun n10 => ⟨ti.1, fun e2 => ?_, fun n20 => sp_failT bd tx (fun h' _ _ ft => k2 1 (by decide) (pr_bad n1 n2 n3 n10 n20) h' ft)⟩, fun e10 => sp_become (Dl := Dl) (by rw [ln]; decide) (by decide) dk.2.1 dk.2.2 (fun h15 g1 g2 g3 => fin (fun _ => true) h15 g1 (lsP_f (fun z z0 z1 => decide_eq_true (by omega)) g3) (by omega) (by omega) (pr_any e10))⟩
  have v0 := ti.2.2.1 e2
  refine sp_numberOf tb ⟨by omega, by omega⟩ (fun no => ⟨zR_m1, fun z => absurd rfl z, fun _ => sp_failT bd tx (fun h' _ _ ft => k2 2 (by decide) (pr_nm0 e2 no) h' ft)⟩) (fun j j0 j1 so => ?_)
  obtain ⟨t1, t2, t3, t4, t5⟩ := tb
  obtain ⟨p1, p2, p3, p4⟩ := t5 j j0 j1
  refine ⟨⟨by omega, by omega⟩, fun _ => ⟨by omega, ?_⟩, fun z => absurd z (by omega)⟩
  rw [t4 j j0 (by omega), ← bR_0 (h := h)]
  exact sp_copy (d := d) (Dl := Dl) (by omega) p3 (by rw [ln]; omega) (fun h6 g1 g2 g3 g4 g5 => fin _ h6 g1 g5 (by omega) (by omega) (pr_nm1 e2 so))
theorem SS_c {l o pd : Int} {F F' : Int → Int → Bool} {J J' N N' : Int → Int} (s : SS h Dl l o pd F J N) (e1 : ∀ j, live l j → F' j = F j) (e2 : ∀ j, 0 ≤ j → j ≤ l → J' j = J j ∧ N' j = N j) : SS h Dl l o pd F' J' N' :=
  ⟨s.1, s.2.1, s.2.2.1, fun j hj => by rw [e1 j hj]; exact s.2.2.2.1 j hj, fun j a b => by rw [(e2 j a b).1, (e2 j a b).2]; exact s.2.2.2.2 j a b⟩
theorem SS_fr {h' : zH} {l o pd : Int} {F : Int → Int → Bool} {J N : Int → Int} (e : ∀ a, 17 ≤ a → a ≤ 79 → h' a = h a) (s : SS h Dl l o pd F J N) : SS h' Dl l o pd F J N := by
  obtain ⟨s1, s2, s3, s4, s5⟩ := s
  have eb : bR h' = bR h := bR_k (by rw [e 17 (by decide) (by decide)]) (by rw [e 17 (by decide) (by decide)]) (e 18 (by decide) (by decide)) (e 19 (by decide) (by decide))
  refine ⟨by rw [e 17 (by decide) (by decide)]; exact s1, s2, bdy_fr (fun j _ _ => by rw [eb]) s3, fun j hj => ?_, fun j a b => by rw [e 20 (by decide) (by decide), e 21 (by decide) (by decide)]; exact s5 j a b⟩
  have := s3.1 j (by unfold live at hj; omega) (by unfold live at hj; omega)
  rw [eb]
  exact lsP_fr (e _ (by omega) (by omega)) (e _ (by omega) (by omega)) (s4 j hj)
theorem SS_LF {h' : zH} {l o pd : Int} {F : Int → Int → Bool} {J N : Int → Int} (f : LF h h') (s : SS h Dl l o pd F J N) : SS h' Dl l o pd F J N := by
  obtain ⟨s1, s2, s3, s4, s5⟩ := s
  have b' := bdy_LF s3 f
  obtain ⟨f1, f2, f3, f4, f5⟩ := f
  refine ⟨by rw [f2 8 (by decide), f2 9 (by decide), f2 10 (by decide)]; exact s1, s2, b', fun j hj => ?_, fun j a b => by rw [f3 20 (by decide) (by decide), f3 21 (by decide) (by decide)]; exact s5 j a b⟩
  have j0 : 2 ≤ j ∧ j < 28 := by unfold live at hj; omega
  have r := s3.1 j (by omega) (by omega)
  have n0 := bdy_ne s3 (i := j) (j := 0) (by omega) (by omega) (by omega)
  have n1 := bdy_ne s3 (i := j) (j := 1) (by omega) (by omega) (by omega)
  rw [bR_2 j0 (f3 18 (by decide) (by decide)) (f3 19 (by decide) (by decide))]
  exact lsP_fr (f5 _ (by omega) (by omega) (by omega) (by omega) (by omega)) (f5 _ (by omega) (by omega) (by omega) (by omega) (by omega)) (s4 j hj)
def mt (J N : Int) (M T : Int → Bool) : Int → Bool := fun z => if J = 8 then (M z && (if N % 2 = 1 then !(T z) else T z)) else (M z && !(if N % 2 = 1 then !(T z) else T z))
theorem mt_n {J N : Int} {M T : Int → Bool} (h : 0 ≤ N) : mt J (N + 1) M T = mt J N M (fun z => !(T z)) := by
  funext z
  unfold mt
  by_cases c : N % 2 = 1
  · rw [if_neg (show ¬ (N + 1) % 2 = 1 by omega), if_pos c, Bool.not_not]
  · rw [if_pos (show (N + 1) % 2 = 1 by omega), if_neg c]
theorem mt_8 {M T : Int → Bool} : mt 8 0 M T = fun z => M z && T z := by
  funext z
  unfold mt
  rw [if_pos rfl, if_neg (by decide)]
theorem mt_2 {M T : Int → Bool} : mt 2 0 M T = fun z => M z && !(T z) := by
  funext z
  unfold mt
  rw [if_neg (by decide), if_neg (by decide)]
theorem mt_t {T : Int → Bool} : mt 8 0 (fun _ => true) T = T := by
  rw [mt_8]
  funext z
  exact Bool.true_and _
theorem bi_t : bi true = 1 := rfl
theorem bi_f : bi false = 0 := rfl
def ff : Int → Bool := fun _ => false
/-- the cell of the reader's own counters -/
theorem SS_17 {h' : zH} {l o pd l' o' pd' : Int} {F F' : Int → Int → Bool} {J N J' N' : Int → Int} (e : ∀ a, 22 ≤ a → a ≤ 79 → h' a = h a) (e18 : h' 18 = h 18) (e19 : h' 19 = h 19) (e6 : h' 17 6 = h 17 6) (e7 : h' 17 7 = h 17 7) (q : h' 17 8 = l' ∧ h' 17 9 = o' ∧ h' 17 10 = pd') (l0 : 0 ≤ l' ∧ l' ≤ l) (s : SS h Dl l o pd F J N) (e1 : ∀ j, live l' j → F' j = F j) (e2 : ∀ j, 0 ≤ j → j ≤ l' → h' 20 j = J' j ∧ h' 21 j = N' j) : SS h' Dl l' o' pd' F' J' N' := by
  obtain ⟨s1, s2, s3, s4, s5⟩ := s
  have eb : bR h' = bR h := bR_k e6 e7 e18 e19
  refine ⟨q, by omega, bdy_fr (fun j _ _ => by rw [eb]) s3, fun j hj => ?_, e2⟩
  have := s3.1 j (by unfold live at hj; omega) (by unfold live at hj; omega)
  rw [eb, e1 j hj]
  exact lsP_fr (e _ (by omega) (by omega)) (e _ (by omega) (by omega)) (s4 j (by unfold live at hj ⊢; omega))
end RB
