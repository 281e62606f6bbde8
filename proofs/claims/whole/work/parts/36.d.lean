/-! ===== the model builds a machine's edges ===== -/
def pX (D : zH) (e z : Int) : Bool := dEH D e (dB D z)
def psn (D : zH) (b : Int) : Int := if b < D 0 4 then D 7 b else 65536
theorem dB_start {D : zH} (hD : mOK D) {b : Int} (b0 : 0 ≤ b) (b1 : b < D 0 4) : dB D (D 7 b) = b := by
  have := mO_s hD b0 b1
  have := dEnd_ok hD b0 b1
  exact dB_u hD (by omega) b0 b1 (by omega) (by omega)
theorem psn_end {D : zH} {b : Int} : psn D (b + 1) = dEnd D b := rfl
theorem psn_lt {D : zH} (hD : mOK D) {b z : Int} (b0 : 0 ≤ b) (b1 : b ≤ D 0 4) (z0 : 0 ≤ z) (z1 : z < 65536) : z < psn D b ↔ dB D z < b := by
  obtain ⟨⟨a1, a2⟩, a3, a4⟩ := dB_ok hD z0
  have e := dB_end hD z0 z1
  unfold psn
  by_cases c : b < D 0 4
  · rw [if_pos c]
    constructor
    · intro q
      by_cases w : dB D z < b
      · exact w
      · by_cases v : dB D z = b
        · rw [v] at a3
          omega
        · have := mO_r hD b0 (show b < dB D z by omega) a2
          omega
    · intro q
      exact a4 b q c
  · rw [if_neg c]
    exact ⟨fun _ => by omega, fun _ => z1⟩
theorem rise_blk {D : zH} (hD : mOK D) {X : Int → Bool} (hX : ∀ z w, 0 ≤ z → z < 65536 → 0 ≤ w → w < 65536 → dB D z = dB D w → X z = X w) {z : Int} (z0 : 0 ≤ z) (z1 : z < 65536) (t : X z = true) (q : z = 0 ∨ X (z - 1) = false) : D 7 (dB D z) = z := by
  obtain ⟨⟨a1, a2⟩, a3, a4⟩ := dB_ok hD z0
  have e := dB_end hD z0 z1
  by_cases w : D 7 (dB D z) = z
  · exact w
  · rcases q with q | q
    · have := mO_s hD a1 a2
      omega
    · have s := mO_s hD a1 a2
      have := dB_u hD (x := z - 1) (by omega) a1 a2 (by omega) (by omega)
      rw [hX (z - 1) z (by omega) (by omega) z0 z1 this, t] at q
      cases q
theorem rcn_blk {D : zH} (hD : mOK D) {X : Int → Bool} (hX : ∀ z w, 0 ≤ z → z < 65536 → 0 ≤ w → w < 65536 → dB D z = dB D w → X z = X w) : rcn X 64 := by
  intro m s h1 h2
  have hB := mO_bl hD
  have pg := pigJ (c := fun i => dB D (s i) / 2) m ((List.range 64).map (fun i : Nat => (i : Int))) (fun i i0 i1 => ?_) (fun i j i0 i1 i2 => ?_)
  · rw [List.length_map, List.length_range] at pg
    exact pg
  · have := (dB_ok hD (h1 i i0 i1).1.1).1
    exact List.mem_map.mpr ⟨(dB D (s i) / 2).toNat, List.mem_range.mpr (by omega), by omega⟩
  · obtain ⟨p1, p2, p3⟩ := h1 i i0 (by omega)
    obtain ⟨q1, q2, q3⟩ := h1 j (by omega) i2
    have e1 := rise_blk hD hX p1.1 p1.2 p2 p3
    have e2 := rise_blk hD hX q1.1 q1.2 q2 q3
    have lt := h2 i j i0 i1 i2
    have b1 := (dB_ok hD p1.1).1
    have b2 := (dB_ok hD q1.1).1
    have ne : ¬ dB D (s i) = dB D (s j) := fun w => by rw [w] at e1; omega
    have le : dB D (s i) < dB D (s j) := by
      by_cases w : dB D (s i) < dB D (s j)
      · exact w
      · have := mO_r hD b2.1 (show dB D (s j) < dB D (s i) by omega) b1.2
        omega
    intro eq
    have e3 : dB D (s j) = dB D (s i) + 1 := by
      have eq : dB D (s i) / 2 = dB D (s j) / 2 := eq
      omega
    have e4 := dB_u hD (x := s j - 1) (b := dB D (s i)) (by omega) b1.1 b1.2 (by omega) (by
      unfold dEnd
      rw [if_pos (by omega), ← e3, e2]
      omega)
    rcases q3 with q3 | q3
    · omega
    · rw [hX (s j - 1) (s i) (by omega) (by omega) p1.1 p1.2 e4, p2] at q3
      cases q3
theorem pX_c {D : zH} {e : Int} : ∀ z w : Int, 0 ≤ z → z < 65536 → 0 ≤ w → w < 65536 → dB D z = dB D w → pX D e z = pX D e w := fun z w _ _ _ _ q => by
  unfold pX
  rw [q]
/-- where a machine's letters change a block begins -/
theorem pX_ch {D : zH} (hD : mOK D) {X : Int → Bool} (hX : ∀ z w, 0 ≤ z → z < 65536 → 0 ≤ w → w < 65536 → dB D z = dB D w → X z = X w) {z : Int} (z0 : 0 < z) (z1 : z < 65536) (q : ¬ X z = X (z - 1)) : ∃ b, (0 ≤ b ∧ b < D 0 4) ∧ z = D 7 b := by
  obtain ⟨⟨a1, a2⟩, a3, a4⟩ := dB_ok hD (x := z) (by omega)
  have e := dB_end hD (show 0 ≤ z by omega) z1
  refine ⟨dB D z, ⟨a1, a2⟩, ?_⟩
  by_cases w : D 7 (dB D z) = z
  · exact w.symm
  · have := dB_u hD (x := z - 1) (by omega) a1 a2 (by omega) (by omega)
    exact absurd (hX z (z - 1) (by omega) z1 (by omega) (by omega) this.symm) q
section BV
variable {G : zG} {d : Nat} {h D : zH} {n : Int} {LE : List eT} {LF : List fT}
theorem sm_buildsLetters {K : zH → Prop} {i e a b : Int} (hi : 0 ≤ i ∧ i < 14) (hD : mOK D) (hr : mRep h i D) (he : 0 ≤ e ∧ e < D 0 2) (k : drM h n (LE ++ [(a, b, fun _ => false)]) LF) (l0 : LE.length < 160) (p0 : 0 ≤ h 488 LE.length) (p1 : h 488 LE.length + 64 ≤ 14000) (kk : ∀ h' : zH, bF h h' → (∀ j, ¬ j = LE.length + 1 → h' 488 j = h 488 j) → drM h' n (LE ++ [(a, b, pX D e)]) LF → K h') : zCv G (d + 2) mX12_buildsLetters [vr 12 466, vi i, vi e] h K := by
  have hB := mO_bl hD
  have go : ∀ (f : Nat) (c : Int) (h1 : zH), 0 ≤ c ∧ c ≤ D 0 4 → D 0 4 - c ≤ f → bF h h1 → (∀ j, ¬ j = LE.length + 1 → h1 488 j = h 488 j) → drM h1 n (LE ++ [(a, b, fun z => pX D e z && decide (dB D z < c))]) LF → tX12_buildsLetters_2 G (d + 1) K i e c h1 := by
    intro f
    have fin : ∀ (c : Int) (h1 : zH), D 0 4 ≤ c → bF h h1 → (∀ j, ¬ j = LE.length + 1 → h1 488 j = h 488 j) → drM h1 n (LE ++ [(a, b, fun z => pX D e z && decide (dB D z < c))]) LF → K h1 := fun c h1 q g1 g2 g3 => kk h1 g1 g2 (drM_f (fun z z0 z1 => by
      have := (dB_ok hD z0).1
      show (pX D e z && decide (dB D z < c)) = _
      rw [decide_eq_true (show dB D z < c by omega), Bool.and_true]) g3)
    induction f with
    | zero =>
      intro c h1 c0 hf g1 g2 g3
      have r1 := bF_rep g1 hr
      refine bX12_buildsLetters_2 ?_
      rw [r1.1.2.2.2.2]
      exact ⟨hi, ⟨by omega, by omega⟩, ⟨by omega, by omega⟩, fun z => fin c h1 z g1 g2 g3, fun z => absurd hf (by omega)⟩
    | succ f ih =>
      intro c h1 c0 hf g1 g2 g3
      have r1 := bF_rep g1 hr
      refine bX12_buildsLetters_2 ?_
      rw [r1.1.2.2.2.2]
      refine ⟨hi, ⟨by omega, by omega⟩, ⟨by omega, by omega⟩, fun z => fin c h1 z g1 g2 g3, fun z => sm_edgeHas hD hi r1 he (by omega) ⟨fun w => ih (c + 1) h1 (by omega) (by omega) g1 g2 (drM_f (fun z z0 z1 => ?_) g3), fun w => ⟨by omega, sm_blockEnd hD hi r1 (by omega) ?_⟩⟩⟩
      · show (pX D e z && decide (dB D z < c)) = (pX D e z && decide (dB D z < c + 1))
        by_cases v : dB D z = c
        · unfold pX
          rw [v, w]
          rfl
        · by_cases v2 : dB D z < c
          · rw [decide_eq_true v2, decide_eq_true (show dB D z < c + 1 by omega)]
          · rw [decide_eq_false v2, decide_eq_false (show ¬ dB D z < c + 1 by omega)]
      · rw [r1.2.2.2 c c0.1 (by omega)]
        have s := mO_s hD c0.1 (show c < D 0 4 by omega)
        have en := dEnd_ok hD c0.1 (show c < D 0 4 by omega)
        have inb : ∀ z, 0 ≤ z → z < 65536 → (D 7 c ≤ z ∧ z ≤ dEnd D c - 1 ↔ dB D z = c) := fun z z0 z1 => by
          constructor
          · intro q
            exact dB_u hD z0 c0.1 (by omega) q.1 (by omega)
          · intro q
            have x := (dB_ok hD z0).2.1
            have y := dB_end hD z0 z1
            rw [q] at x y
            omega
        refine sm_buildsRange (g := fun z => pX D e z && decide (dB D z < c + 1)) g3 l0 (by rw [g2 _ (by omega)]; exact p0) (by omega) (fun z z0 z1 => ?_) (fun z z0 z1 => ?_) (fun lo hi c' q1 q2 => ?_) (fun h2 f1 f2 f3 => ih (c + 1) h2 (by omega) (by omega) (bF_t g1 f1) (fun j p => by rw [f2 j p, g2 j p]) f3)
        · show (pX D e z && decide (dB D z < c)) = false
          have : ¬ dB D z < c := fun q => by
            have := (psn_lt hD c0.1 c0.2 (show 0 ≤ z by omega) z1).mpr q
            unfold psn at this
            rw [if_pos (by omega)] at this
            omega
          rw [decide_eq_false this, Bool.and_false]
        · show (pX D e z && decide (dB D z < c + 1)) = true ↔ (pX D e z && decide (dB D z < c)) = true ∨ _
          rw [inb z z0 z1, Bool.and_eq_true, Bool.and_eq_true, decide_eq_true_iff, decide_eq_true_iff]
          constructor
          · intro q
            by_cases v : dB D z = c
            · exact Or.inr v
            · exact Or.inl ⟨q.1, by omega⟩
          · rintro (q | q)
            · exact ⟨q.1, by omega⟩
            · refine ⟨?_, by omega⟩
              unfold pX
              rw [q]
              exact w
        · rw [g2 _ (by omega)] at q1 q2
          have := rgs_rc q2 q1 (rcn_pre (p := psn D (c + 1)) (rcn_blk hD (pX_c (e := e))) (fun z z0 z1 => by
            show (pX D e z && decide (dB D z < c + 1)) = true ↔ _
            rw [Bool.and_eq_true, decide_eq_true_iff, psn_lt hD (by omega) (by omega) z0 z1]))
          omega
  refine eX12_buildsLetters (bX12_buildsLetters_0 (go (D 0 4).toNat 0 h (by omega) (by omega) (bF_r h) (fun _ _ => rfl) (drM_f (fun z z0 z1 => ?_) k)))
  have := (dB_ok hD z0).1
  show false = (pX D e z && decide (dB D z < 0))
  rw [decide_eq_false (by omega), Bool.and_false]
/-- the ranges of the latest edge are M at most -/
theorem drM_b {a b : Int} {f : Int → Bool} {M : Nat} (k : drM h n (LE ++ [(a, b, f)]) LF) (l0 : LE.length < 160) (r : rcn f M) : h 488 LE.length ≤ h 488 (LE.length + 1) ∧ h 488 (LE.length + 1) ≤ h 488 LE.length + M := by
  unfold drM at k
  rw [len_1] at k
  have := (k.2.2.1 (by omega)).2.2 LE.length (by omega) (by omega)
  rw [gE_r rfl] at this
  have q := rgs_rc this.2.2.2 this.2.2.1 r
  omega
theorem sm_buildsEdges {K : zH → Prop} {i s : Int} {bk : Bool} (hi : 0 ≤ i ∧ i < 14) (hD : mOK D) (hr : mRep h i D) (hs : 0 ≤ s ∧ s ≤ 40) (k : drM h n LE LF) (l0 : LE.length ≤ 160) (p0 : 0 ≤ h 488 LE.length ∧ h 488 LE.length ≤ 87 * (LE.length : Int)) (kk : ∀ h' : zH, bF h h' → drM h' n (LE ++ eL D s bk (pX D) (D 0 2).toNat) LF → ((LE ++ eL D s bk (pX D) (D 0 2).toNat).length ≤ 160 → 0 ≤ h' 488 (LE ++ eL D s bk (pX D) (D 0 2).toNat).length ∧ h' 488 (LE ++ eL D s bk (pX D) (D 0 2).toNat).length ≤ 87 * ((LE ++ eL D s bk (pX D) (D 0 2).toNat).length : Int)) → K h') : zCv G (d + 3) mX12_buildsEdges [vr 12 466, vi i, vi s, vi (bi bk)] h K := by
  have E0 := mO_ed hD
  have S0 := mO_st hD
  have go : ∀ (f : Nat) (q : Nat) (h1 : zH), (q : Int) + f = D 0 2 → bF h h1 → drM h1 n (LE ++ eL D s bk (pX D) q) LF → (LE ++ eL D s bk (pX D) q).length ≤ 160 → (0 ≤ h1 488 (LE ++ eL D s bk (pX D) q).length ∧ h1 488 (LE ++ eL D s bk (pX D) q).length ≤ 87 * ((LE ++ eL D s bk (pX D) q).length : Int)) → tX12_buildsEdges_7 G (d + 2) K i s bk (i * 160 + q) h1 := by
    intro f
    induction f with
    | zero =>
      intro q h1 e f1 dc lq pq
      have r1 := bF_rep f1 hr
      refine bX12_buildsEdges_7 ?_
      rw [r1.1.2.2.1]
      have eq : (D 0 2).toNat = q := by omega
      exact ⟨hi, ⟨by omega, by omega⟩, ⟨by omega, by omega⟩, fun _ => kk h1 f1 (by rw [eq]; exact dc) (by rw [eq]; exact fun _ => pq), fun z => absurd (by omega) z⟩
    | succ f ih =>
      intro q h1 e f1 dc lq pq
      have r1 := bF_rep f1 hr
      have re := r1.2.1 q (by omega) (by omega)
      have me := mO_e hD (e := q) (by omega) (by omega)
      have one : ∀ (a b : Int), (bk = true → a = D 2 q + s ∧ b = D 1 q + s) → (bk = false → a = D 1 q + s ∧ b = D 2 q + s) → zCb G (d + 2) mX12_buildsEdge [vr 12 466, vi a, vi b] h1 (fun x1 h2 => (x1 = true → zCv G (d + 2) mX12_buildsLetters [vr 12 466, vi i, vi (i * 160 + (q : Int) - i * 160)] h2 (fun h4 => tX12_buildsEdges_7 G (d + 2) K i s bk (i * 160 + (q : Int) + 1) h4)) ∧ (x1 = false → K h2)) := by
        intro a b b1 b2
        have eq : eL D s bk (pX D) (q + 1) = eL D s bk (pX D) q ++ [(a, b, pX D q)] := by
          rw [eL_s]
          cases c : bk
          · rw [if_neg (by decide), (b2 c).1, (b2 c).2]
          · rw [if_pos rfl, (b1 c).1, (b1 c).2]
        refine sm_buildsEdge dc lq (fun l1 h2 g1 g2 g3 g4 => ⟨fun _ => ?_, fun z => (by cases z)⟩) (fun l1 h2 g1 g2 g3 => ⟨fun z => (by cases z), fun _ => ?_⟩)
        · rw [show i * 160 + (q : Int) - i * 160 = q by omega, show i * 160 + (q : Int) + 1 = i * 160 + ((q + 1 : Nat) : Int) by omega]
          refine sm_buildsLetters hi hD (bF_rep g1 r1) (by omega) g4 l1 (by rw [g2 _ (by omega)]; exact pq.1) (by rw [g2 _ (by omega)]; omega) (fun h3 u1 u2 u3 => ?_)
          have bb := drM_b u3 l1 (rcn_blk hD (pX_c (e := q)))
          rw [u2 _ (by omega), g2 _ (by omega)] at bb
          have la : (LE ++ eL D s bk (pX D) (q + 1)).length = (LE ++ eL D s bk (pX D) q).length + 1 := by rw [eq, ← List.append_assoc, len_1]
          refine ih (q + 1) h3 (by omega) (bF_t f1 (bF_t g1 u1)) (by rw [eq, ← List.append_assoc]; exact u3) (by omega) ?_
          rw [la, show (((LE ++ eL D s bk (pX D) q).length + 1 : Nat) : Int) = (LE ++ eL D s bk (pX D) q).length + 1 by omega]
          omega
        · have la : (LE ++ eL D s bk (pX D) (q + 1)).length = (LE ++ eL D s bk (pX D) q).length + 1 := by rw [eq, ← List.append_assoc, len_1]
          have lb : (LE ++ eL D s bk (pX D) (D 0 2).toNat).length = LE.length + (D 0 2).toNat := by rw [List.length_append, eL_len]
          have lc : (LE ++ eL D s bk (pX D) q).length = LE.length + q := by rw [List.length_append, eL_len]
          exact kk h2 (bF_t f1 g1) (drM_ov (by rw [len_1]; omega) (by omega) (g3 (0, 0, fun _ => false))) (fun z => absurd z (by omega))
      refine bX12_buildsEdges_7 ?_
      rw [r1.1.2.2.1, re.1, re.2.1]
      refine ⟨hi, ⟨by omega, by omega⟩, ⟨by omega, by omega⟩, fun z => absurd z (by omega), fun _ => ⟨fun z => ⟨by omega, fun _ => ⟨by omega, one _ _ (fun z2 => absurd (z.symm.trans z2) (by decide)) (fun _ => ⟨rfl, rfl⟩)⟩, fun z2 => absurd (z.symm.trans z2) (by decide)⟩, fun z => ⟨by omega, fun z2 => absurd (z.symm.trans z2) (by decide), fun _ => ⟨by omega, one _ _ (fun _ => ⟨rfl, rfl⟩) (fun z2 => absurd (z.symm.trans z2) (by decide))⟩⟩⟩⟩
  refine eX12_buildsEdges (bX12_buildsEdges_0 ?_)
  have := go (D 0 2).toNat 0 h (by omega) (bF_r h) (by show drM h n (LE ++ []) LF; rw [List.append_nil]; exact k) (by show (LE ++ []).length ≤ 160; rw [List.append_nil]; exact l0) (by show 0 ≤ h 488 (LE ++ []).length ∧ h 488 (LE ++ []).length ≤ 87 * ((LE ++ []).length : Int); rw [List.append_nil]; exact p0)
  rwa [show i * 160 + ((0 : Nat) : Int) = i * 160 by omega] at this
end BV
