/-! ===== the model builds by a table ===== -/
noncomputable def snB (T : Int → Int → Int) (q b k : Int) : Bool := @decide (∃ k', (0 ≤ k' ∧ k' < b) ∧ T q k' = T q k) (Classical.propDecidable _)
theorem snB_t {T : Int → Int → Int} {q b k : Int} : snB T q b k = true ↔ ∃ k', (0 ≤ k' ∧ k' < b) ∧ T q k' = T q k := by
  unfold snB
  exact @decide_eq_true_iff _ (Classical.propDecidable _)
theorem cL_le {p s : Int → Bool} : ∀ n : Nat, (∀ k : Int, 0 ≤ k → k < n → p k = true → s k = true) → (cL p n).length ≤ (cL s n).length
  | 0, _ => Nat.le_refl _
  | n + 1, h => by
    have ih := cL_le n (fun k a b => h k a (by omega))
    rw [cL_s, cL_s]
    by_cases a : p n = true
    · rw [if_pos a, if_pos (h n (by omega) (by omega) a), len_1, len_1]
      omega
    · rw [if_neg a]
      by_cases b : s n = true
      · rw [if_pos b, len_1]
        omega
      · rw [if_neg b]
        exact ih
section BT
variable {G : zG} {d : Nat} {h : zH} {nb : Int} {T : Int → Int → Int} {S : Int → Int}
theorem sm_buildsTable {K : zH → Prop} {l2 l3 l4 l5 : Int} {N : Nat} (N0 : 1 ≤ N ∧ N ≤ 40) (hS : dS S nb) (r2 : ¬ l2 = 466 ∧ ¬ (486 ≤ l2 ∧ l2 ≤ 492)) (r4 : ¬ l4 = 466 ∧ ¬ (486 ≤ l4 ∧ l4 ≤ 492)) (tab : ∀ q b : Int, 0 ≤ q → q < N → 0 ≤ b → b < nb → h l2 (q * l3 + b) = T q b ∧ (0 ≤ q * l3 + b ∧ q * l3 + b < zln l2) ∧ zR (T q b)) (sta : ∀ b, 0 ≤ b → b < nb → h l4 (l5 + b) = S b ∧ (0 ≤ l5 + b ∧ l5 + b < zln l4)) (kk : ∀ h' : zH, (∀ a, ¬ a = 466 → ¬ (486 ≤ a ∧ a ≤ 492) → h' a = h a) → (∀ j, ¬ (47 ≤ j ∧ j ≤ 51) → h' 466 j = h 466 j) → drM h' N (eA T S nb N) [] → ((eA T S nb N).length ≤ 160 → h' 488 (eA T S nb N).length ≤ 14000) → K h') : zCv G (d + 1) mX12_buildsTable [vr 12 466, vi N, vr 13 l2, vi l3, vr 13 l4, vi l5, vi nb] h K := by
  have n256 := hS.1
  obtain ⟨FR, eFR⟩ : ∃ FR : zH → Prop, FR = fun h1 => (∀ a, ¬ a = 466 → ¬ (486 ≤ a ∧ a ≤ 492) → h1 a = h a) ∧ (∀ j, ¬ (47 ≤ j ∧ j ≤ 51) → h1 466 j = h 466 j) := ⟨_, rfl⟩
  have fr : ∀ h1, FR h1 → (∀ a, ¬ a = 466 → ¬ (486 ≤ a ∧ a ≤ 492) → h1 a = h a) ∧ (∀ j, ¬ (47 ≤ j ∧ j ≤ 51) → h1 466 j = h 466 j) := fun h1 q => by
    rw [eFR] at q
    exact q
  have frT : ∀ h1 h2, FR h1 → bF h1 h2 → FR h2 := fun h1 h2 a b => by
    rw [eFR] at a ⊢
    exact ⟨fun x p q => (b.1 x p q).trans (a.1 x p q), fun j p => (b.2 j (by omega) (by omega)).trans (a.2 j p)⟩
  -- no room: nothing more is done
  have over8 : ∀ (L : List eT) (q : Int) (h1 : zH), 0 ≤ q → q ≤ N → 160 < L.length → 160 < (eA T S nb N).length → FR h1 → drM h1 N L [] → tX12_buildsTable_8 G d K N l2 l3 l4 l5 nb q h1 := by
    intro L q h1 q0 q1 o1 o2 f dm
    have fl : h1 466 51 = 1 := dm.2.2.2.2.2.2 (fun z => absurd z.2.1 (by omega))
    have kz : K h1 := kk h1 (fr h1 f).1 (fr h1 f).2 (drM_ov o1 o2 dm) (fun z => absurd z (by omega))
    refine bX12_buildsTable_8 ?_
    rw [fl]
    exact ⟨⟨by omega, by omega⟩, ⟨by omega, by omega⟩, fun _ => kz, fun _ => ⟨⟨by decide, by decide⟩, fun _ => kz, fun z => absurd z (by decide)⟩⟩
  have over24 : ∀ (L : List eT) (q b : Int) (h1 : zH), 0 ≤ q → q < N → 0 ≤ b → b ≤ nb → 160 < L.length → 160 < (eA T S nb N).length → FR h1 → drM h1 N L [] → tX12_buildsTable_24 G d K N l2 l3 l4 l5 nb q b h1 := by
    intro L q b h1 q0 q1 b0 b1 o1 o2 f dm
    have fl : h1 466 51 = 1 := dm.2.2.2.2.2.2 (fun z => absurd z.2.1 (by omega))
    refine bX12_buildsTable_24 ?_
    rw [fl]
    exact ⟨⟨by omega, by omega⟩, ⟨by omega, by omega⟩, fun _ => over8 L (q + 1) h1 (by omega) (by omega) o1 o2 f dm, fun _ => ⟨⟨by decide, by decide⟩, fun _ => over8 L (q + 1) h1 (by omega) (by omega) o1 o2 f dm, fun z => absurd z (by decide)⟩⟩
  have inb : ∀ k, 0 ≤ k → k < nb → ∀ z, 0 ≤ z → z < 65536 → (S k ≤ z ∧ z ≤ (if k + 1 < nb then S (k + 1) - 1 else 65535) ↔ bS S nb z = k) := fun k k0 k1 z z0 z1 => by
    constructor
    · intro q
      refine bS_u hS z0 ⟨k0, k1⟩ q.1 (fun y => ?_)
      rw [if_pos y] at q
      omega
    · intro q
      have o := bS_ok hS z0
      rw [q] at o
      refine ⟨o.1, ?_⟩
      by_cases y : k + 1 < nb
      · rw [if_pos y]
        have := o.2 (k + 1) (by omega) y
        omega
      · rw [if_neg y]
        omega
  -- the ranges of an edge
  have l115 : ∀ (f : Nat) (q b : Nat) (L : List eT) (k : Int) (h1 : zH), (q : Int) < N → (b : Int) < nb → b ≤ k ∧ k ≤ nb → nb - k ≤ f → L.length < 160 → foB T q b = true → FR h1 → 0 ≤ h1 488 L.length ∧ h1 488 L.length + (cL (fun k => decide (T q k = T q b)) nb.toNat).length ≤ 256 * ((q : Int) + 1) → drM h1 N (L ++ [((q : Int), T q b, fun z => tX T S nb q (T q b) z && decide (bS S nb z < k))]) [] → (∀ h2 : zH, FR h2 → (∀ j, ¬ j = L.length + 1 → h2 488 j = h1 488 j) → drM h2 N (L ++ [((q : Int), T q b, tX T S nb q (T q b))]) [] → tX12_buildsTable_24 G d K N l2 l3 l4 l5 nb q ((b : Int) + 1) h2) → tX12_buildsTable_115 G d K N l2 l3 l4 l5 nb q b (T q b) k h1 := by
    intro f
    have fin : ∀ (q b : Nat) (L : List eT) (k : Int) (h1 : zH), nb ≤ k → FR h1 → drM h1 N (L ++ [((q : Int), T q b, fun z => tX T S nb q (T q b) z && decide (bS S nb z < k))]) [] → (∀ h2 : zH, FR h2 → (∀ j, ¬ j = L.length + 1 → h2 488 j = h1 488 j) → drM h2 N (L ++ [((q : Int), T q b, tX T S nb q (T q b))]) [] → tX12_buildsTable_24 G d K N l2 l3 l4 l5 nb q ((b : Int) + 1) h2) → tX12_buildsTable_24 G d K N l2 l3 l4 l5 nb q ((b : Int) + 1) h1 := fun q b L k h1 hk f dm nx => nx h1 f (fun _ _ => rfl) (drM_f (fun z z0 z1 => by
      have := bS_rg (S := S) (x := z) hS.1.1
      show (tX T S nb q (T q b) z && decide (bS S nb z < k)) = _
      rw [decide_eq_true (show bS S nb z < k by omega), Bool.and_true]) dm)
    induction f with
    | zero =>
      intro q b L k h1 q1 b1 hk hf l0 fo f bd dm nx
      exact bX12_buildsTable_115 ⟨⟨by omega, by omega⟩, ⟨by omega, by omega⟩, fun z => fin q b L k h1 z f dm nx, fun z => absurd hf (by omega)⟩
    | succ f ih =>
      intro q b L k h1 q1 b1 hk hf l0 fo f bd dm nx
      refine bX12_buildsTable_115 ⟨⟨by omega, by omega⟩, ⟨by omega, by omega⟩, fun z => fin q b L k h1 z f dm nx, fun z => ?_⟩
      obtain ⟨t1, t2, t3⟩ := tab q k (by omega) q1 (by omega) (by omega)
      have tb' := tab q b (by omega) q1 (by omega) b1
      rw [(fr h1 f).1 l2 r2.1 r2.2, t1]
      refine ⟨t2, t3, tb'.2.2, fun ne => ih q b L (k + 1) h1 q1 b1 (by omega) (by omega) l0 fo f bd (drM_f (fun z z0 z1 => ?_) dm) nx, fun eq => ?_⟩
      · show (tX T S nb q (T q b) z && decide (bS S nb z < k)) = (tX T S nb q (T q b) z && decide (bS S nb z < k + 1))
        by_cases v : bS S nb z = k
        · unfold tX
          rw [v, decide_eq_false ne]
          rfl
        · by_cases v2 : bS S nb z < k
          · rw [decide_eq_true v2, decide_eq_true (show bS S nb z < k + 1 by omega)]
          · rw [decide_eq_false v2, decide_eq_false (show ¬ bS S nb z < k + 1 by omega)]
      · obtain ⟨s1, s2⟩ := sta k (by omega) (by omega)
        have sk := hS.2.2.1 k (by omega) (by omega)
        rw [(fr h1 f).1 l4 r4.1 r4.2, s1]
        have put : ∀ v : Int, v = (if k + 1 < nb then S (k + 1) - 1 else 65535) → S k ≤ v ∧ v < 65536 → zCv G d mX12_buildsRange [vr 12 466, vi (S k), vi v] h1 (fun h2 => tX12_buildsTable_115 G d K N l2 l3 l4 l5 nb q b (T q b) (k + 1) h2) := by
          intro v ev hv
          refine sm_buildsRange (g := fun z => tX T S nb q (T q b) z && decide (bS S nb z < k + 1)) dm l0 bd.1 (by omega) (fun z z0 z1 => ?_) (fun z z0 z1 => ?_) (fun lo hi c' y1 y2 => ?_) (fun h2 f1 f2 f3 => ih q b L (k + 1) h2 q1 b1 (by omega) (by omega) l0 fo (frT h1 h2 f f1) (by rw [f2 _ (by omega)]; exact bd) f3 (fun h3 w1 w2 w3 => nx h3 w1 (fun j p => by rw [w2 j p, f2 j p]) w3))
          · show (tX T S nb q (T q b) z && decide (bS S nb z < k)) = false
            have o := bS_ok hS (x := z) (by omega)
            have rg := bS_rg (S := S) (x := z) hS.1.1
            have : ¬ bS S nb z < k := fun y => by
              have := o.2 k y (by omega)
              omega
            rw [decide_eq_false this, Bool.and_false]
          · show (tX T S nb q (T q b) z && decide (bS S nb z < k + 1)) = true ↔ (tX T S nb q (T q b) z && decide (bS S nb z < k)) = true ∨ _
            rw [ev, inb k (by omega) (by omega) z z0 z1, Bool.and_eq_true, Bool.and_eq_true, decide_eq_true_iff, decide_eq_true_iff]
            constructor
            · intro y
              by_cases w : bS S nb z = k
              · exact Or.inr w
              · exact Or.inl ⟨y.1, by omega⟩
            · rintro (y | y)
              · exact ⟨y.1, by omega⟩
              · refine ⟨?_, by omega⟩
                unfold tX
                rw [y]
                exact decide_eq_true eq
          · have := rgs_rc y2 y1 (rcn_pre (p := (if k + 1 < nb then S (k + 1) else 65536)) (rcn_tab (T := T) (q := q) (t := T q b) hS) (fun z z0 z1 => by
              show (tX T S nb q (T q b) z && decide (bS S nb z < k + 1)) = true ↔ _
              rw [Bool.and_eq_true, decide_eq_true_iff]
              have o := bS_ok hS z0
              have rg := bS_rg (S := S) (x := z) hS.1.1
              by_cases y : k + 1 < nb
              · rw [if_pos y]
                refine ⟨fun w => ⟨w.1, o.2 (k + 1) w.2 y⟩, fun w => ⟨w.1, ?_⟩⟩
                by_cases u : bS S nb z < k + 1
                · exact u
                · by_cases u2 : bS S nb z = k + 1
                  · rw [u2] at o
                    omega
                  · have := hS.2.2.2 (k + 1) (bS S nb z) (by omega) (by omega) rg.2
                    omega
              · rw [if_neg y]
                exact ⟨fun w => ⟨w.1, z1⟩, fun w => ⟨w.1, by omega⟩⟩))
            omega
        refine ⟨s2, ⟨by omega, by omega⟩, ⟨by omega, by omega⟩, fun y => put 65535 (by rw [if_neg (by omega)]) (by omega), fun y => ?_⟩
        obtain ⟨s3, s4⟩ := sta (k + 1) (by omega) (by omega)
        have lt := hS.2.2.2 k (k + 1) (by omega) (by omega) (by omega)
        have sk1 := hS.2.2.1 (k + 1) (by omega) (by omega)
        rw [show l5 + k + 1 = l5 + (k + 1) by omega, s3]
        exact ⟨s4, put _ (by rw [if_pos (by omega)]) (by omega)⟩
  -- a block
  have l24 : ∀ (f : Nat) (q b : Nat) (h1 : zH), (q : Int) < N → (b : Int) + f = nb → (eA T S nb q ++ eQ T S nb q b).length ≤ 160 → FR h1 → (0 ≤ h1 488 (eA T S nb q ++ eQ T S nb q b).length ∧ h1 488 (eA T S nb q ++ eQ T S nb q b).length ≤ 256 * (q : Int) + (cL (snB T q b) nb.toNat).length) → drM h1 N (eA T S nb q ++ eQ T S nb q b) [] → (∀ h2 : zH, FR h2 → (eA T S nb (q + 1)).length ≤ 160 → 0 ≤ h2 488 (eA T S nb (q + 1)).length ∧ h2 488 (eA T S nb (q + 1)).length ≤ 256 * ((q : Int) + 1) → drM h2 N (eA T S nb (q + 1)) [] → tX12_buildsTable_8 G d K N l2 l3 l4 l5 nb ((q : Int) + 1) h2) → tX12_buildsTable_24 G d K N l2 l3 l4 l5 nb q b h1 := by
    intro f
    induction f with
    | zero =>
      intro q b h1 q1 bf ll fh bd dm nx
      have eb : nb.toNat = b := by omega
      have cl := cL_len (p := snB T q b) nb.toNat
      refine bX12_buildsTable_24 ⟨⟨by omega, by omega⟩, ⟨by omega, by omega⟩, fun _ => nx h1 fh ?_ ?_ ?_, fun z => absurd (by omega) z⟩
      · rw [eA_s, eb]
        exact ll
      · rw [eA_s, eb]
        omega
      · rw [eA_s, eb]
        exact dm
    | succ f ih =>
      intro q b h1 q1 bf ll fh bd dm nx
      have one : 160 < (eA T S nb q ++ eQ T S nb q (b + 1)).length → 160 < (eA T S nb N).length := fun o => by
        have m1 := eQ_mono (T := T) (S := S) (q := q) hS.1.1 (b := b + 1) (c := nb.toNat) (by omega)
        have m2 := eA_mono (T := T) (S := S) (nb := nb) (p := q + 1) (N - (q + 1))
        rw [show q + 1 + (N - (q + 1)) = N by omega, eA_s, List.length_append] at m2
        rw [List.length_append] at o
        omega
      have cl := cL_len (p := snB T q (b + 1 : Nat)) nb.toNat
      refine bX12_buildsTable_24 ⟨⟨by omega, by omega⟩, ⟨by omega, by omega⟩, fun z => absurd z (by omega), fun _ => ?_⟩
      have fl : h1 466 51 = 0 := dm.2.2.2.2.2.1 ⟨by omega, ll, by decide⟩
      obtain ⟨t1, t2, t3⟩ := tab q b (by omega) q1 (by omega) (by omega)
      rw [fl, (fr h1 fh).1 l2 r2.1 r2.2, t1]
      refine ⟨⟨by decide, by decide⟩, fun z => absurd rfl z, fun _ => ⟨t2, ?_⟩⟩
      -- has the target been seen?
      have l55 : ∀ (g : Nat) (k hd : Int), 0 ≤ k → k + g = b → ((hd = 0 ∧ ∀ k', 0 ≤ k' → k' < k → ¬ T q k' = T q b) ∨ (hd = 1 ∧ ∃ k', (0 ≤ k' ∧ k' < k) ∧ T q k' = T q b)) → tX12_buildsTable_55 G d K N l2 l3 l4 l5 nb q b (T q b) hd k h1 := by
        intro g
        induction g with
        | zero =>
          intro k hd k0 kg hh
          have ek : k = b := by omega
          refine bX12_buildsTable_55 ⟨⟨by omega, by omega⟩, ⟨by omega, by omega⟩, fun _ => ⟨by rcases hh with ⟨e, -⟩ | ⟨e, -⟩ <;> rw [e] <;> exact ⟨by decide, by decide⟩, fun z => ?_, fun z => ?_⟩, fun z => absurd (by omega) z⟩
          · -- seen
            rcases hh with ⟨e, -⟩ | ⟨e, k', hk', ek'⟩
            · exact absurd e z
            · have nf : ¬ foB T q b = true := fun y => foB_t.mp y k' hk'.1 (by omega) ek'
              have e1 : eQ T S nb q (b + 1) = eQ T S nb q b := by rw [eQ_s, if_neg nf]
              have := ih q (b + 1) h1 q1 (by omega) (by rw [e1]; exact ll) fh (by
                rw [e1]
                have le := cL_le (p := snB T q b) (s := snB T q (b + 1 : Nat)) nb.toNat (fun x x0 x1 hx => by
                  obtain ⟨y, hy, ey⟩ := snB_t.mp hx
                  exact snB_t.mpr ⟨y, by omega, ey⟩)
                omega) (by rw [e1]; exact dm) nx
              rwa [show ((b + 1 : Nat) : Int) = (b : Int) + 1 by omega] at this
          · rcases hh with ⟨-, no⟩ | ⟨e, -⟩
            · have fo : foB T q b = true := foB_t.mpr (fun k' a c => no k' a (by omega))
              have e1 : eQ T S nb q (b + 1) = eQ T S nb q b ++ [((q : Int), T q b, tX T S nb q (T q b))] := by rw [eQ_s, if_pos fo]
              have ca := cL_add (p := snB T q b) (r := fun k => decide (T q k = T q b)) (s := snB T q (b + 1 : Nat)) nb.toNat (fun k' a c => by
                rw [decide_eq_true_iff, snB_t, snB_t]
                refine ⟨⟨?_, ?_⟩, ?_⟩
                · rintro ⟨y, hy, ey⟩
                  by_cases w : y = b
                  · rw [w] at ey
                    exact Or.inr ey.symm
                  · exact Or.inl ⟨y, by omega, ey⟩
                · rintro (⟨y, hy, ey⟩ | ey)
                  · exact ⟨y, by omega, ey⟩
                  · exact ⟨b, by omega, ey.symm⟩
                · rintro ⟨⟨y, hy, ey⟩, e2⟩
                  exact foB_t.mp fo y hy.1 hy.2 (ey.trans e2))
              refine sm_buildsEdge dm ll (fun l1 h2 y1 y2 y3 y4 => ⟨fun _ => ?_, fun z => (by cases z)⟩) (fun l1 h2 y1 y2 y3 => ⟨fun z => (by cases z), fun _ => ?_⟩)
              · refine l115 nb.toNat q b _ b h2 q1 (by omega) (by omega) (by omega) l1 fo (frT h1 h2 fh y1) (by rw [y2 _ (by omega)]; omega) (drM_f (fun z z0 z1 => ?_) y4) (fun h3 w1 w2 w3 => ?_)
                · show false = (tX T S nb q (T q b) z && decide (bS S nb z < b))
                  have rg := bS_rg (S := S) (x := z) hS.1.1
                  by_cases u : bS S nb z < b
                  · unfold tX
                    rw [decide_eq_false (show ¬ T q (bS S nb z) = T q b from foB_t.mp fo _ rg.1 u)]
                    rfl
                  · rw [decide_eq_false u, Bool.and_false]
                · have bb := drM_b w3 l1 (rcn_tab (T := T) (q := q) (t := T q b) hS)
                  rw [w2 _ (by omega), y2 _ (by omega)] at bb
                  have la : (eA T S nb q ++ eQ T S nb q (b + 1)).length = (eA T S nb q ++ eQ T S nb q b).length + 1 := by rw [e1, ← List.append_assoc, len_1]
                  have := ih q (b + 1) h3 q1 (by omega) (by omega) w1 (by
                    rw [la, show (((eA T S nb q ++ eQ T S nb q b).length + 1 : Nat) : Int) = (eA T S nb q ++ eQ T S nb q b).length + 1 by omega]
                    omega) (by rw [e1, ← List.append_assoc]; exact w3) nx
                  rwa [show ((b + 1 : Nat) : Int) = (b : Int) + 1 by omega] at this
              · have la : (eA T S nb q ++ eQ T S nb q (b + 1)).length = (eA T S nb q ++ eQ T S nb q b).length + 1 := by rw [e1, ← List.append_assoc, len_1]
                exact over24 _ q ((b : Int) + 1) h2 (by omega) q1 (by omega) (by omega) (by rw [len_1]; omega) (one (by omega)) (frT h1 h2 fh y1) (y3 ((q : Int), T q b, tX T S nb q (T q b)))
            · omega
        | succ g ihg =>
          intro k hd k0 kg hh
          obtain ⟨u1, u2, u3⟩ := tab q k (by omega) q1 k0 (by omega)
          refine bX12_buildsTable_55 ⟨⟨by omega, by omega⟩, ⟨by omega, by omega⟩, fun z => absurd z (by omega), fun _ => ?_⟩
          rw [(fr h1 fh).1 l2 r2.1 r2.2, u1]
          refine ⟨u2, u3, t3, fun ne => ihg (k + 1) _ (by omega) (by omega) ?_, fun eq => ihg (k + 1) _ (by omega) (by omega) ?_⟩
          · rcases hh with ⟨e, no⟩ | ⟨e, k', hk', ek'⟩
            · refine Or.inl ⟨by rw [e]; decide, fun k' a c => ?_⟩
              by_cases w : k' = k
              · rw [w]
                exact ne
              · exact no k' a (by omega)
            · exact Or.inr ⟨by rw [e]; decide, k', by omega, ek'⟩
          · refine Or.inr ⟨?_, k, by omega, eq⟩
            rcases hh with ⟨e, -⟩ | ⟨e, -⟩ <;> rw [e] <;> decide
      exact l55 b 0 0 (by omega) (by omega) (Or.inl ⟨rfl, fun k' a c => absurd c (by omega)⟩)
  have l8 : ∀ (f : Nat) (q : Nat) (h1 : zH), q + f = N → (eA T S nb q).length ≤ 160 → FR h1 → (0 ≤ h1 488 (eA T S nb q).length ∧ h1 488 (eA T S nb q).length ≤ 256 * (q : Int)) → drM h1 N (eA T S nb q) [] → tX12_buildsTable_8 G d K N l2 l3 l4 l5 nb q h1 := by
    intro f
    induction f with
    | zero =>
      intro q h1 qf ll fh bd dm
      have eq : q = N := by omega
      subst eq
      exact bX12_buildsTable_8 ⟨⟨by omega, by omega⟩, ⟨by omega, by omega⟩, fun _ => kk h1 (fr h1 fh).1 (fr h1 fh).2 dm (fun _ => by omega), fun z => absurd (Int.le_refl _) z⟩
    | succ f ih =>
      intro q h1 qf ll fh bd dm
      have fl : h1 466 51 = 0 := dm.2.2.2.2.2.1 ⟨by omega, ll, by decide⟩
      refine bX12_buildsTable_8 ?_
      rw [fl]
      refine ⟨⟨by omega, by omega⟩, ⟨by omega, by omega⟩, fun z => absurd z (by omega), fun _ => ⟨⟨by decide, by decide⟩, fun z => absurd rfl z, fun _ => ?_⟩⟩
      have e0 : eA T S nb q ++ eQ T S nb q 0 = eA T S nb q := List.append_nil _
      have := l24 nb.toNat q 0 h1 (by omega) (by omega) (by rw [e0]; exact ll) fh (by rw [e0]; omega) (by rw [e0]; exact dm) (fun h2 w1 w2 w3 w4 => by
        have := ih (q + 1) h2 (by omega) w2 w1 (by rw [show ((q + 1 : Nat) : Int) = (q : Int) + 1 by omega]; exact w3) w4
        rwa [show ((q + 1 : Nat) : Int) = (q : Int) + 1 by omega] at this)
      exact this
  refine eX12_buildsTable (bX12_buildsTable_0 (sm_builds ⟨by omega, by omega⟩ (fun h2 v1 v2 v3 v4 v5 => ?_)))
  have f2 : FR h2 := by
    rw [eFR]
    exact ⟨v1, v2⟩
  exact l8 N 0 h2 (by omega) (by show (0 : Nat) ≤ 160; omega) f2 (by show 0 ≤ h2 488 ((0 : Nat) : Int) ∧ _; rw [show ((0 : Nat) : Int) = 0 from rfl, v4]; exact ⟨by omega, by show h2 488 ((0 : Nat) : Int) ≤ _; rw [show ((0 : Nat) : Int) = 0 from rfl, v4]; omega⟩) v5
end BT
