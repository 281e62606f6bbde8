/-! ===== combine of the class ===== -/
section SZ
variable {G : zG} {d : Nat} {h : zH}
theorem sp_combine {K : zH → Prop} {o x y f : Int} {Dl : List Int} (ox : ¬ o = x ∧ ¬ o = x + 1 ∧ ¬ o + 1 = x) (oy : ¬ o = y ∧ ¬ o = y + 1 ∧ ¬ o + 1 = y) (hx : lsOK h x) (hy : lsOK h y) (hl : (Dl.length : Int) ≤ zln (o + 1)) (h0 : (0 : Int) ∈ Dl) (h1 : (65536 : Int) ∈ Dl) (dx : ∀ i, 0 ≤ i → i < h x 1 → h (x + 1) i ∈ Dl) (dy : ∀ i, 0 ≤ i → i < h y 1 → h (y + 1) i ∈ Dl)
    (k : ∀ h' : zH, (∀ a, ¬ a = o → ¬ a = o + 1 → h' a = h a) → (∀ j, ¬ j = 1 → h' o j = h o j) → lsOK h' o → (∀ i, 0 ≤ i → i < h' o 1 → h' (o + 1) i ∈ Dl) → (∀ z, 0 ≤ z → z < 65536 → ∀ bx by_ : Bool, (bx = true ↔ inn (fun i => h (x + 1) i) (h x 1) z) → (by_ = true ↔ inn (fun i => h (y + 1) i) (h y 1) z) → (inn (fun i => h' (o + 1) i) (h' o 1) z ↔ ztr f bx by_ = true)) → K h') : zCv G (d + 1) mX3_combine [vr 3 o, vr 3 x, vr 3 y, vi f] h K := by
  have hrx : rise (h (x + 1)) (h x 1) := rise_of hx.1
  have hry : rise (h (y + 1)) (h y 1) := rise_of hy.1
  have lx := zln_le (x + 1)
  have ly := zln_le (y + 1)
  have lo := zln_le (o + 1)
  have lx2 := hx.2
  have ly2 := hy.2
  have X0 := hrx.1
  have Y0 := hry.1
  -- the end
  have fin : ∀ (h1' : zH), (∀ a, ¬ a = o → ¬ a = o + 1 → h1' a = h a) → (∀ j, ¬ j = 1 → h1' o j = h o j) → (∃ i j, cmI f Dl (h x 1) (h y 1) (h (x + 1)) (h (y + 1)) (h1' (o + 1)) (h1' o 1) i j 65536) → ∀ l7, l7 = h1' o 1 % 2 → tX3_combine_203 G d K o l7 h1' := by
    intro h2 g1 g2 ⟨i, j, hI⟩ l7 e7
    obtain ⟨⟨a1, a2, a3, a4⟩, ⟨b1, b2⟩, ⟨c1, c2⟩, ⟨d1, d2, d3⟩, e⟩ := hI
    have U0 := d1.1
    have pg : ∀ n : Nat, (n : Int) ≤ h2 o 1 → n ≤ Dl.length := fun n hn => pig (c := h2 (o + 1)) n Dl (fun i a b => d3 i a (by omega)) (fun i j a b c => d1.2.2 i j a b (by omega))
    have pg2 := pg (h2 o 1).toNat (by omega)
    refine bX3_combine_203 ⟨⟨by omega, by omega⟩, fun q => bX3_combine_214 (k h2 g1 g2 ⟨⟨U0, by omega, d1.2.1, d1.2.2⟩, by omega⟩ d3 e), fun q => ?_⟩
    have r' := rise_add d1 d2 (x := 65536) (by omega)
    have m' : ∀ i, 0 ≤ i → i < h2 o 1 + 1 → fup (h2 (o + 1)) (h2 o 1) 65536 i ∈ Dl := fun i i0 i1 => by
      by_cases z : i = h2 o 1
      · rw [z, fup_eq]
        exact h1
      · rw [fup_ne z]
        exact d3 i i0 (by omega)
    have pg3 := pig (c := fup (h2 (o + 1)) (h2 o 1) 65536) (h2 o 1 + 1).toNat Dl (fun i a b => m' i a (by omega)) (fun i j a b c => r'.2.2 i j a b (by omega))
    refine sp_addCut U0 (by omega) (bX3_combine_214 ?_)
    have w1 : (zup (zup h2 (o + 1) (h2 o 1) 65536) o 1 (h2 o 1 + 1)) o 1 = h2 o 1 + 1 := zup_eq
    have w2 : (zup (zup h2 (o + 1) (h2 o 1) 65536) o 1 (h2 o 1 + 1)) (o + 1) = fup (h2 (o + 1)) (h2 o 1) 65536 := by rw [zup_ne (by omega), zup_r]
    refine k _ (fun a q1 q2 => by rw [zup_ne q1, zup_ne q2, g1 a q1 q2]) (fun j q1 => by rw [zup_ns q1, zup_ne (by omega), g2 j q1]) ?_ ?_ ?_
    · unfold lsOK
      rw [w1, w2]
      exact ⟨⟨by omega, by omega, r'.2.1, r'.2.2⟩, by omega⟩
    · rw [w1, w2]
      exact m'
    · rw [w1, w2]
      intro z z0 z1 bx by_ hbx hby
      rw [show (fun i => fup (h2 (o + 1)) (h2 o 1) 65536 i) = fup (h2 (o + 1)) (h2 o 1) 65536 from rfl, inn_add d1 z1]
      exact e z z0 z1 bx by_ hbx hby
  have loop : ∀ (n : Nat) (i j now t l7 : Int) (h2 : zH), (n : Int) = h x 1 + h y 1 + 2 - t → 0 ≤ t → t ≤ i + j + 1 → (now < 65536 → t = 0 ∨ (i < h x 1 ∧ h (x + 1) i = now) ∨ (j < h y 1 ∧ h (y + 1) j = now)) → (∀ a, ¬ a = o → ¬ a = o + 1 → h2 a = h a) → (∀ j, ¬ j = 1 → h2 o j = h o j) → cmI f Dl (h x 1) (h y 1) (h (x + 1)) (h (y + 1)) (h2 (o + 1)) (h2 o 1) i j now → l7 = h2 o 1 % 2 → tX3_combine_20 G d K o x y f i j now l7 t h2 := by
    intro n
    induction n with
    | zero =>
      intro i j now t l7 h2 hn t0 tb pend g1 g2 hI e7
      have := hI.1
      omega
    | succ n ih =>
      intro i j now t l7 h2 hn t0 tb pend g1 g2 hI e7
      have hII := hI
      obtain ⟨⟨a1, a2, a3, a4⟩, ⟨b1, b2⟩, ⟨c1, c2⟩, ⟨d1, d2, d3⟩, e⟩ := hI
      have U0 := d1.1
      have ex : h2 x = h x := g1 x (by omega) (by omega)
      have ex1 : h2 (x + 1) = h (x + 1) := g1 (x + 1) (by omega) (by omega)
      have ey : h2 y = h y := g1 y (by omega) (by omega)
      have ey1 : h2 (y + 1) = h (y + 1) := g1 (y + 1) (by omega) (by omega)
      -- behind both cuts
      have t89 : ∀ i' j', (0 ≤ i' ∧ i' ≤ h x 1) → (0 ≤ j' ∧ j' ≤ h y 1) → t ≤ i' + j' → now < 65536 → ((∀ a, 0 ≤ a → a < i' → h (x + 1) a ≤ now) ∧ (∀ a, i' ≤ a → a < h x 1 → now < h (x + 1) a)) → ((∀ a, 0 ≤ a → a < j' → h (y + 1) a ≤ now) ∧ (∀ a, j' ≤ a → a < h y 1 → now < h (y + 1) a)) → tX3_combine_89 G d K o x y f i' j' now l7 t h2 := by
        intro i' j' hi hj tij n65 px py
        have t142 : ∀ (bx by_ : Bool) (U' l7' : Int) (co' : Int → Int) (h3 : zH), (bx = true ↔ i' % 2 = 1) → (by_ = true ↔ j' % 2 = 1) → ((U' = h2 o 1 ∧ co' = h2 (o + 1)) ∨ (U' = h2 o 1 + 1 ∧ co' = fup (h2 (o + 1)) (h2 o 1) now)) → (U' % 2 = 1 ↔ ztr f bx by_ = true) → l7' = U' % 2 → h3 o 1 = U' → h3 (o + 1) = co' → (∀ a, ¬ a = o → ¬ a = o + 1 → h3 a = h a) → (∀ j, ¬ j = 1 → h3 o j = h o j) → tX3_combine_142 G d K o x y f i' j' l7' t h3 := by
          intro bx by_ U' l7' co' h3 hbx hby hu ht e7' eU eC f1 f2
          have fx : h3 x = h x := f1 x (by omega) (by omega)
          have fx1 : h3 (x + 1) = h (x + 1) := f1 (x + 1) (by omega) (by omega)
          have fy : h3 y = h y := f1 y (by omega) (by omega)
          have fy1 : h3 (y + 1) = h (y + 1) := f1 (y + 1) (by omega) (by omega)
          have nx : ∀ now', now < now' → now' ≤ 65536 → (∀ a, i' ≤ a → a < h x 1 → now' ≤ h (x + 1) a) → (∀ a, j' ≤ a → a < h y 1 → now' ≤ h (y + 1) a) → now' ∈ Dl → (now' < 65536 → (i' < h x 1 ∧ h (x + 1) i' = now') ∨ (j' < h y 1 ∧ h (y + 1) j' = now')) → tX3_combine_20 G d K o x y f i' j' now' l7' (t + 1) h3 := by
            intro now' q1 q2 q3 q4 q5 q6
            refine ih i' j' now' (t + 1) l7' h3 (by omega) (by omega) (by omega) (fun w => Or.inr (q6 w)) f1 f2 ?_ (by rw [eU, e7'])
            rw [eU, eC]
            exact cmI_next hII hrx hry hi hj px py hbx hby hu ht q1 q2 q3 q4 q5
          have gx : ∀ a, i' ≤ a → a < h x 1 → h (x + 1) i' ≤ h (x + 1) a := fun a w0 w1 => by
            by_cases z : a = i'
            · rw [z]
              exact Int.le_refl _
            · have := hrx.2.2 i' a hi.1 (by omega) w1
              omega
          have gy : ∀ a, j' ≤ a → a < h y 1 → h (y + 1) j' ≤ h (y + 1) a := fun a w0 w1 => by
            by_cases z : a = j'
            · rw [z]
              exact Int.le_refl _
            · have := hry.2.2 j' a hj.1 (by omega) w1
              omega
          refine bX3_combine_142 ?_
          rw [fx, fx1, fy, fy1]
          refine ⟨⟨by omega, by omega⟩, ⟨by omega, by omega⟩, fun q => ⟨⟨by omega, by omega⟩, ⟨by omega, by omega⟩, fun q2 => ?_, fun q2 => ?_⟩, fun q => ⟨⟨by omega, by omega⟩, ⟨by omega, by omega⟩, ⟨by omega, by omega⟩, fun q2 => ?_, fun q2 => ?_⟩⟩
          · exact nx 65536 n65 (Int.le_refl _) (fun a w0 w1 => absurd w1 (by omega)) (fun a w0 w1 => absurd w1 (by omega)) h1 (fun w => absurd w (by omega))
          · have v1 := hry.2.1 j' hj.1 (by omega)
            have v2 := py.2 j' (Int.le_refl _) (by omega)
            refine ⟨⟨by omega, by omega⟩, ⟨by omega, by omega⟩, ?_⟩
            rw [Int.min_eq_right v1.2]
            exact nx _ v2 v1.2 (fun a w0 w1 => absurd w1 (by omega)) gy (dy j' hj.1 (by omega)) (fun _ => Or.inr ⟨by omega, rfl⟩)
          · have v1 := hrx.2.1 i' hi.1 (by omega)
            have v2 := px.2 i' (Int.le_refl _) (by omega)
            refine ⟨⟨by omega, by omega⟩, ?_⟩
            rw [Int.min_eq_left v1.2]
            exact nx _ v2 v1.2 gx (fun a w0 w1 => absurd w1 (by omega)) (dx i' hi.1 (by omega)) (fun _ => Or.inl ⟨by omega, rfl⟩)
          · have v1 := hrx.2.1 i' hi.1 (by omega)
            have v2 := px.2 i' (Int.le_refl _) (by omega)
            have u1 := hry.2.1 j' hj.1 (by omega)
            have u2 := py.2 j' (Int.le_refl _) (by omega)
            refine ⟨⟨by omega, by omega⟩, ⟨by omega, by omega⟩, ⟨by omega, by omega⟩, ?_⟩
            rcases Int.le_total (h (x + 1) i') (h (y + 1) j') with w | w
            · rw [Int.min_eq_left w]
              exact nx _ v2 v1.2 gx (fun a w0 w1 => by have := gy a w0 w1; omega) (dx i' hi.1 (by omega)) (fun _ => Or.inl ⟨by omega, rfl⟩)
            · rw [Int.min_eq_right w]
              exact nx _ u2 u1.2 (fun a w0 w1 => by have := gx a w0 w1; omega) gy (dy j' hj.1 (by omega)) (fun _ => Or.inr ⟨by omega, rfl⟩)
        have step : ∀ bx by_ : Bool, (bx = true ↔ i' % 2 = 1) → (by_ = true ↔ j' % 2 = 1) → zR l7 ∧ (bi (ztr f bx by_) = l7 → tX3_combine_142 G d K o x y f i' j' l7 t h2) ∧ (¬ bi (ztr f bx by_) = l7 → zR l7 ∧ (¬ l7 = 0 → zCv G d mX3_addCut [vr 3 o, vi now] h2 (fun h4 => tX3_combine_142 G d K o x y f i' j' 0 t h4)) ∧ (l7 = 0 → zCv G d mX3_addCut [vr 3 o, vi now] h2 (fun h6 => tX3_combine_142 G d K o x y f i' j' 1 t h6))) := by
          intro bx by_ hbx hby
          have pgr := rise_add d1 d2 a3
          have pm : ∀ i, 0 ≤ i → i < h2 o 1 + 1 → fup (h2 (o + 1)) (h2 o 1) now i ∈ Dl := fun i i0 i1 => by
            by_cases z : i = h2 o 1
            · rw [z, fup_eq]
              exact a4
            · rw [fup_ne z]
              exact d3 i i0 (by omega)
          have pg := pig (c := fup (h2 (o + 1)) (h2 o 1) now) (h2 o 1 + 1).toNat Dl (fun i a b => pm i a (by omega)) (fun i j a b c => pgr.2.2 i j a b (by omega))
          have add : ∀ l7', l7' = (h2 o 1 + 1) % 2 → ((h2 o 1 + 1) % 2 = 1 ↔ ztr f bx by_ = true) → zCv G d mX3_addCut [vr 3 o, vi now] h2 (fun h4 => tX3_combine_142 G d K o x y f i' j' l7' t h4) := fun l7' e' ht => by
            refine sp_addCut U0 (by omega) (t142 bx by_ (h2 o 1 + 1) l7' (fup (h2 (o + 1)) (h2 o 1) now) _ hbx hby (Or.inr ⟨rfl, rfl⟩) ht e' zup_eq (by rw [zup_ne (by omega), zup_r]) (fun a q1 q2 => by rw [zup_ne q1, zup_ne q2, g1 a q1 q2]) (fun j q1 => by rw [zup_ns q1, zup_ne (by omega), g2 j q1]))
          cases hz : ztr f bx by_
          · refine ⟨⟨by omega, by omega⟩, fun q => t142 bx by_ (h2 o 1) l7 (h2 (o + 1)) h2 hbx hby (Or.inl ⟨rfl, rfl⟩) ?_ e7 rfl rfl g1 g2, fun q => ⟨⟨by omega, by omega⟩, fun q2 => add 0 ?_ ?_, fun q2 => absurd q2.symm q⟩⟩
            · rw [hz]
              have : l7 = 0 := q.symm
              exact ⟨fun w => by omega, fun w => (by cases w)⟩
            · omega
            · rw [hz]
              exact ⟨fun w => by omega, fun w => (by cases w)⟩
          · refine ⟨⟨by omega, by omega⟩, fun q => t142 bx by_ (h2 o 1) l7 (h2 (o + 1)) h2 hbx hby (Or.inl ⟨rfl, rfl⟩) ?_ e7 rfl rfl g1 g2, fun q => ⟨⟨by omega, by omega⟩, fun q2 => absurd (show bi true = l7 by show (1 : Int) = l7; omega) q, fun q2 => add 1 ?_ ?_⟩⟩
            · rw [hz]
              have : l7 = 1 := q.symm
              exact ⟨fun _ => rfl, fun _ => by omega⟩
            · omega
            · rw [hz]
              exact ⟨fun _ => rfl, fun _ => by omega⟩
        refine bX3_combine_89 ⟨⟨by omega, by omega⟩, fun q => ⟨⟨by omega, by omega⟩, fun q2 => sp_isTrue (step false false ?_ ?_), fun q2 => sp_isTrue (step false true ?_ ?_)⟩, fun q => ⟨⟨by omega, by omega⟩, fun q2 => sp_isTrue (step true false ?_ ?_), fun q2 => sp_isTrue (step true true ?_ ?_)⟩⟩ <;> first | exact ⟨fun w => (by cases w), fun w => absurd w (by assumption)⟩ | exact ⟨fun _ => (by assumption), fun _ => rfl⟩
      have t65 : ∀ i', (0 ≤ i' ∧ i' ≤ h x 1) → i ≤ i' → (i < h x 1 ∧ h (x + 1) i = now → i + 1 ≤ i') → now < 65536 → ((∀ a, 0 ≤ a → a < i' → h (x + 1) a ≤ now) ∧ (∀ a, i' ≤ a → a < h x 1 → now < h (x + 1) a)) → tX3_combine_65 G d K o x y f i' j now l7 t h2 := by
        intro i' hi ii ip n65 px
        refine bX3_combine_65 ?_
        rw [ey, ey1]
        have no : (j < h y 1 → ¬ h (y + 1) j = now) → tX3_combine_89 G d K o x y f i' j now l7 t h2 := fun w => by
          refine t89 i' j hi a2 ?_ n65 px (cut_no hry a2.1 c1 c2 w)
          rcases pend n65 with z | z | z
          · omega
          · have := ip z
            omega
          · exact absurd z.2 (w z.1)
        refine ⟨⟨by omega, by omega⟩, ⟨by omega, by omega⟩, fun q => no (fun w => absurd w (by omega)), fun q => ⟨⟨by omega, by omega⟩, ?_, ⟨by omega, by omega⟩, fun q2 => no (fun _ => q2), fun q2 => t89 i' (j + 1) hi (by omega) (by omega) n65 px (cut_in hry ⟨a2.1, by omega⟩ c1 q2)⟩⟩
        have := hry.2.1 j a2.1 (by omega)
        exact ⟨by omega, by omega⟩
      refine bX3_combine_20 ?_
      rw [ex, ex1, ey]
      refine ⟨⟨by omega, by omega⟩, ⟨by omega, by omega⟩, fun q => ?_, fun q => ⟨⟨by omega, by omega⟩, fun q2 => ?_, fun q2 => ?_⟩⟩
      · have n65 : now = 65536 := by
          rcases Int.lt_or_le now 65536 with w | w
          · rcases pend w with z | z | z <;> omega
          · omega
        subst n65
        exact fin h2 g1 g2 ⟨i, j, hII⟩ l7 e7
      · have n65 : now = 65536 := by omega
        subst n65
        exact fin h2 g1 g2 ⟨i, j, hII⟩ l7 e7
      · have no : (i < h x 1 → ¬ h (x + 1) i = now) → tX3_combine_65 G d K o x y f i j now l7 t h2 := fun w => t65 i a1 (Int.le_refl _) (fun z => absurd z.2 (w z.1)) (by omega) (cut_no hrx a1.1 b1 b2 w)
        refine ⟨⟨by omega, by omega⟩, ⟨by omega, by omega⟩, fun w => no (fun z => absurd z (by omega)), fun w => ⟨⟨by omega, by omega⟩, ?_, ⟨by omega, by omega⟩, fun w2 => no (fun _ => w2), fun w2 => t65 (i + 1) (by omega) (by omega) (fun _ => Int.le_refl _) (by omega) (cut_in hrx ⟨a1.1, by omega⟩ b1 w2)⟩⟩
        have := hrx.2.1 i a1.1 (by omega)
        exact ⟨by omega, by omega⟩
  have zo1 : (zup h o 1 0) o 1 = 0 := zup_eq
  refine eX3_combine (bX3_combine_0 (loop (h x 1 + h y 1 + 2).toNat 0 0 0 0 0 _ (by omega) (by omega) (by omega) (fun _ => Or.inl rfl) (fun a q1 _ => zup_ne q1) (fun j q1 => zup_ns q1) ?_ (by rw [zo1]; rfl)))
  rw [zo1]
  refine ⟨⟨by omega, by omega, by omega, h0⟩, ⟨fun a w0 w1 => absurd w1 (by omega), fun a w0 w1 => (hrx.2.1 a w0 w1).1⟩, ⟨fun a w0 w1 => absurd w1 (by omega), fun a w0 w1 => (hry.2.1 a w0 w1).1⟩, ⟨⟨by omega, fun i a b => absurd b (by omega), fun i j a b c => absurd c (by omega)⟩, fun u a b => absurd b (by omega), fun u a b => absurd b (by omega)⟩, fun z z0 z1 => absurd z1 (by omega)⟩
end SZ
