/-! ===== the blocks of two machines ===== -/
def jSet (D E : zH) (z : Int) : Prop := (∃ b, (0 ≤ b ∧ b < D 0 4) ∧ z = D 7 b) ∨ ∃ b, (0 ≤ b ∧ b < E 0 4) ∧ z = E 7 b
/-- n cuts: just the starts of two machines -/
def jC (D E : zH) (s : Int → Int) (n : Int) : Prop := dS s n ∧ ∀ z, (∃ b, (0 ≤ b ∧ b < n) ∧ s b = z) ↔ jSet D E z
def jDl (D E : zH) : List Int := (List.range (D 0 4).toNat).map (fun i : Nat => D 7 (i : Int)) ++ (List.range (E 0 4).toNat).map (fun i : Nat => E 7 (i : Int))
theorem jDl_len {D E : zH} (hD : mOK D) (hE : mOK E) : (jDl D E).length ≤ 256 := by
  have a := mO_bl hD
  have b := mO_bl hE
  unfold jDl
  rw [List.length_append, List.length_map, List.length_map, List.length_range, List.length_range]
  omega
theorem jDl_mem {D E : zH} {z : Int} (h : jSet D E z) : z ∈ jDl D E := by
  unfold jDl
  rcases h with ⟨b, hb, e⟩ | ⟨b, hb, e⟩
  · refine List.mem_append.mpr (Or.inl (List.mem_map.mpr ⟨b.toNat, List.mem_range.mpr (by omega), ?_⟩))
    rw [show ((b.toNat : Nat) : Int) = b by omega, e]
  · refine List.mem_append.mpr (Or.inr (List.mem_map.mpr ⟨b.toNat, List.mem_range.mpr (by omega), ?_⟩))
    rw [show ((b.toNat : Nat) : Int) = b by omega, e]
section DI
variable {G : zG} {d : Nat} {h D E : zH}
/-- what the class's two cuts leave -/
theorem jC_of {ov : Int} (hD : mOK D) (hE : mOK E) (c : ctS h ov (fun z => (False ∨ (∃ b, (0 ≤ b ∧ b < D 0 4) ∧ z = D 7 b + 0) ∨ z = 65536 + 0) ∨ (∃ b, (0 ≤ b ∧ b < E 0 4) ∧ z = E 7 b + 0) ∨ z = 65536 + 0)) : jC D E (h 10) (h 4 11) ∧ h 4 12 = ov := by
  have hB := mO_bl hD
  obtain ⟨a, b⟩ := c
  have iff : ∀ z, (z = 0 ∨ (((False ∨ (∃ b, (0 ≤ b ∧ b < D 0 4) ∧ z = D 7 b + 0) ∨ z = 65536 + 0) ∨ (∃ b, (0 ≤ b ∧ b < E 0 4) ∧ z = E 7 b + 0) ∨ z = 65536 + 0) ∧ 0 ≤ z ∧ z < 65536)) ↔ jSet D E z := fun z => by
    constructor
    · rintro (w | ⟨w, w1, w2⟩)
      · exact Or.inl ⟨0, by omega, by rw [mO_0 hD, w]⟩
      · rcases w with (w | ⟨b, hb, e⟩ | w) | ⟨b, hb, e⟩ | w
        · exact absurd w id
        · exact Or.inl ⟨b, hb, by rw [e, Int.add_zero]⟩
        · omega
        · exact Or.inr ⟨b, hb, by rw [e, Int.add_zero]⟩
        · omega
    · rintro (⟨b, hb, e⟩ | ⟨b, hb, e⟩)
      · have := mO_s hD hb.1 hb.2
        exact Or.inr ⟨Or.inl (Or.inr (Or.inl ⟨b, hb, by rw [e, Int.add_zero]⟩)), by omega, by omega⟩
      · have := mO_s hE hb.1 hb.2
        exact Or.inr ⟨Or.inr (Or.inl ⟨b, hb, by rw [e, Int.add_zero]⟩), by omega, by omega⟩
  rcases b with ⟨b1, b2⟩ | ⟨b1, b2⟩
  · exact ⟨⟨a, fun z => (b2 z).trans (iff z)⟩, b1⟩
  · have := b2 (jDl D E) (fun z w => jDl_mem ((iff z).mp w))
    have := jDl_len hD hE
    omega
/-- the model's merging -/
theorem sm_cutsBoth {K : zH → Prop} {i j : Int} (hD : mOK D) (hE : mOK E) (hi : 0 ≤ i ∧ i < 14) (hj : 0 ≤ j ∧ j < 14) (ri : mRep h i D) (rj : mRep h j E) (k : ∀ h' : zH, (∀ a, ¬ a = 466 → ¬ (516 ≤ a ∧ a ≤ 518) → h' a = h a) → (∀ l, ¬ l = 87 → h' 466 l = h 466 l) → jC D E (h' 516) (h' 466 87) → (∀ b, 0 ≤ b → b < h' 466 87 → h' 517 b = dB D (h' 516 b) ∧ h' 518 b = dB E (h' 516 b)) → K h') : zCv G (d + 1) mX12_cutsBoth [vr 12 466, vi i, vi j] h K := by
  have hB := mO_bl hD
  have hC := mO_bl hE
  have mr : ∀ h1 : zH, (∀ a, ¬ a = 466 → ¬ (516 ≤ a ∧ a ≤ 518) → h1 a = h a) → mRep h1 i D ∧ mRep h1 j E := fun h1 g1 => ⟨mRep_fr (fun a p q => g1 a (by omega) (by omega)) ri, mRep_fr (fun a p q => g1 a (by omega) (by omega)) rj⟩
  have fin : ∀ (x y : Int) (h1 : zH), 0 ≤ x ∧ x ≤ D 0 4 → 0 ≤ y ∧ y ≤ E 0 4 → (D 0 4 ≤ x ∨ E 0 4 ≤ y) → (∀ a, ¬ a = 466 → ¬ (516 ≤ a ∧ a ≤ 518) → h1 a = h a) → (∀ l, ¬ l = 87 → h1 466 l = h 466 l) → (∀ b c, 0 ≤ b → b < c → c < h1 466 87 → h1 516 b < h1 516 c) → (∀ b, 0 ≤ b → b < h1 466 87 → (0 ≤ h1 516 b ∧ h1 516 b < 65536) ∧ h1 517 b = dB D (h1 516 b) ∧ h1 518 b = dB E (h1 516 b)) → (∀ z, (∃ b, (0 ≤ b ∧ b < h1 466 87) ∧ h1 516 b = z) ↔ jSet D E z) → tX12_cutsBoth_10 G d K i j x y h1 := by
    intro x y h1 x0 y0 dn g1 g2 g4 g5 st
    obtain ⟨m1, m2⟩ := mr h1 g1
    have j0 : jSet D E 0 := Or.inl ⟨0, by omega, (mO_0 hD).symm⟩
    have fin : K h1 := by
      obtain ⟨b, hb, e⟩ := (st 0).mpr j0
      have pg := pig (c := h1 516) (h1 466 87).toNat (jDl D E) (fun b b0 b1 => jDl_mem ((st _).mp ⟨b, by omega, rfl⟩)) (fun b c b0 b1 b2 => g4 b c b0 b1 (by omega))
      have ln := jDl_len hD hE
      refine k h1 g1 g2 ⟨⟨by omega, ?_, fun b b0 b1 => (g5 b b0 b1).1, g4⟩, st⟩ (fun b b0 b1 => (g5 b b0 b1).2)
      by_cases z : b = 0
      · rw [z] at e
        exact e
      · have := g4 0 b (by omega) (by omega) hb.2
        have := (g5 0 (by omega) (by omega)).1
        omega
    refine bX12_cutsBoth_10 ⟨hi, ?_⟩
    rw [m1.1.2.2.2.2, m2.1.2.2.2.2]
    exact ⟨⟨by omega, by omega⟩, ⟨by omega, by omega⟩, fun _ => fin, fun z => ⟨hj, ⟨by omega, by omega⟩, ⟨by omega, by omega⟩, fun _ => fin, fun z2 => absurd dn (by omega)⟩⟩
  have go : ∀ (f : Nat) (x y cur : Int) (h1 : zH), 0 ≤ x ∧ x < D 0 4 → 0 ≤ y ∧ y < E 0 4 → (D 0 4 - x) + (E 0 4 - y) ≤ f → (∀ a, ¬ a = 466 → ¬ (516 ≤ a ∧ a ≤ 518) → h1 a = h a) → (∀ l, ¬ l = 87 → h1 466 l = h 466 l) → 0 ≤ h1 466 87 → (∀ b c, 0 ≤ b → b < c → c < h1 466 87 → h1 516 b < h1 516 c) → (∀ b, 0 ≤ b → b < h1 466 87 → (0 ≤ h1 516 b ∧ h1 516 b < 65536) ∧ h1 517 b = dB D (h1 516 b) ∧ h1 518 b = dB E (h1 516 b)) → (cur = D 7 x ∨ cur = E 7 y) → D 7 x ≤ cur → E 7 y ≤ cur → cur < dEnd D x → cur < dEnd E y → (∀ z, (∃ b, (0 ≤ b ∧ b < h1 466 87) ∧ h1 516 b = z) ↔ jSet D E z ∧ z < cur) → tX12_cutsBoth_10 G d K i j x y h1 := by
    intro f
    induction f with
    | zero =>
      intro x y cur h1 x0 y0 hf
      omega
    | succ f ih =>
      intro x y cur h1 x0 y0 hf g1 g2 g3 g4 g5 c1 c2 c3 c4 c5 st
      obtain ⟨m1, m2⟩ := mr h1 g1
      have sx := mO_s hD x0.1 x0.2
      have sy := mO_s hE y0.1 y0.2
      have ex := dEnd_ok hD x0.1 x0.2
      have ey := dEnd_ok hE y0.1 y0.2
      have jc : jSet D E cur := by
        rcases c1 with w | w
        · exact Or.inl ⟨x, x0, w⟩
        · exact Or.inr ⟨y, y0, w⟩
      have cB : dB D cur = x ∧ dB E cur = y := ⟨dB_u hD (by omega) x0.1 x0.2 c2 c4, dB_u hE (by omega) y0.1 y0.2 c3 c5⟩
      have lt : ∀ b, 0 ≤ b → b < h1 466 87 → h1 516 b < cur := fun b b0 b1 => ((st _).mp ⟨b, ⟨b0, b1⟩, rfl⟩).2
      have c256 : h1 466 87 < 256 := by
        have pg := pig (c := fup (h1 516) (h1 466 87) cur) (h1 466 87 + 1).toNat (jDl D E) (fun b b0 b1 => by
          by_cases z : b = h1 466 87
          · rw [z, fup_eq]
            exact jDl_mem jc
          · rw [fup_ne z]
            exact jDl_mem ((st _).mp ⟨b, by omega, rfl⟩).1) (fun b c b0 b1 b2 => by
          rw [fup_ne (show ¬ b = h1 466 87 by omega)]
          by_cases z : c = h1 466 87
          · rw [z, fup_eq]
            exact lt b b0 (by omega)
          · rw [fup_ne z]
            exact g4 b c b0 b1 (by omega))
        have ln := jDl_len hD hE
        omega
      -- no start between
      have gap : ∀ cur', cur < cur' → cur' ≤ dEnd D x → cur' ≤ dEnd E y → ∀ z, (jSet D E z ∧ z < cur') ↔ (jSet D E z ∧ z < cur) ∨ z = cur := fun cur' q1 q2 q3 z => by
        constructor
        · rintro ⟨jz, zl⟩
          rcases Int.lt_trichotomy z cur with w | w | w
          · exact Or.inl ⟨jz, w⟩
          · exact Or.inr w
          · exfalso
            rcases jz with ⟨b, hb, e⟩ | ⟨b, hb, e⟩
            · have bx : x < b := by
                rcases Int.lt_trichotomy b x with y1 | y1 | y1
                · have := mO_r hD hb.1 y1 x0.2
                  omega
                · rw [y1] at e
                  omega
                · exact y1
              unfold dEnd at q2
              rw [if_pos (by omega)] at q2
              by_cases y2 : b = x + 1
              · rw [y2] at e
                omega
              · have := mO_r hD (show 0 ≤ x + 1 by omega) (show x + 1 < b by omega) hb.2
                omega
            · have bx : y < b := by
                rcases Int.lt_trichotomy b y with y1 | y1 | y1
                · have := mO_r hE hb.1 y1 y0.2
                  omega
                · rw [y1] at e
                  omega
                · exact y1
              unfold dEnd at q3
              rw [if_pos (by omega)] at q3
              by_cases y2 : b = y + 1
              · rw [y2] at e
                omega
              · have := mO_r hE (show 0 ≤ y + 1 by omega) (show y + 1 < b by omega) hb.2
                omega
        · rintro (⟨jz, zl⟩ | w)
          · exact ⟨jz, by omega⟩
          · rw [w]
            exact ⟨jc, q1⟩
      -- the heap with one more
      have wr : ∀ h2 : zH, h2 = zup (zup (zup (zup h1 516 (h1 466 87) cur) 517 (h1 466 87) x) 518 (h1 466 87) y) 466 87 (h1 466 87 + 1) → (∀ a, ¬ a = 466 → ¬ (516 ≤ a ∧ a ≤ 518) → h2 a = h a) ∧ (∀ l, ¬ l = 87 → h2 466 l = h 466 l) ∧ h2 466 87 = h1 466 87 + 1 ∧ (∀ b c, 0 ≤ b → b < c → c < h2 466 87 → h2 516 b < h2 516 c) ∧ (∀ b, 0 ≤ b → b < h2 466 87 → (0 ≤ h2 516 b ∧ h2 516 b < 65536) ∧ h2 517 b = dB D (h2 516 b) ∧ h2 518 b = dB E (h2 516 b)) ∧ (∀ z, (∃ b, (0 ≤ b ∧ b < h2 466 87) ∧ h2 516 b = z) ↔ (jSet D E z ∧ z < cur) ∨ z = cur) := by
        intro h2 e2
        have e87 : h2 466 87 = h1 466 87 + 1 := by rw [e2, zup_eq]
        have e516 : h2 516 = fup (h1 516) (h1 466 87) cur := by rw [e2, zup_ne (by decide), zup_ne (by decide), zup_ne (by decide), zup_r]
        have e517 : h2 517 = fup (h1 517) (h1 466 87) x := by rw [e2, zup_ne (by decide), zup_ne (by decide), zup_r, zup_ne (by decide)]
        have e518 : h2 518 = fup (h1 518) (h1 466 87) y := by rw [e2, zup_ne (by decide), zup_r, zup_ne (by decide), zup_ne (by decide)]
        refine ⟨fun a q1 q2 => ?_, fun l q => ?_, e87, ?_, ?_, fun z => ?_⟩
        · rw [e2, zup_ne q1, zup_ne (by omega), zup_ne (by omega), zup_ne (by omega), g1 a q1 q2]
        · rw [e2, zup_ns q, zup_ne (by decide), zup_ne (by decide), zup_ne (by decide), g2 l q]
        · rw [e87, e516]
          intro b c b0 b1 b2
          rw [fup_ne (show ¬ b = h1 466 87 by omega)]
          by_cases z : c = h1 466 87
          · rw [z, fup_eq]
            exact lt b b0 (by omega)
          · rw [fup_ne z]
            exact g4 b c b0 b1 (by omega)
        · rw [e87, e516, e517, e518]
          intro b b0 b1
          by_cases z : b = h1 466 87
          · rw [z, fup_eq, fup_eq, fup_eq, cB.1, cB.2]
            exact ⟨by omega, rfl, rfl⟩
          · rw [fup_ne z, fup_ne z, fup_ne z]
            exact g5 b b0 (by omega)
        · rw [e87, e516, ← st z]
          constructor
          · rintro ⟨b, hb, e⟩
            by_cases w : b = h1 466 87
            · rw [w, fup_eq] at e
              exact Or.inr e.symm
            · rw [fup_ne w] at e
              exact Or.inl ⟨b, by omega, e⟩
          · rintro (⟨b, hb, e⟩ | w)
            · exact ⟨b, by omega, by rw [fup_ne (by omega)]; exact e⟩
            · exact ⟨h1 466 87, by omega, by rw [fup_eq, w]⟩
      have rest : zCi G d mX12_blockEnd [vr 12 466, vi i, vi x] (zup (zup (zup (zup h1 516 (h1 466 87) cur) 517 (h1 466 87) x) 518 (h1 466 87) y) 466 87 (h1 466 87 + 1)) (fun x1 h2 => zCi G d mX12_blockEnd [vr 12 466, vi j, vi y] h2 (fun x3 h4 => zR x1 ∧ zR x3 ∧ (x3 < x1 → zR x3 ∧ zR x1 ∧ (x1 < x3 → tX12_cutsBoth_10 G d K i j x y h4) ∧ (¬ x1 < x3 → tX12_cutsBoth_10 G d K i j x (y + 1) h4)) ∧ (¬ x3 < x1 → zR x3 ∧ zR x1 ∧ (x1 < x3 → tX12_cutsBoth_10 G d K i j (x + 1) y h4) ∧ (¬ x1 < x3 → tX12_cutsBoth_10 G d K i j (x + 1) (y + 1) h4)))) := by
        obtain ⟨h2, e2⟩ : ∃ h2, h2 = zup (zup (zup (zup h1 516 (h1 466 87) cur) 517 (h1 466 87) x) 518 (h1 466 87) y) 466 87 (h1 466 87 + 1) := ⟨_, rfl⟩
        rw [← e2]
        obtain ⟨w1, w2, w3, w4, w5, w6⟩ := wr h2 e2
        obtain ⟨n1, n2⟩ := mr h2 w1
        have xe : dEnd D x < 65536 → x + 1 < D 0 4 ∧ dEnd D x = D 7 (x + 1) := fun z => by
          unfold dEnd at z ⊢
          by_cases y2 : x + 1 < D 0 4
          · rw [if_pos y2]
            exact ⟨y2, rfl⟩
          · rw [if_neg y2] at z
            omega
        have ye : dEnd E y < 65536 → y + 1 < E 0 4 ∧ dEnd E y = E 7 (y + 1) := fun z => by
          unfold dEnd at z ⊢
          by_cases y2 : y + 1 < E 0 4
          · rw [if_pos y2]
            exact ⟨y2, rfl⟩
          · rw [if_neg y2] at z
            omega
        refine sm_blockEnd hD hi n1 x0 (sm_blockEnd hE hj n2 y0 ⟨⟨by omega, by omega⟩, ⟨by omega, by omega⟩, fun q => ⟨⟨by omega, by omega⟩, ⟨by omega, by omega⟩, fun z => absurd z (by omega), fun _ => ?_⟩, fun q => ⟨⟨by omega, by omega⟩, ⟨by omega, by omega⟩, fun z => ?_, fun z => ?_⟩⟩)
        · obtain ⟨y1, y2⟩ := ye (by omega)
          have e3 := dEnd_ok hE (b := y + 1) (by omega) y1
          exact ih x (y + 1) (E 7 (y + 1)) h2 x0 (by omega) (by omega) w1 w2 (by omega) w4 w5 (Or.inr rfl) (by omega) (Int.le_refl _) (by omega) e3.1 (fun z => (w6 z).trans (gap _ (by omega) (by omega) (by omega) z).symm)
        · obtain ⟨y1, y2⟩ := xe (by omega)
          have e3 := dEnd_ok hD (b := x + 1) (by omega) y1
          exact ih (x + 1) y (D 7 (x + 1)) h2 (by omega) y0 (by omega) w1 w2 (by omega) w4 w5 (Or.inl rfl) (Int.le_refl _) (by omega) e3.1 (by omega) (fun z => (w6 z).trans (gap _ (by omega) (by omega) (by omega) z).symm)
        · by_cases en : dEnd D x < 65536
          · obtain ⟨y1, y2⟩ := xe en
            obtain ⟨y3, y4⟩ := ye (by omega)
            have e3 := dEnd_ok hD (b := x + 1) (by omega) y1
            have e4 := dEnd_ok hE (b := y + 1) (by omega) y3
            exact ih (x + 1) (y + 1) (D 7 (x + 1)) h2 (by omega) (by omega) (by omega) w1 w2 (by omega) w4 w5 (Or.inl rfl) (Int.le_refl _) (by omega) e3.1 (by omega) (fun z => (w6 z).trans (gap _ (by omega) (by omega) (by omega) z).symm)
          · refine fin (x + 1) (y + 1) h2 (by omega) (by omega) (Or.inl ?_) w1 w2 w4 w5 (fun z => (w6 z).trans ((gap 65536 (by omega) (by omega) (by omega) z).symm.trans ⟨fun w => w.1, fun w => ⟨w, ?_⟩⟩))
            · unfold dEnd at en
              by_cases y2 : x + 1 < D 0 4
              · rw [if_pos y2] at en
                have := mO_s hD (show 0 ≤ x + 1 by omega) y2
                omega
              · omega
            · rcases w with ⟨b, hb, e⟩ | ⟨b, hb, e⟩
              · have := mO_s hD hb.1 hb.2
                omega
              · have := mO_s hE hb.1 hb.2
                omega
      refine bX12_cutsBoth_10 ⟨hi, ?_⟩
      rw [m1.1.2.2.2.2, m2.1.2.2.2.2, m1.2.2.2 x x0.1 x0.2, m2.2.2.2 y y0.1 y0.2]
      refine ⟨⟨by omega, by omega⟩, ⟨by omega, by omega⟩, fun z => absurd z (by omega), fun _ => ⟨hj, ⟨by omega, by omega⟩, ⟨by omega, by omega⟩, fun z => absurd z (by omega), fun _ => ⟨⟨by omega, by omega⟩, ⟨by omega, by omega⟩, ⟨by omega, by omega⟩, ⟨by omega, by omega⟩, fun q => ⟨by omega, by omega, by omega, ?_⟩, fun q => ⟨by omega, by omega, by omega, ?_⟩⟩⟩⟩
      · rw [show E 7 y = cur by omega]
        exact rest
      · rw [show D 7 x = cur by omega]
        exact rest
  have z87 : (zup h 466 87 0) 466 87 = 0 := zup_eq
  have ex := dEnd_ok hD (b := 0) (by omega) (by omega)
  have ey := dEnd_ok hE (b := 0) (by omega) (by omega)
  have d0 := mO_0 hD
  have f0 := mO_0 hE
  refine eX12_cutsBoth (bX12_cutsBoth_0 (go (D 0 4 + E 0 4).toNat 0 0 0 _ (by omega) (by omega) (by omega) (fun a q1 q2 => zup_ne q1) (fun l q => zup_ns q) (by omega) (by rw [z87]; exact fun b c b0 b1 b2 => absurd b2 (by omega)) (by rw [z87]; exact fun b b0 b1 => absurd b1 (by omega)) (Or.inl (by omega)) (by omega) (by omega) (by omega) (by omega) (fun z => ?_)))
  rw [z87]
  refine ⟨fun ⟨b, hb, _⟩ => absurd hb (by omega), fun ⟨jz, zl⟩ => ?_⟩
  rcases jz with ⟨b, hb, e⟩ | ⟨b, hb, e⟩
  · have := mO_s hD hb.1 hb.2
    omega
  · have := mO_s hE hb.1 hb.2
    omega
end DI
