/-! ===== what a draft tells, and the class's settling ===== -/
/-- where an edge's letters change -/
def chp (E : Int) (X : Int → Int → Bool) (z : Int) : Prop := z = 0 ∨ ((0 < z ∧ z < 65536) ∧ ∃ e, (0 ≤ e ∧ e < E) ∧ ¬ X e z = X e (z - 1))
def dOK (n en E : Int) (fr to : Int → Int) (F : Int) (ff ft : Int → Int) : Prop := (1 ≤ n ∧ n ≤ 40) ∧ (zRL en ∧ ∀ k, n ≤ k → k < 64 → tb en k = false) ∧ (0 ≤ E ∧ E ≤ 160) ∧ (0 ≤ F ∧ F ≤ 64) ∧ (∀ e, 0 ≤ e → e < E → (0 ≤ fr e ∧ fr e < n) ∧ (0 ≤ to e ∧ to e < n)) ∧ ∀ i, 0 ≤ i → i < F → (0 ≤ ff i ∧ ff i < n) ∧ (0 ≤ ft i ∧ ft i < n)
/-- a machine is just what a draft tells -/
def isD (D : zH) (n en E : Int) (fr to : Int → Int) (X : Int → Int → Bool) (F : Int) (ff ft : Int → Int) : Prop := (D 0 0 = n ∧ D 0 1 = en ∧ D 0 2 = E ∧ D 0 3 = F) ∧ (1 ≤ D 0 4 ∧ D 0 4 ≤ 128) ∧ (∀ e, 0 ≤ e → e < E → D 1 e = fr e ∧ D 2 e = to e ∧ zRL (D 3 e) ∧ zRL (D 4 e) ∧ ∀ b, 0 ≤ b → b < 128 → dEH D e b = (decide (b < D 0 4) && X e (D 7 b))) ∧ (∀ i, 0 ≤ i → i < F → D 5 i = ff i ∧ D 6 i = ft i) ∧ dS (D 7) (D 0 4) ∧ ∀ z, (∃ b, (0 ≤ b ∧ b < D 0 4) ∧ D 7 b = z) ↔ chp E X z
theorem isD_ok {D : zH} {n en E : Int} {fr to : Int → Int} {X : Int → Int → Bool} {F : Int} {ff ft : Int → Int} (h : isD D n en E fr to X F ff ft) (k : dOK n en E fr to F ff ft) : mOK D := by
  obtain ⟨⟨e0, e1, e2, e3⟩, b4, he, hf, hs, -⟩ := h
  obtain ⟨k1, k2, k3, k4, k5, k6⟩ := k
  refine ⟨by rw [e0]; exact k1, by rw [e0, e1]; exact k2, by rw [e2]; exact k3, by rw [e3]; exact k4, b4, ?_, ?_, hs.2.1, hs.2.2.1, hs.2.2.2⟩
  · rw [e0, e2]
    intro e h0 h1
    obtain ⟨a, b, c, d, f⟩ := he e h0 h1
    refine ⟨by rw [a]; exact (k5 e h0 h1).1, by rw [b]; exact (k5 e h0 h1).2, ⟨c, d⟩, fun b q0 q1 => ?_⟩
    rw [f b (by omega) q1, decide_eq_false (by omega)]
    rfl
  · rw [e0, e3]
    intro i h0 h1
    rw [(hf i h0 h1).1, (hf i h0 h1).2]
    exact k6 i h0 h1
/-- more blocks than there is room for -/
def chF (E : Int) (X : Int → Int → Bool) : Prop := ∃ s : Int → Int, (∀ i, 0 ≤ i → i < 129 → chp E X (s i)) ∧ ∀ i j, 0 ≤ i → i < j → j < 129 → ¬ s i = s j
theorem chF_no {D : zH} {n en E : Int} {fr to : Int → Int} {X : Int → Int → Bool} {F : Int} {ff ft : Int → Int} (h : isD D n en E fr to X F ff ft) (k : chF E X) : False := by
  obtain ⟨s, k1, k2⟩ := k
  have b4 := h.2.1
  have pg := pigJ (c := s) 129 ((List.range (D 0 4).toNat).map (fun i : Nat => D 7 (i : Int))) (fun i i0 i1 => by
    obtain ⟨b, hb, e⟩ := (h.2.2.2.2.2 (s i)).mpr (k1 i i0 (by omega))
    exact List.mem_map.mpr ⟨b.toNat, List.mem_range.mpr (by omega), by rw [show ((b.toNat : Nat) : Int) = b by omega, e]⟩) (fun i j i0 i1 i2 => k2 i j i0 i1 (by omega))
  rw [List.length_map, List.length_range] at pg
  omega
/-- a mark of the draft -/
def mk (h : zH) (e b : Int) : Bool := tb (h 7 (e * 4 + b / 64)) (b % 64)
/-- the class's draft tells it -/
def dfC (h : zH) (n en E : Int) (fr to : Int → Int) (X : Int → Int → Bool) (F : Int) (ff ft : Int → Int) : Prop := (h 4 7 = n ∧ h 4 8 = en ∧ h 4 9 = E ∧ h 4 10 = F) ∧ dS (h 10) (h 4 11) ∧ (∀ e, 0 ≤ e → e < E → h 5 e = fr e ∧ h 6 e = to e ∧ ∀ b, 0 ≤ b → b < h 4 11 → mk h e b = X e (h 10 b)) ∧ (∀ i, 0 ≤ i → i < F → h 8 i = ff i ∧ h 9 i = ft i) ∧ ∀ e z, 0 ≤ e → e < E → 0 < z → z < 65536 → ¬ X e z = X e (z - 1) → ∃ b, (0 ≤ b ∧ b < h 4 11) ∧ h 10 b = z
def cD (h : zH) (m : Int) : zH := fun r i => if r = 0 then (if i = 0 then h m 7 else if i = 1 then h m 8 else if i = 2 then h m 9 else if i = 3 then h m 10 else h m 11) else if r = 1 then h (m + 1) i else if r = 2 then h (m + 2) i else if r = 3 then h (m + 3) (i * 2) else if r = 4 then h (m + 3) (i * 2 + 1) else if r = 5 then h (m + 4) i else if r = 6 then h (m + 5) i else h (m + 6) i
theorem cD_rep (h : zH) (m : Int) : cRep h m (cD h m) := ⟨⟨rfl, rfl, rfl, rfl, rfl⟩, fun _ _ _ => ⟨rfl, rfl, rfl, rfl⟩, fun _ _ _ => ⟨rfl, rfl⟩, fun _ _ _ => rfl⟩
def hEH (h : zH) (m e b : Int) : Bool := if b < 64 then tb (h (m + 3) (e * 2)) b else tb (h (m + 3) (e * 2 + 1)) (b - 64)
theorem gap_X {f : Int → Bool} {lo : Int} : ∀ (k : Nat) (hi : Int), hi = lo + k → (∀ z, lo < z → z ≤ hi → f z = f (z - 1)) → f hi = f lo
  | 0, hi, e, _ => by rw [show hi = lo by omega]
  | k + 1, hi, e, h => by
    rw [h hi (by omega) (by omega)]
    exact gap_X k (hi - 1) (by omega) (fun z a b => h z a (by omega))
/-- a block of the draft begins another one of the machine -/
def bgn (h : zH) (E b : Int) : Prop := b = 0 ∨ ∃ e, (0 ≤ e ∧ e < E) ∧ ¬ mk h e b = mk h e (b - 1)
theorem bgn_chp {h : zH} {n en E : Int} {fr to : Int → Int} {X : Int → Int → Bool} {F : Int} {ff ft : Int → Int} (k : dfC h n en E fr to X F ff ft) {b : Int} (hb : 0 ≤ b ∧ b < h 4 11) : bgn h E b ↔ chp E X (h 10 b) := by
  obtain ⟨-, hs, he, -, hc⟩ := k
  have prev : 0 < b → ∀ e, 0 ≤ e → e < E → X e (h 10 b - 1) = X e (h 10 (b - 1)) := fun b0 e e0 e1 => by
    have r1 := hs.2.2.1 b hb.1 hb.2
    have r2 := hs.2.2.2 (b - 1) b (by omega) (by omega) hb.2
    have r3 := hs.2.2.1 (b - 1) (by omega) (by omega)
    refine gap_X (f := X e) (lo := h 10 (b - 1)) (h 10 b - 1 - h 10 (b - 1)).toNat _ (by omega) (fun z z0 z1 => Classical.byContradiction (fun q => ?_))
    obtain ⟨c, hc1, hc2⟩ := hc e z e0 e1 (by omega) (by omega) q
    by_cases w : c < b
    · by_cases w2 : c = b - 1
      · rw [w2] at hc2
        omega
      · have := hs.2.2.2 c (b - 1) hc1.1 (by omega) (by omega)
        omega
    · by_cases w2 : c = b
      · rw [w2] at hc2
        omega
      · have := hs.2.2.2 b c hb.1 (by omega) hc1.2
        omega
  constructor
  · rintro (z | ⟨e, he1, q⟩)
    · exact Or.inl (by rw [z, hs.2.1])
    · by_cases z : b = 0
      · exact Or.inl (by rw [z, hs.2.1])
      · have r1 := hs.2.2.1 b hb.1 hb.2
        have r2 := hs.2.2.2 0 b (by omega) (by omega) hb.2
        have r3 := hs.2.1
        refine Or.inr ⟨by omega, e, he1, fun y => q ?_⟩
        rw [(he e he1.1 he1.2).2.2 b hb.1 hb.2, (he e he1.1 he1.2).2.2 (b - 1) (by omega) (by omega), y, prev (by omega) e he1.1 he1.2]
  · rintro (z | ⟨z, e, he1, q⟩)
    · by_cases w : b = 0
      · exact Or.inl w
      · have r2 := hs.2.2.2 0 b (by omega) (by omega) hb.2
        have r3 := hs.2.1
        omega
    · by_cases w : b = 0
      · exact Or.inl w
      · refine Or.inr ⟨e, he1, fun y => q ?_⟩
        rw [(he e he1.1 he1.2).2.2 b hb.1 hb.2, (he e he1.1 he1.2).2.2 (b - 1) (by omega) (by omega)] at y
        rw [y, prev (by omega) e he1.1 he1.2]
section ST
variable {G : zG} {d : Nat} {h : zH} {m : Int}
theorem sp_isMarked {K : Bool → zH → Prop} {e b : Int} (he : 0 ≤ e ∧ e < 160) (hb : 0 ≤ b ∧ b < 256) (k : K (mk h e b) h) : zCb G d mX2_isMarked [vr 2 4, vi e, vi b] h K := by
  refine eX2_isMarked (bX2_isMarked_0 ⟨by omega, by omega, by omega, kb ?_ k⟩)
  exact zbit_u (by omega) (by omega)
theorem sp_beginsBlock {K : Bool → zH → Prop} {E b : Int} (hE : h m 9 = E) (E0 : 0 ≤ E ∧ E ≤ 160) (hb : 0 ≤ b ∧ b < 256) (k1 : bgn h E b → K true h) (k2 : ¬ bgn h E b → K false h) : zCb G (d + 1) mX4_beginsBlock [vr 4 m, vr 2 4, vi b] h K := by
  have go : ∀ (f : Nat) (e : Int), 0 ≤ e ∧ e ≤ E → E - e ≤ f → ¬ b = 0 → (∀ e', 0 ≤ e' → e' < e → mk h e' b = mk h e' (b - 1)) → tX4_beginsBlock_13 G d K m b 0 e h := by
    intro f
    induction f with
    | zero =>
      intro e e0 hf nb no
      refine bX4_beginsBlock_13 ⟨⟨by decide, by decide⟩, fun z => absurd rfl z, fun _ => ⟨⟨by omega, by omega⟩, by rw [hE]; exact ⟨by omega, by omega⟩, fun _ => ⟨false, rfl, k2 ?_⟩, fun z => absurd hf (by omega)⟩⟩
      rintro (z | ⟨e', he', q⟩)
      · exact nb z
      · exact q (no e' he'.1 (by omega))
    | succ f ih =>
      intro e e0 hf nb no
      refine bX4_beginsBlock_13 ⟨⟨by decide, by decide⟩, fun z => absurd rfl z, fun _ => ⟨⟨by omega, by omega⟩, by rw [hE]; exact ⟨by omega, by omega⟩, fun z => ⟨false, rfl, k2 ?_⟩, fun z => ?_⟩⟩
      · rintro (z2 | ⟨e', he', q⟩)
        · exact nb z2
        · exact q (no e' he'.1 (by omega))
      · refine sp_isMarked (by omega) hb (sp_isMarked (by omega) (by omega) ⟨fun q => ih (e + 1) (by omega) (by omega) nb (fun e' a0 a1 => ?_), fun q => bX4_beginsBlock_13 ⟨⟨by decide, by decide⟩, fun _ => ⟨true, rfl, k1 (Or.inr ⟨e, by omega, fun y => q (by rw [y])⟩)⟩, fun z => absurd z (by decide)⟩⟩)
        by_cases w : e' = e
        · rw [w]
          exact bi_inj.mp q
        · exact no e' a0 (by omega)
  refine eX4_beginsBlock (bX4_beginsBlock_0 ⟨⟨by omega, by omega⟩, fun z => go E.toNat 0 (by omega) (by omega) z (fun e' a0 a1 => absurd a1 (by omega)), fun z => bX4_beginsBlock_13 ⟨⟨by decide, by decide⟩, fun _ => ⟨true, rfl, k1 (Or.inl z)⟩, fun z => absurd z (by decide)⟩⟩)
end ST
