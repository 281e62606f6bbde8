/-! ===== the class splits the text ===== -/
def tkS (bs : Int → Int) (n : Int) (K Sp V En : Int → Int) (m : Int) : Prop := (1 ≤ m ∧ m ≤ 901) ∧ (∀ i, 0 ≤ i → i < m → (0 ≤ Sp i ∧ Sp i ≤ n) ∧ tokAt bs n (Sp i) (K i) (V i) (En i) ∧ (Sp i < n → ¬ bs (Sp i) = 32)) ∧ (∀ i, 0 ≤ i → i + 1 < m → (¬ K i = 0 ∧ ¬ K i = 1) ∧ (Sp i < En i ∧ En i ≤ Sp (i + 1)) ∧ ∀ x, En i ≤ x → x < Sp (i + 1) → bs x = 32) ∧ (K (m - 1) = 0 ∨ K (m - 1) = 1) ∧ ∀ x, 0 ≤ x → x < Sp 0 → bs x = 32
def tkP (bs : Int → Int) (n : Int) (K Sp V En : Int → Int) (t p : Int) : Prop := (0 ≤ t ∧ t ≤ p ∧ p ≤ n) ∧ (∀ i, 0 ≤ i → i < t → (0 ≤ Sp i ∧ Sp i < n) ∧ tokAt bs n (Sp i) (K i) (V i) (En i) ∧ ¬ bs (Sp i) = 32 ∧ (¬ K i = 0 ∧ ¬ K i = 1) ∧ Sp i < En i ∧ En i ≤ p) ∧ (∀ i, 0 ≤ i → i + 1 < t → En i ≤ Sp (i + 1) ∧ ∀ x, En i ≤ x → x < Sp (i + 1) → bs x = 32) ∧ (t = 0 → ∀ x, 0 ≤ x → x < p → bs x = 32) ∧ (0 < t → (∀ x, En (t - 1) ≤ x → x < p → bs x = 32) ∧ ∀ x, 0 ≤ x → x < Sp 0 → bs x = 32)
theorem tkP_sp {bs : Int → Int} {n t p : Int} {K Sp V En : Int → Int} (h : tkP bs n K Sp V En t p) (p1 : p < n) (s : bs p = 32) : tkP bs n K Sp V En t (p + 1) := by
  obtain ⟨a, b, c, d, e⟩ := h
  have sp : ∀ x, x < p + 1 → (x < p → bs x = 32) → bs x = 32 := fun x x1 q => by
    by_cases w : x = p
    · rw [w]
      exact s
    · exact q (by omega)
  exact ⟨by omega, fun i i0 i1 => ⟨(b i i0 i1).1, (b i i0 i1).2.1, (b i i0 i1).2.2.1, (b i i0 i1).2.2.2.1, (b i i0 i1).2.2.2.2.1, by have := (b i i0 i1).2.2.2.2.2; omega⟩, c, fun z x x0 x1 => sp x x1 (fun q => d z x x0 q), fun z => ⟨fun x x0 x1 => sp x x1 (fun q => (e z).1 x x0 q), (e z).2⟩⟩
theorem tkP_tk {bs : Int → Int} {n t p k v e : Int} {K Sp V En : Int → Int} (h : tkP bs n K Sp V En t p) (p1 : p < n) (s : ¬ bs p = 32) (tk : tokAt bs n p k v e) (k0 : ¬ k = 0) (k1 : ¬ k = 1) (e0 : p < e) (e1 : e ≤ n) : tkP bs n (fup K t k) (fup Sp t p) (fup V t v) (fup En t e) (t + 1) e := by
  obtain ⟨a, b, c, d, f⟩ := h
  refine ⟨by omega, fun i i0 i1 => ?_, fun i i0 i1 => ?_, fun z => absurd z (by omega), fun _ => ⟨fun x x0 x1 => ?_, fun x x0 x1 => ?_⟩⟩
  · by_cases w : i = t
    · rw [w, fup_eq, fup_eq, fup_eq, fup_eq]
      exact ⟨by omega, tk, s, ⟨k0, k1⟩, e0, Int.le_refl _⟩
    · rw [fup_ne w, fup_ne w, fup_ne w, fup_ne w]
      have := b i i0 (by omega)
      exact ⟨this.1, this.2.1, this.2.2.1, this.2.2.2.1, this.2.2.2.2.1, by omega⟩
  · rw [fup_ne (show ¬ i = t by omega)]
    by_cases w : i + 1 = t
    · rw [w, fup_eq]
      have := f (by omega)
      have bi := b i i0 (by omega)
      refine ⟨bi.2.2.2.2.2, fun x x0 x1 => this.1 x ?_ x1⟩
      rw [show t - 1 = i by omega]
      exact x0
    · rw [fup_ne w]
      exact c i i0 (by omega)
  · rw [show t + 1 - 1 = t by omega, fup_eq] at x0
    omega
  · by_cases w : t = 0
    · rw [w] at x1
      rw [fup_eq] at x1
      exact d w x x0 x1
    · rw [fup_ne (show ¬ 0 = t by omega)] at x1
      exact (f (by omega)).2 x x0 x1
theorem tkP_end {bs : Int → Int} {n t p k v e : Int} {K Sp V En : Int → Int} (h : tkP bs n K Sp V En t p) (n9 : n ≤ 900) (s : p < n → ¬ bs p = 32) (tk : tokAt bs n p k v e) (k0 : k = 0 ∨ k = 1) : tkS bs n (fup K t k) (fup Sp t p) (fup V t v) (fup En t e) (t + 1) := by
  obtain ⟨a, b, c, d, f⟩ := h
  refine ⟨by omega, fun i i0 i1 => ?_, fun i i0 i1 => ?_, ?_, fun x x0 x1 => ?_⟩
  · by_cases w : i = t
    · rw [w, fup_eq, fup_eq, fup_eq, fup_eq]
      exact ⟨by omega, tk, s⟩
    · rw [fup_ne w, fup_ne w, fup_ne w, fup_ne w]
      have := b i i0 (by omega)
      exact ⟨by omega, this.2.1, fun _ => this.2.2.1⟩
  · rw [fup_ne (show ¬ i = t by omega), fup_ne (show ¬ i = t by omega), fup_ne (show ¬ i = t by omega)]
    have bi := b i i0 (by omega)
    refine ⟨bi.2.2.2.1, ⟨bi.2.2.2.2.1, ?_⟩, ?_⟩
    · by_cases w : i + 1 = t
      · rw [w, fup_eq]
        exact bi.2.2.2.2.2
      · rw [fup_ne w]
        exact (c i i0 (by omega)).1
    · by_cases w : i + 1 = t
      · rw [w, fup_eq]
        have := f (by omega)
        intro x x0 x1
        exact this.1 x (by rw [show t - 1 = i by omega]; exact x0) x1
      · rw [fup_ne w]
        exact (c i i0 (by omega)).2
  · rw [show t + 1 - 1 = t by omega, fup_eq]
    exact k0
  · by_cases w : t = 0
    · rw [w] at x1
      rw [fup_eq] at x1
      exact d w x x0 x1
    · rw [fup_ne (show ¬ 0 = t by omega)] at x1
      exact (f (by omega)).2 x x0 x1
/-- the reader stands at token i -/
def txt (h : zH) (i : Int) : Prop := h 13 4 = i ∧ h 13 5 = h 14 i ∧ h 13 6 = h 15 i ∧ h 13 7 = h 16 i
section SP1
variable {G : zG} {d : Nat} {h : zH}
theorem sp_tstep {K : zH → Prop} {i : Int} (hi : h 13 4 = i) (i0 : -1 ≤ i ∧ i + 1 < h 13 3) (hm : h 13 3 ≤ 901) (k : ∀ h' : zH, (∀ a, ¬ a = 13 → h' a = h a) → (∀ j, ¬ (4 ≤ j ∧ j ≤ 7) → h' 13 j = h 13 j) → txt h' (i + 1) → K h') : zCv G d mX10_step [vr 10 13] h K := by
  refine eX10_step (bX10_step_0 ?_)
  rw [hi]
  refine ⟨⟨by omega, by omega⟩, ⟨by omega, by omega⟩, fun z => absurd z (by omega), fun _ => ⟨by omega, by omega, by omega, k _ (fun a p => ?_) (fun j p => ?_) ⟨?_, ?_, ?_, ?_⟩⟩⟩
  · rw [zup_ne p, zup_ne p, zup_ne p, zup_ne p]
  · rw [zup_ns (by omega), zup_ns (by omega), zup_ns (by omega), zup_ns (by omega)]
  · rw [zup_ns (by decide), zup_ns (by decide), zup_ns (by decide), zup_eq]
  · rw [zup_ns (by decide), zup_ns (by decide), zup_eq, zup_ne (by decide), zup_ne (by decide), zup_ne (by decide), zup_ne (by decide)]
  · rw [zup_ns (by decide), zup_eq, zup_ne (by decide), zup_ne (by decide), zup_ne (by decide), zup_ne (by decide)]
  · rw [zup_eq, zup_ne (by decide), zup_ne (by decide), zup_ne (by decide), zup_ne (by decide)]
theorem sp_split {K : zH → Prop} {n : Int} (hn : 0 ≤ n ∧ n ≤ 900) (hb : ∀ i, 0 ≤ i → i < n → -128 ≤ h 1 i ∧ h 1 i < 128) (k : ∀ (h' : zH) (En : Int → Int), (∀ a, ¬ (13 ≤ a ∧ a ≤ 16) → h' a = h a) → tkS (h 1) n (h' 14) (h' 15) (h' 16) En (h' 13 3) → txt h' 0 → h' 13 8 = 0 → h' 13 9 = -1 → K h') : zCv G (d + 8) mX10_split [vr 10 13, vr 15 1, vi n] h K := by
  -- the end
  have fin : ∀ (t p kd : Int) (h1 : zH) (En : Int → Int), (∀ a, ¬ (13 ≤ a ∧ a ≤ 16) → h1 a = h a) → h1 13 3 = t → h1 13 8 = 0 → h1 13 9 = -1 → tkP (h 1) n (h1 14) (h1 15) (h1 16) En t p → (p < n → ¬ h 1 p = 32) → (∀ v, tokAt (h 1) n p kd v n) → (kd = 0 ∨ kd = 1) → zCv G (d + 7) mX10_add [vr 10 13, vi kd, vi p, vl 0] h1 (fun h2 => zCv G (d + 7) mX10_step [vr 10 13] (zup h2 13 4 (-1)) (fun h4 => K h4)) := by
    intro t p kd h1 En f1 e3 e8 e9 tp s tk k0
    have tt := tp.1
    refine sp_tadd (by omega) (fun h2 ta => ?_)
    obtain ⟨a1, a2, a3, a4, a5, a6⟩ := ta
    rw [e3] at a3 a4 a5 a6
    have ts := tkP_end tp hn.2 s (tk 0) k0
    have o4 : ∀ j, ¬ j = 4 → (zup h2 13 4 (-1)) 13 j = h2 13 j := fun j q => zup_ns q
    refine sp_tstep zup_eq (by rw [o4 3 (by decide), a3]; omega) (by rw [o4 3 (by decide), a3]; omega) (fun h3 b1 b2 b3 => k h3 (fup En t n) (fun a q => ?_) ?_ ?_ ?_ ?_)
    · rw [b1 a (by omega), zup_ne (by omega), a1 a q, f1 a q]
    · rw [b1 14 (by decide), b1 15 (by decide), b1 16 (by decide), b2 3 (by omega), zup_ne (by decide), zup_ne (by decide), zup_ne (by decide), o4 3 (by decide), a3, a4, a5, a6]
      exact ts
    · exact b3
    · rw [b2 8 (by omega), o4 8 (by decide), a2 8 (by decide), e8]
    · rw [b2 9 (by omega), o4 9 (by decide), a2 9 (by decide), e9]
  have go : ∀ (f : Nat) (p w : Int) (h1 : zH) (En : Int → Int), n - p ≤ f → 0 ≤ w ∧ w ≤ p → (∀ a, ¬ (13 ≤ a ∧ a ≤ 16) → h1 a = h a) → h1 13 8 = 0 → h1 13 9 = -1 → tkP (h 1) n (h1 14) (h1 15) (h1 16) En (h1 13 3) p → tX10_split_20 G (d + 7) K 1 n p w h1 := by
    intro f
    induction f with
    | zero =>
      intro p w h1 En hf hw f1 e8 e9 tp
      have tt := tp.1
      have ep : p = n := by omega
      have fi := fin _ p 0 h1 En f1 rfl e8 e9 tp (fun z => absurd z (by omega)) (fun v => Or.inl ⟨ep, rfl, rfl⟩) (Or.inl rfl)
      exact bX10_split_20 ⟨⟨by omega, by omega⟩, ⟨by omega, by omega⟩, fun _ => ⟨⟨by omega, by omega⟩, ⟨by omega, by omega⟩, fun _ => fi, fun z => absurd (by omega) z⟩, fun _ => ⟨⟨by omega, by omega⟩, ⟨by omega, by omega⟩, fun _ => ⟨⟨by omega, by omega⟩, ⟨by omega, by omega⟩, fun _ => fi, fun z => absurd (by omega) z⟩, fun z => absurd (by omega) z⟩⟩
    | succ f ih =>
      intro p w h1 En hf hw f1 e8 e9 tp
      have tt := tp.1
      by_cases ep : p = n
      · have fi := fin _ p 0 h1 En f1 rfl e8 e9 tp (fun z => absurd z (by omega)) (fun v => Or.inl ⟨ep, rfl, rfl⟩) (Or.inl rfl)
        exact bX10_split_20 ⟨⟨by omega, by omega⟩, ⟨by omega, by omega⟩, fun _ => ⟨⟨by omega, by omega⟩, ⟨by omega, by omega⟩, fun _ => fi, fun z => absurd (by omega) z⟩, fun _ => ⟨⟨by omega, by omega⟩, ⟨by omega, by omega⟩, fun _ => ⟨⟨by omega, by omega⟩, ⟨by omega, by omega⟩, fun _ => fi, fun z => absurd (by omega) z⟩, fun z => absurd (by omega) z⟩⟩
      · have e1 := f1 1 (by decide)
        have b := hb p (by omega) (by omega)
        refine bX10_split_20 ?_
        rw [e1]
        refine ⟨⟨by omega, by omega⟩, ⟨by omega, by omega⟩, fun z => absurd z (by omega), fun _ => ⟨⟨by omega, by omega⟩, ⟨by omega, by omega⟩, fun z => absurd z (by omega), fun _ => ⟨by rw [zl1_]; omega, ⟨by omega, by omega⟩, fun ns => sp_addToken hn (by omega) (by omega) (by rw [e1]; exact hb) (fun kd v e tk k0 k1 x0 x1 h2 ta => ⟨⟨by omega, by omega⟩, fun _ => ?_, fun z => absurd z (by omega)⟩) (fun tk => ⟨⟨by decide, by decide⟩, fun z => absurd rfl z, fun _ => ⟨⟨by omega, by omega⟩, ⟨by omega, by omega⟩, fun z => absurd z (by omega), fun _ => ?_⟩⟩), fun s => ih (p + 1) (w + 1) h1 En (by omega) (by omega) f1 e8 e9 (tkP_sp tp (by omega) s)⟩⟩⟩
        · obtain ⟨a1, a2, a3, a4, a5, a6⟩ := ta
          rw [e1] at tk
          rw [show p + (e - p) = e by omega]
          refine ih e (w + 1) h2 (fup En (h1 13 3) e) (by omega) (by omega) (fun a q => by rw [a1 a q, f1 a q]) (by rw [a2 8 (by decide), e8]) (by rw [a2 9 (by decide), e9]) ?_
          rw [a3, a4, a5, a6]
          exact tkP_tk tp (by omega) ns tk k0 k1 x0 x1
        · rw [e1] at tk
          exact fin _ p 1 h1 En f1 rfl e8 e9 tp (fun _ => ns) (fun v => tk v n) (Or.inr rfl)
  have o : ∀ a, ¬ a = 13 → (zup (zup (zup h 13 3 0) 13 8 0) 13 9 (-1)) a = h a := fun a q => by rw [zup_ne q, zup_ne q, zup_ne q]
  have e3 : (zup (zup (zup h 13 3 0) 13 8 0) 13 9 (-1)) 13 3 = 0 := by rw [zup_ns (by decide), zup_ns (by decide), zup_eq]
  refine eX10_split (bX10_split_0 (go n.toNat 0 0 _ (fun _ => 0) (by omega) (by omega) (fun a q => o a (by omega)) (by rw [zup_ns (by decide), zup_eq]) zup_eq ?_))
  rw [e3]
  exact ⟨by omega, fun i i0 i1 => absurd i1 (by omega), fun i i0 i1 => absurd i1 (by omega), fun _ x x0 x1 => absurd x1 (by omega), fun z => absurd z (by omega)⟩
end SP1
