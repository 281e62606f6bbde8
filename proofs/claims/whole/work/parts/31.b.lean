/-! ===== drafts: begin, cuts like a machine, by a set ===== -/
/-- a rising list is its set -/
theorem dS_le {s s' : Int → Int} {n n' : Int} (h : dS s n) (h' : dS s' n') (e : ∀ z, (∃ b, (0 ≤ b ∧ b < n) ∧ s b = z) ↔ ∃ b, (0 ≤ b ∧ b < n') ∧ s' b = z) : ∀ k : Nat, (k : Int) < n → (k : Int) < n' ∧ s k = s' k := by
  intro k
  induction k using Nat.strongRecOn with
  | _ k ih =>
    intro hk
    obtain ⟨a1, a2, a3, a4⟩ := h
    obtain ⟨b1, b2, b3, b4⟩ := h'
    obtain ⟨c, hc, ec⟩ := (e (s k)).mp ⟨k, by omega, rfl⟩
    have ck : (k : Int) ≤ c := by
      rcases Int.lt_or_le c k with z | z
      · have i := ih c.toNat (by omega) (by omega)
        rw [show ((c.toNat : Nat) : Int) = c by omega] at i
        have := a4 c k hc.1 z hk
        omega
      · exact z
    refine ⟨by omega, ?_⟩
    obtain ⟨f, hf, ef⟩ := (e (s' k)).mpr ⟨k, by omega, rfl⟩
    have fk : (k : Int) ≤ f := by
      rcases Int.lt_or_le f k with z | z
      · have i := ih f.toNat (by omega) (by omega)
        rw [show ((f.toNat : Nat) : Int) = f by omega] at i
        have := b4 f k hf.1 z (by omega)
        omega
      · exact z
    have le1 : s k ≤ s f := by
      by_cases z : (k : Int) = f
      · rw [z]
        exact Int.le_refl _
      · have := a4 k f (by omega) (by omega) hf.2
        omega
    have le2 : s' k ≤ s' c := by
      by_cases z : (k : Int) = c
      · rw [z]
        exact Int.le_refl _
      · have := b4 k c (by omega) (by omega) hc.2
        omega
    omega
theorem dS_u {s s' : Int → Int} {n n' : Int} (h : dS s n) (h' : dS s' n') (e : ∀ z, (∃ b, (0 ≤ b ∧ b < n) ∧ s b = z) ↔ ∃ b, (0 ≤ b ∧ b < n') ∧ s' b = z) : n = n' ∧ ∀ b, 0 ≤ b → b < n → s b = s' b := by
  have n1 := h.1
  have n2 := h'.1
  have x := dS_le h h' e
  have y := dS_le h' h (fun z => (e z).symm)
  have a := (x (n - 1).toNat (by omega)).1
  have b := (y (n' - 1).toNat (by omega)).1
  refine ⟨by omega, fun b b0 b1 => ?_⟩
  have := (x b.toNat (by omega)).2
  rwa [show ((b.toNat : Nat) : Int) = b by omega] at this
section DH
variable {G : zG} {d : Nat} {h D : zH}
theorem sp_begin {K : zH → Prop} {n : Int} (hn : zR n) (k : ∀ h' : zH, (∀ a, ¬ a = 4 → ¬ a = 10 → h' a = h a) → h' 4 7 = n → h' 4 8 = 0 → h' 4 9 = 0 → h' 4 10 = 0 → ctS h' (if n ≤ 40 then 0 else 1) (fun _ => False) → K h') : zCv G d mX2_begin [vr 2 4, vi n] h K := by
  have one : ∀ v, v = (if n ≤ 40 then 0 else 1) → K (zup (zup (zup (zup (zup (zup (zup h 4 7 n) 4 8 0) 4 9 0) 4 10 0) 4 11 1) 10 0 0) 4 12 v) := fun v ev => by
    have r : ∀ j, ¬ j = 12 → (zup (zup (zup (zup (zup (zup (zup h 4 7 n) 4 8 0) 4 9 0) 4 10 0) 4 11 1) 10 0 0) 4 12 v) 4 j = (zup (zup (zup (zup (zup h 4 7 n) 4 8 0) 4 9 0) 4 10 0) 4 11 1) 4 j := fun j q => by rw [zup_ns q, zup_ne (by decide)]
    have e11 : (zup (zup (zup (zup (zup (zup (zup h 4 7 n) 4 8 0) 4 9 0) 4 10 0) 4 11 1) 10 0 0) 4 12 v) 4 11 = 1 := by rw [r 11 (by decide), zup_eq]
    have e10 : (zup (zup (zup (zup (zup (zup (zup h 4 7 n) 4 8 0) 4 9 0) 4 10 0) 4 11 1) 10 0 0) 4 12 v) 10 0 = 0 := by rw [zup_ne (by decide), zup_eq]
    refine k _ (fun a q4 q10 => ?_) ?_ ?_ ?_ ?_ ?_
    · rw [zup_ne q4, zup_ne q10, zup_ne q4, zup_ne q4, zup_ne q4, zup_ne q4, zup_ne q4]
    · rw [r 7 (by decide), zup_ns (by decide), zup_ns (by decide), zup_ns (by decide), zup_ns (by decide), zup_eq]
    · rw [r 8 (by decide), zup_ns (by decide), zup_ns (by decide), zup_ns (by decide), zup_eq]
    · rw [r 9 (by decide), zup_ns (by decide), zup_ns (by decide), zup_eq]
    · rw [r 10 (by decide), zup_ns (by decide), zup_eq]
    · unfold ctS
      rw [e11]
      refine ⟨⟨by omega, e10, fun b b0 b1 => ?_, fun a b x y z => absurd z (by omega)⟩, Or.inl ⟨by rw [zup_eq]; exact ev, fun z => ⟨fun ⟨b, hb, e⟩ => Or.inl ?_, fun q => q.elim (fun q => ⟨0, by omega, by rw [e10, q]⟩) (fun q => absurd q.1 id)⟩⟩⟩
      · rw [show b = 0 by omega, e10]
        omega
      · rw [show b = 0 by omega, e10] at e
        exact e.symm
  exact eX2_begin (bX2_begin_0 ⟨hn, fun q => one 0 (by rw [if_pos q]), fun q => one 1 (by rw [if_neg q])⟩)
theorem sp_cutLike {K : zH → Prop} {m k0 ov : Int} {P : Int → Prop} (mc : mcell m) (hD : mOK D) (hr : cRep h m D) (hk : -65536 < k0 ∧ k0 < 65536) (c : ctS h ov P) (k : ∀ h' : zH, (∀ a, ¬ a = 4 → ¬ a = 10 → h' a = h a) → (∀ j, ¬ j = 11 → ¬ j = 12 → h' 4 j = h 4 j) → ctS h' ov (fun z => P z ∨ (∃ b, (0 ≤ b ∧ b < D 0 4) ∧ z = D 7 b + k0) ∨ z = 65536 + k0) → K h') : zCv G (d + 1) mX2_cutLike [vr 2 4, vr 4 m, vi k0] h K := by
  have hB := mO_bl hD
  unfold mcell at mc
  have go : ∀ (f : Nat) (b : Int) (h1 : zH), 0 ≤ b → b + f = D 0 4 → (∀ a, ¬ a = 4 → ¬ a = 10 → h1 a = h a) → (∀ j, ¬ j = 11 → ¬ j = 12 → h1 4 j = h 4 j) → ctS h1 ov (fun z => P z ∨ ∃ b', (0 ≤ b' ∧ b' < b) ∧ z = D 7 b' + k0) → tX2_cutLike_2 G d K m k0 b h1 := by
    intro f
    induction f with
    | zero =>
      intro b h1 b0 bf g1 g2 g3
      have eb : b = D 0 4 := by omega
      subst eb
      refine bX2_cutLike_2 ?_
      rw [g1 m (by omega) (by omega), hr.1.2.2.2.2]
      exact ⟨⟨by omega, by omega⟩, ⟨by omega, by omega⟩, fun _ => sp_cut2 ⟨by omega, by omega⟩ g3 (fun h2 f1 f2 f3 => k h2 (fun a q4 q10 => by rw [f1 a q4 q10, g1 a q4 q10]) (fun j j1 j2 => by rw [f2 j j1 j2, g2 j j1 j2]) (ctS_iff (fun z _ _ => or_assoc) f3)), fun z => absurd (Int.le_refl _) z⟩
    | succ f ih =>
      intro b h1 b0 bf g1 g2 g3
      have s7 := mO_s hD b0 (show b < D 0 4 by omega)
      refine bX2_cutLike_2 ?_
      rw [g1 m (by omega) (by omega), hr.1.2.2.2.2, g1 (m + 6) (by omega) (by omega), hr.2.2.2 b b0 (by omega)]
      refine ⟨⟨by omega, by omega⟩, ⟨by omega, by omega⟩, fun z => absurd z (by omega), fun _ => ⟨by omega, sp_cut2 ⟨by omega, by omega⟩ g3 (fun h2 f1 f2 f3 => ih (b + 1) h2 (by omega) (by omega) (fun a q4 q10 => by rw [f1 a q4 q10, g1 a q4 q10]) (fun j j1 j2 => by rw [f2 j j1 j2, g2 j j1 j2]) (ctS_iff (fun z _ _ => ?_) f3))⟩⟩
      constructor
      · rintro ((w | ⟨b', hb, e⟩) | w)
        · exact Or.inl w
        · exact Or.inr ⟨b', by omega, e⟩
        · exact Or.inr ⟨b, by omega, w⟩
      · rintro (w | ⟨b', hb, e⟩)
        · exact Or.inl (Or.inl w)
        · by_cases y : b' = b
          · rw [y] at e
            exact Or.inr e
          · exact Or.inl (Or.inr ⟨b', by omega, e⟩)
  exact eX2_cutLike (bX2_cutLike_0 (go (D 0 4).toNat 0 h (by omega) (by omega) (fun _ _ _ => rfl) (fun _ _ _ => rfl) (ctS_iff (fun z _ _ => ⟨Or.inl, fun w => w.elim id (fun ⟨b', hb, _⟩ => absurd hb (by omega))⟩) c)))
theorem sp_cutBy {K : zH → Prop} {x ov : Int} {P : Int → Prop} (hx4 : ¬ x = 4 ∧ ¬ x = 10 ∧ ¬ x + 1 = 4 ∧ ¬ x + 1 = 10) (hl : lsOK h x) (c : ctS h ov P) (k : ∀ h' : zH, (∀ a, ¬ a = 4 → ¬ a = 10 → h' a = h a) → (∀ j, ¬ j = 11 → ¬ j = 12 → h' 4 j = h 4 j) → ctS h' ov (fun z => P z ∨ ∃ i, (0 ≤ i ∧ i < h x 1) ∧ z = h (x + 1) i) → K h') : zCv G (d + 1) mX2_cutBy [vr 2 4, vr 3 x] h K := by
  have lz := zln_le (x + 1)
  have l0 := hl.1.1
  have l1 := hl.2
  have go : ∀ (f : Nat) (i : Int) (h1 : zH), 0 ≤ i → i + f = h x 1 → (∀ a, ¬ a = 4 → ¬ a = 10 → h1 a = h a) → (∀ j, ¬ j = 11 → ¬ j = 12 → h1 4 j = h 4 j) → ctS h1 ov (fun z => P z ∨ ∃ i', (0 ≤ i' ∧ i' < i) ∧ z = h (x + 1) i') → tX2_cutBy_2 G d K x i h1 := by
    intro f
    induction f with
    | zero =>
      intro i h1 i0 jf g1 g2 g3
      have ei : i = h x 1 := by omega
      subst ei
      refine bX2_cutBy_2 ?_
      rw [g1 x (by omega) (by omega)]
      exact ⟨⟨by omega, by omega⟩, ⟨by omega, by omega⟩, fun _ => k h1 g1 g2 g3, fun z => absurd (Int.le_refl _) z⟩
    | succ f ih =>
      intro i h1 i0 jf g1 g2 g3
      have cr := hl.1.2.2.1 i i0 (by omega)
      dsimp only at cr
      refine bX2_cutBy_2 ?_
      rw [g1 x (by omega) (by omega), g1 (x + 1) (by omega) (by omega)]
      refine ⟨⟨by omega, by omega⟩, ⟨by omega, by omega⟩, fun z => absurd z (by omega), fun _ => ⟨⟨i0, by omega⟩, sp_cut2 ⟨by omega, by omega⟩ g3 (fun h2 f1 f2 f3 => ih (i + 1) h2 (by omega) (by omega) (fun a q4 q10 => by rw [f1 a q4 q10, g1 a q4 q10]) (fun j j1 j2 => by rw [f2 j j1 j2, g2 j j1 j2]) (ctS_iff (fun z _ _ => ?_) f3))⟩⟩
      constructor
      · rintro ((w | ⟨b', hb, e⟩) | w)
        · exact Or.inl w
        · exact Or.inr ⟨b', by omega, e⟩
        · exact Or.inr ⟨i, by omega, w⟩
      · rintro (w | ⟨b', hb, e⟩)
        · exact Or.inl (Or.inl w)
        · by_cases y : b' = i
          · rw [y] at e
            exact Or.inr e
          · exact Or.inl (Or.inr ⟨b', by omega, e⟩)
  exact eX2_cutBy (bX2_cutBy_0 (go (h x 1).toNat 0 h (by omega) (by omega) (fun _ _ _ => rfl) (fun _ _ _ => rfl) (ctS_iff (fun z _ _ => ⟨Or.inl, fun w => w.elim id (fun ⟨b', hb, _⟩ => absurd hb (by omega))⟩) c)))
/-- the blocks of a draft that come from a machine moved by k0 -/
theorem sp_trace {K : zH → Prop} {m k0 n : Int} (mc : mcell m) (hD : mOK D) (hr : cRep h m D) (hk : -65536 < k0 ∧ k0 < 65536) (hn : h 4 11 = n) (hd : dS (h 10) n) (k : ∀ h' : zH, (∀ a, ¬ a = 11 → h' a = h a) → (∀ b, 0 ≤ b → b < n → h' 11 b = if 0 ≤ h 10 b - k0 ∧ h 10 b - k0 < 65536 then dB D (h 10 b - k0) else -1) → K h') : zCv G (d + 1) mX2_trace [vr 2 4, vr 4 m, vi k0] h K := by
  have nn := hd.1
  unfold mcell at mc
  have go : ∀ (f : Nat) (b : Int) (h1 : zH), 0 ≤ b → b + f = n → (∀ a, ¬ a = 11 → h1 a = h a) → (∀ b', 0 ≤ b' → b' < b → h1 11 b' = if 0 ≤ h 10 b' - k0 ∧ h 10 b' - k0 < 65536 then dB D (h 10 b' - k0) else -1) → tX2_trace_2 G d K m k0 b h1 := by
    intro f
    induction f with
    | zero =>
      intro b h1 b0 bf g1 g2
      refine bX2_trace_2 ?_
      rw [g1 4 (by decide), hn]
      exact ⟨⟨by omega, by omega⟩, ⟨by omega, by omega⟩, fun _ => k h1 g1 (fun b' x y => g2 b' x (by omega)), fun z => absurd z (by omega)⟩
    | succ f ih =>
      intro b h1 b0 bf g1 g2
      have s := hd.2.2.1 b b0 (by omega)
      have cr : cRep h1 m D := cRep_fr (fun a x y => g1 a (by omega)) hr
      have nx : ∀ v, v = (if 0 ≤ h 10 b - k0 ∧ h 10 b - k0 < 65536 then dB D (h 10 b - k0) else -1) → tX2_trace_2 G d K m k0 (b + 1) (zup h1 11 b v) := fun v ev => ih (b + 1) _ (by omega) (by omega) (fun a q => by rw [zup_ne q, g1 a q]) (fun b' x y => by
        by_cases w : b' = b
        · rw [w, zup_eq, ev]
        · rw [zup_ns w]
          exact g2 b' x (by omega))
      refine bX2_trace_2 ?_
      rw [g1 4 (by decide), hn, g1 10 (by decide)]
      refine ⟨⟨by omega, by omega⟩, ⟨by omega, by omega⟩, fun z => absurd z (by omega), fun _ => ⟨by omega, sp_isIn ⟨by omega, by omega⟩ ⟨by decide, by decide⟩ ⟨fun q => ⟨by omega, nx _ (by rw [if_neg (of_decide_eq_false q)])⟩, fun q => sp_blockOf hD cr ⟨by omega, by omega⟩ ⟨by omega, nx _ (by rw [if_pos (of_decide_eq_true q)])⟩⟩⟩⟩
  exact eX2_trace (bX2_trace_0 (go n.toNat 0 h (by omega) (by omega) (fun _ _ => rfl) (fun b' x y => absurd y (by omega))))
end DH
