/-! ===== drafts: blocks that are cut ===== -/
/-- n starts, rising from 0 -/
def dS (s : Int → Int) (n : Int) : Prop := (1 ≤ n ∧ n ≤ 256) ∧ s 0 = 0 ∧ (∀ b, 0 ≤ b → b < n → 0 ≤ s b ∧ s b < 65536) ∧ ∀ a b, 0 ≤ a → a < b → b < n → s a < s b
/-- one more at place p -/
def ins (s : Int → Int) (p x : Int) : Int → Int := fun b => if b < p then s b else if b = p then x else s (b - 1)
theorem dS_ins {s : Int → Int} {n p x : Int} (h : dS s n) (hn : n < 256) (hp : 1 ≤ p ∧ p ≤ n) (hx : 0 ≤ x ∧ x < 65536) (h1 : s (p - 1) < x) (h2 : p < n → x < s p) : dS (ins s p x) (n + 1) ∧ ∀ z, (∃ b, (0 ≤ b ∧ b < n + 1) ∧ ins s p x b = z) ↔ (∃ b, (0 ≤ b ∧ b < n) ∧ s b = z) ∨ z = x := by
  obtain ⟨a1, a2, a3, a4⟩ := h
  have lo : ∀ b, 0 ≤ b → b < p → s b < x := fun b b0 b1 => by
    by_cases z : b = p - 1
    · rw [z]
      exact h1
    · have := a4 b (p - 1) b0 (by omega) (by omega)
      omega
  have hi : ∀ b, p ≤ b → b < n → x < s b := fun b b0 b1 => by
    have := h2 (by omega)
    by_cases z : b = p
    · rw [z]
      exact this
    · have := a4 p b (by omega) (by omega) b1
      omega
  have il : ∀ b, b < p → ins s p x b = s b := fun b z => by
    unfold ins
    rw [if_pos z]
  have ip : ins s p x p = x := by
    unfold ins
    rw [if_neg (by omega), if_pos rfl]
  have ir : ∀ b, p < b → ins s p x b = s (b - 1) := fun b z => by
    unfold ins
    rw [if_neg (by omega), if_neg (by omega)]
  refine ⟨⟨by omega, by rw [il 0 (by omega)]; exact a2, fun b b0 b1 => ?_, fun a b x0 x1 x2 => ?_⟩, fun z => ⟨fun ⟨b, hb, e⟩ => ?_, fun q => ?_⟩⟩
  · rcases Int.lt_trichotomy b p with z | z | z
    · rw [il b z]
      exact a3 b b0 (by omega)
    · rw [z, ip]
      exact hx
    · rw [ir b z]
      exact a3 (b - 1) (by omega) (by omega)
  · rcases Int.lt_trichotomy b p with z | z | z
    · rw [il b z, il a (by omega)]
      exact a4 a b x0 x1 (by omega)
    · rw [z, ip, il a (by omega)]
      exact lo a x0 (by omega)
    · rw [ir b z]
      rcases Int.lt_trichotomy a p with y | y | y
      · rw [il a y]
        have := lo a x0 y
        have := hi (b - 1) (by omega) (by omega)
        omega
      · rw [y, ip]
        exact hi (b - 1) (by omega) (by omega)
      · rw [ir a y]
        exact a4 (a - 1) (b - 1) (by omega) (by omega) (by omega)
  · rcases Int.lt_trichotomy b p with y | y | y
    · rw [il b y] at e
      exact Or.inl ⟨b, by omega, e⟩
    · rw [y, ip] at e
      exact Or.inr e.symm
    · rw [ir b y] at e
      exact Or.inl ⟨b - 1, by omega, e⟩
  · rcases q with ⟨b, hb, e⟩ | e
    · by_cases y : b < p
      · exact ⟨b, by omega, by rw [il b y]; exact e⟩
      · exact ⟨b + 1, by omega, by rw [ir (b + 1) (by omega), show b + 1 - 1 = b by omega]; exact e⟩
    · exact ⟨p, by omega, by rw [ip, e]⟩
section DG
variable {G : zG} {d : Nat} {h : zH}
theorem sp_cut {K : zH → Prop} {n x : Int} (hn : h 4 11 = n) (hd : dS (h 10) n) (hx : zR x) (k1 : (¬ (0 ≤ x ∧ x < 65536) ∨ ∃ b, (0 ≤ b ∧ b < n) ∧ h 10 b = x) → K h) (k2 : 0 ≤ x ∧ x < 65536 → (∀ b, 0 ≤ b → b < n → ¬ h 10 b = x) → n < 256 → ∀ h' : zH, (∀ a, ¬ a = 4 → ¬ a = 10 → h' a = h a) → (∀ j, ¬ j = 11 → h' 4 j = h 4 j) → h' 4 11 = n + 1 → dS (h' 10) (n + 1) → (∀ z, (∃ b, (0 ≤ b ∧ b < n + 1) ∧ h' 10 b = z) ↔ (∃ b, (0 ≤ b ∧ b < n) ∧ h 10 b = z) ∨ z = x) → K h') (k3 : 0 ≤ x ∧ x < 65536 → (∀ b, 0 ≤ b → b < n → ¬ h 10 b = x) → n = 256 → K (zup h 4 12 1)) : zCv G d mX2_cut [vr 2 4, vi x] h K := by
  obtain ⟨a1, a2, a3, a4⟩ := hd
  -- the place is known
  have place : ∀ p, (0 ≤ p ∧ p ≤ n) → (∀ b, p ≤ b → b < n → x < h 10 b) → (p = 0 ∨ h 10 (p - 1) ≤ x) → zR x ∧ (65536 ≤ x → K h) ∧ (¬ 65536 ≤ x → zR p ∧ (p = 0 → K h) ∧ (¬ p = 0 → (0 ≤ p - 1 ∧ p - 1 < 256) ∧ zR (h 10 (p - 1)) ∧ zR x ∧ (¬ h 10 (p - 1) = x → zR (h 4 11) ∧ (h 4 11 < 256 → tX2_cut_71 G d K x p (h 4 11) h) ∧ (¬ h 4 11 < 256 → K (zup h 4 12 1))) ∧ (h 10 (p - 1) = x → K h))) := by
    intro p hp hi lo
    refine ⟨hx, fun z => k1 (Or.inl (by omega)), fun z => ⟨⟨by omega, by omega⟩, fun y => k1 (Or.inl ?_), fun y => ?_⟩⟩
    · subst y
      have := hi 0 (by omega) (by omega)
      omega
    · have lo2 : h 10 (p - 1) ≤ x := by
        rcases lo with w | w
        · exact absurd w y
        · exact w
      have r := a3 (p - 1) (by omega) (by omega)
      refine ⟨by omega, ⟨by omega, by omega⟩, hx, fun ne => ?_, fun e => k1 (Or.inr ⟨p - 1, by omega, e⟩)⟩
      have fresh : ∀ b, 0 ≤ b → b < n → ¬ h 10 b = x := fun b b0 b1 e => by
        by_cases w : p ≤ b
        · have := hi b w b1
          omega
        · by_cases w2 : b = p - 1
          · rw [w2] at e
            exact ne e
          · have := a4 b (p - 1) b0 (by omega) (by omega)
            omega
      rw [hn]
      refine ⟨⟨by omega, by omega⟩, fun lt => ?_, fun ge => k3 (by omega) fresh (by omega)⟩
      have l71 : ∀ (f : Nat) (b : Int) (h1 : zH), b = p + f → b ≤ n → (∀ a, ¬ a = 10 → h1 a = h a) → (∀ c, c ≤ b → h1 10 c = h 10 c) → (∀ c, b < c → c ≤ n → h1 10 c = h 10 (c - 1)) → tX2_cut_71 G d K x p b h1 := by
        intro f
        induction f with
        | zero =>
          intro b h1 eb bn g1 g2 g3
          have e : b = p := by omega
          subst e
          refine bX2_cut_71 ⟨⟨by omega, by omega⟩, ⟨by omega, by omega⟩, fun _ => ⟨by omega, ?_⟩, fun z => absurd (Int.le_refl _) z⟩
          have e4 : h1 4 11 = n := by rw [g1 4 (by decide), hn]
          obtain ⟨i1, i2⟩ := dS_ins (s := h 10) (n := n) (p := b) (x := x) ⟨a1, a2, a3, a4⟩ lt (by omega) (by omega) (by omega) (fun w => hi b (Int.le_refl _) w)
          have er : ∀ c, 0 ≤ c → c < n + 1 → (zup (zup h1 10 b x) 4 11 (h1 4 11 + 1)) 10 c = ins (h 10) b x c := fun c c0 c1 => by
            rw [zup_ne (by decide)]
            unfold ins
            rcases Int.lt_trichotomy c b with w | w | w
            · rw [if_pos w, zup_ns (by omega), g2 c (by omega)]
            · rw [if_neg (by omega), if_pos w, w, zup_eq]
            · rw [if_neg (by omega), if_neg (by omega), zup_ns (by omega), g3 c w (by omega)]
          refine k2 (by omega) fresh lt _ (fun a q4 q10 => by rw [zup_ne q4, zup_ne q10, g1 a q10]) (fun j q => by rw [zup_ns q, zup_ne (by decide), g1 4 (by decide)]) (by rw [zup_eq, e4]) ?_ (fun z => ?_)
          · refine ⟨i1.1, by rw [er 0 (by omega) (by omega)]; exact i1.2.1, fun c c0 c1 => by rw [er c c0 c1]; exact i1.2.2.1 c c0 c1, fun c e c0 c1 c2 => by rw [er c c0 (by omega), er e (by omega) c2]; exact i1.2.2.2 c e c0 c1 c2⟩
          · rw [← i2 z]
            exact ⟨fun ⟨c, hc, e⟩ => ⟨c, hc, by rw [← er c hc.1 hc.2]; exact e⟩, fun ⟨c, hc, e⟩ => ⟨c, hc, by rw [er c hc.1 hc.2]; exact e⟩⟩
        | succ f ih =>
          intro b h1 eb bn g1 g2 g3
          refine bX2_cut_71 ⟨⟨by omega, by omega⟩, ⟨by omega, by omega⟩, fun z => absurd z (by omega), fun _ => ⟨by omega, by omega, ?_⟩⟩
          rw [show b + (-1) = b - 1 by omega]
          refine ih (b - 1) _ (by omega) (by omega) (fun a q => by rw [zup_ne q, g1 a q]) (fun c hc => by rw [zup_ns (by omega), g2 c (by omega)]) (fun c c0 c1 => ?_)
          by_cases w : c = b
          · rw [w, zup_eq, g2 (b - 1) (by omega)]
          · rw [zup_ns w, g3 c (by omega) c1]
      exact l71 (n - p).toNat n h (by omega) (Int.le_refl _) (fun _ _ => rfl) (fun _ _ => rfl) (fun c c0 c1 => absurd c1 (by omega))
  have l5 : ∀ (f : Nat) (p : Int), p = f → p ≤ n → (∀ b, p ≤ b → b < n → x < h 10 b) → tX2_cut_5 G d K x p h := by
    intro f
    induction f with
    | zero =>
      intro p ep pn hi
      exact bX2_cut_5 ⟨⟨by omega, by omega⟩, fun _ => place p (by omega) hi (Or.inl (by omega)), fun z => absurd (show p ≤ 0 by omega) z⟩
    | succ f ih =>
      intro p ep pn hi
      have r := a3 (p - 1) (by omega) (by omega)
      refine bX2_cut_5 ⟨⟨by omega, by omega⟩, fun z => absurd z (by omega), fun _ => ⟨by omega, ⟨by omega, by omega⟩, hx, fun z => place p (by omega) hi (Or.inr z), fun z => ?_⟩⟩
      rw [show p + (-1) = p - 1 by omega]
      refine ih (p - 1) (by omega) (by omega) (fun b b0 b1 => ?_)
      by_cases w : b = p - 1
      · rw [w]
        omega
      · exact hi b (by omega) b1
  refine eX2_cut (bX2_cut_0 ?_)
  rw [hn]
  exact l5 n.toNat n (by omega) (Int.le_refl _) (fun b b0 b1 => absurd b1 (by omega))
/-- the draft's starts after some cuts: just these letters and 0; or there are more than can be -/
def ctS (h : zH) (ov : Int) (P : Int → Prop) : Prop := dS (h 10) (h 4 11) ∧ ((h 4 12 = ov ∧ ∀ z, (∃ b, (0 ≤ b ∧ b < h 4 11) ∧ h 10 b = z) ↔ z = 0 ∨ (P z ∧ 0 ≤ z ∧ z < 65536)) ∨ (h 4 12 = 1 ∧ ∀ Dl : List Int, (∀ z, z = 0 ∨ (P z ∧ 0 ≤ z ∧ z < 65536) → z ∈ Dl) → 257 ≤ Dl.length))
theorem ctS_iff {ov : Int} {P Q : Int → Prop} (e : ∀ z, 0 ≤ z → z < 65536 → (P z ↔ Q z)) (k : ctS h ov P) : ctS h ov Q := by
  obtain ⟨a, b⟩ := k
  refine ⟨a, ?_⟩
  rcases b with ⟨b1, b2⟩ | ⟨b1, b2⟩
  · refine Or.inl ⟨b1, fun z => ?_⟩
    rw [b2 z]
    exact ⟨fun q => q.elim Or.inl (fun q => Or.inr ⟨(e z q.2.1 q.2.2).mp q.1, q.2⟩), fun q => q.elim Or.inl (fun q => Or.inr ⟨(e z q.2.1 q.2.2).mpr q.1, q.2⟩)⟩
  · refine Or.inr ⟨b1, fun Dl hD => b2 Dl (fun z q => hD z ?_)⟩
    exact q.elim Or.inl (fun q => Or.inr ⟨(e z q.2.1 q.2.2).mp q.1, q.2⟩)
theorem sp_cut2 {K : zH → Prop} {ov x : Int} {P : Int → Prop} (hx : zR x) (c : ctS h ov P) (k : ∀ h' : zH, (∀ a, ¬ a = 4 → ¬ a = 10 → h' a = h a) → (∀ j, ¬ j = 11 → ¬ j = 12 → h' 4 j = h 4 j) → ctS h' ov (fun z => P z ∨ z = x) → K h') : zCv G d mX2_cut [vr 2 4, vi x] h K := by
  obtain ⟨hd, hc⟩ := c
  refine sp_cut rfl hd hx (fun q => ?_) (fun q1 q2 q3 h' f1 f2 f3 f4 f5 => ?_) (fun q1 q2 q3 => ?_)
  · refine k h (fun _ _ _ => rfl) (fun _ _ _ => rfl) ⟨hd, ?_⟩
    rcases hc with ⟨b1, b2⟩ | ⟨b1, b2⟩
    · refine Or.inl ⟨b1, fun z => ?_⟩
      rw [b2 z]
      refine ⟨fun w => w.elim Or.inl (fun w => Or.inr ⟨Or.inl w.1, w.2⟩), fun w => w.elim Or.inl (fun w => ?_)⟩
      rcases w.1 with y | y
      · exact Or.inr ⟨y, w.2⟩
      · rcases q with q | ⟨b, hb, e⟩
        · rw [y] at w
          exact absurd w.2 q
        · rw [y]
          exact (b2 x).mp ⟨b, hb, e⟩
    · exact Or.inr ⟨b1, fun Dl hD => b2 Dl (fun z w => hD z (w.elim Or.inl (fun w => Or.inr ⟨Or.inl w.1, w.2⟩)))⟩
  · refine k h' f1 (fun j j1 j2 => f2 j j1) ⟨by rw [f3]; exact f4, ?_⟩
    rw [f3, f2 12 (by decide)]
    rcases hc with ⟨b1, b2⟩ | ⟨b1, b2⟩
    · refine Or.inl ⟨b1, fun z => ?_⟩
      rw [f5 z, b2 z]
      constructor
      · rintro (w | w)
        · exact w.elim Or.inl (fun w => Or.inr ⟨Or.inl w.1, w.2⟩)
        · rw [w]
          exact Or.inr ⟨Or.inr rfl, q1⟩
      · rintro (w | ⟨w | w, w2⟩)
        · exact Or.inl (Or.inl w)
        · exact Or.inl (Or.inr ⟨w, w2⟩)
        · exact Or.inr w
    · exact Or.inr ⟨b1, fun Dl hD => b2 Dl (fun z w => hD z (w.elim Or.inl (fun w => Or.inr ⟨Or.inl w.1, w.2⟩)))⟩
  · refine k _ (fun a q4 q10 => zup_ne q4) (fun j j1 j2 => zup_ns j2) ⟨by rw [zup_ne (by decide), zup_ns (by decide)]; exact hd, Or.inr ⟨zup_eq, fun Dl hD => ?_⟩⟩
    rcases hc with ⟨b1, b2⟩ | ⟨b1, b2⟩
    · -- the starts and the new letter are 257
      have cov : ∀ b, 0 ≤ b → b < 256 → h 10 b ∈ Dl := fun b b0 b1' => hD _ (by
        rcases (b2 (h 10 b)).mp ⟨b, ⟨b0, by omega⟩, rfl⟩ with w | w
        · exact Or.inl w
        · exact Or.inr ⟨Or.inl w.1, w.2⟩)
      have cx : x ∈ Dl := hD x (Or.inr ⟨Or.inr rfl, q1⟩)
      have l := List.length_erase_of_mem cx
      have p : 0 < Dl.length := List.length_pos_of_mem cx
      have pg := pig (c := h 10) 256 (Dl.erase x) (fun b b0 b1' => (List.mem_erase_of_ne (q2 b b0 (by omega))).mpr (cov b b0 b1')) (fun a b a0 a1 a2 => hd.2.2.2 a b a0 a1 (by omega))
      omega
    · exact b2 Dl (fun z w => hD z (w.elim Or.inl (fun w => Or.inr ⟨Or.inl w.1, w.2⟩)))
end DG
