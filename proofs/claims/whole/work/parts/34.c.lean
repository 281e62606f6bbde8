/-! ===== the model settles an edge ===== -/
/-- a bit of row at -/
def mb (h : zH) (at_ b : Int) : Bool := if b < 64 then tb (h 503 at_) b else tb (h 504 at_) (b - 64)
def seF (at_ : Int) (h h' : zH) : Prop := (∀ a, ¬ a = 498 → ¬ a = 499 → ¬ a = 503 → ¬ a = 504 → h' a = h a) ∧ ∀ a j, ¬ j = at_ → h' a j = h a j
theorem mb_lo {h : zH} {at_ b c : Int} (hb : 0 ≤ b ∧ b < 64) (hc : 0 ≤ c ∧ c < 128) : mb (zup h 503 at_ (zlor (h 503 at_) (zlshl 1 b))) at_ c = (decide (c = b) || mb h at_ c) := by
  unfold mb
  rw [zup_eq, zup_ne (by decide)]
  by_cases q : c < 64
  · rw [if_pos q, if_pos q, tb_or1 hb (by omega)]
  · rw [if_neg q, if_neg q, decide_eq_false (by omega)]
    rfl
theorem mb_hi {h : zH} {at_ b c : Int} (hb : 64 ≤ b ∧ b < 128) (hc : 0 ≤ c ∧ c < 128) : mb (zup h 504 at_ (zlor (h 504 at_) (zlshl 1 (b - 64)))) at_ c = (decide (c = b) || mb h at_ c) := by
  unfold mb
  rw [zup_eq, zup_ne (by decide)]
  by_cases q : c < 64
  · rw [if_pos q, if_pos q, decide_eq_false (by omega)]
    rfl
  · rw [if_neg q, if_neg q, tb_or1 (by omega) (by omega)]
    by_cases w : c = b
    · rw [decide_eq_true (show c - 64 = b - 64 by omega), decide_eq_true w]
    · rw [decide_eq_false (show ¬ c - 64 = b - 64 by omega), decide_eq_false w]
theorem seF_t {at_ : Int} {h1 h2 h3 : zH} (a : seF at_ h1 h2) (b : seF at_ h2 h3) : seF at_ h1 h3 := ⟨fun x p q r s => (b.1 x p q r s).trans (a.1 x p q r s), fun x j p => (b.2 x j p).trans (a.2 x j p)⟩
theorem seF_up {at_ : Int} {h h1 : zH} {r x : Int} (hr : r = 498 ∨ r = 499 ∨ r = 503 ∨ r = 504) (a : seF at_ h h1) : seF at_ h (zup h1 r at_ x) := ⟨fun y p q s t => by rw [zup_ne (by omega)]; exact a.1 y p q s t, fun y j p => by rw [zup_ns p]; exact a.2 y j p⟩
theorem or_upd {P : Prop} {c b b0 : Int} (h : b0 ≤ b) : (c = b ∨ (P ∨ (b0 ≤ c ∧ c < b))) ↔ (P ∨ (b0 ≤ c ∧ c < b + 1)) := by
  constructor
  · rintro (w | w | w)
    · exact Or.inr (by omega)
    · exact Or.inl w
    · exact Or.inr (by omega)
  · rintro (w | w)
    · exact Or.inr (Or.inl w)
    · by_cases v : c = b
      · exact Or.inl v
      · exact Or.inr (Or.inr (by omega))
section ME
variable {G : zG} {d : Nat} {h : zH} {i n en E F : Int} {fr to ff ft : Int → Int} {X : Int → Int → Bool}
theorem sm_settlesEdge {K : zH → Prop} {e : Int} (hi : 0 ≤ i ∧ i < 14) (k : dfM h n en E fr to X F ff ft) (E0 : 0 ≤ E ∧ E ≤ 160) (he : 0 ≤ e ∧ e < E) (s : stQ i h (chp E X)) (kk : ∀ h' : zH, seF (i * 160 + e) h h' → h' 498 (i * 160 + e) = fr e → h' 499 (i * 160 + e) = to e → zRL (h' 503 (i * 160 + e)) → zRL (h' 504 (i * 160 + e)) → (∀ b, 0 ≤ b → b < 128 → mb h' (i * 160 + e) b = (decide (b < h 496 i) && X e (rS h i b))) → K h') : zCv G (d + 1) mX12_settlesEdge [vr 12 466, vi i, vi e] h K := by
  obtain ⟨one, all⟩ := cu_chp k E0.1
  obtain ⟨s1, s2, s3⟩ := s
  have nn := s2.1
  obtain ⟨-, ⟨a0, a14⟩, ke, -⟩ := k
  obtain ⟨e1, e2, e3, e4⟩ := ke e he.1 he.2
  have m0 := dfM_at (E := E) a0 (fun e e0 e1 => (ke e e0 e1).2.2.1) e.toNat (by omega)
  have m1 := dfM_mono (E := E) (fun e e0 e1 => (ke e e0 e1).2.2.1) (e := e + 1) (by omega) (E - e - 1).toNat (by omega)
  rw [show e + 1 + ((E - e - 1).toNat : Int) = E by omega] at m1
  rw [show ((e.toNat : Nat) : Int) = e by omega] at m0
  have m00 := m0.1
  clear m0
  obtain ⟨at_, eat⟩ : ∃ x, x = i * 160 + e := ⟨_, rfl⟩
  -- what has been marked so far
  have fin : ∀ h1 : zH, (∀ b, 0 ≤ b → b < 128 → (mb h1 at_ b = true ↔ b < h 496 i ∧ ∃ k', (h 488 e ≤ k' ∧ k' < h 488 (e + 1)) ∧ h 489 k' ≤ rS h i b ∧ rS h i b ≤ h 490 k')) → ∀ b, 0 ≤ b → b < 128 → mb h1 at_ b = (decide (b < h 496 i) && X e (rS h i b)) := by
    intro h1 q b b0 b1
    rw [Bool.eq_iff_iff, q b b0 b1, Bool.and_eq_true, decide_eq_true_iff]
    constructor
    · rintro ⟨w, x⟩
      have r := s2.2.2.1 b b0 w
      exact ⟨w, (e4.2.2 _ r.1 r.2).mpr x⟩
    · rintro ⟨w, x⟩
      have r := s2.2.2.1 b b0 w
      exact ⟨w, (e4.2.2 _ r.1 r.2).mp x⟩
  have l81 : ∀ (f : Nat) (kx b b0 : Int) (h1 : zH) (P : Int → Prop), 0 ≤ kx ∧ kx < h 488 E → 0 ≤ b0 ∧ b0 ≤ b ∧ b ≤ h 496 i → h 496 i - b ≤ f → seF at_ h h1 → h1 498 at_ = fr e → h1 499 at_ = to e → zRL (h1 503 at_) → zRL (h1 504 at_) → (∀ c, b0 ≤ c → c < b → rS h i c ≤ h 490 kx) → (∀ c, 0 ≤ c → c < 128 → (mb h1 at_ c = true ↔ P c ∨ (b0 ≤ c ∧ c < b))) → (∀ (h2 : zH) (b' : Int), b ≤ b' ∧ b' ≤ h 496 i → seF at_ h h2 → h2 498 at_ = fr e → h2 499 at_ = to e → zRL (h2 503 at_) → zRL (h2 504 at_) → (∀ c, b0 ≤ c → c < b' → rS h i c ≤ h 490 kx) → (∀ c, b' ≤ c → c < h 496 i → h 490 kx < rS h i c) → (∀ c, 0 ≤ c → c < 128 → (mb h2 at_ c = true ↔ P c ∨ (b0 ≤ c ∧ c < b'))) → tX12_settlesEdge_54 G d K i e at_ (kx + 1) h2) → tX12_settlesEdge_81 G d K i e at_ kx b h1 := by
    intro f
    induction f with
    | zero =>
      intro kx b b0 h1 P hk hb hf sf q1 q2 q3 q4 q5 q6 nx
      refine bX12_settlesEdge_81 ?_
      rw [sf.1 496 (by decide) (by decide) (by decide) (by decide)]
      exact ⟨hi, ⟨by omega, by omega⟩, ⟨by omega, by omega⟩, fun _ => nx h1 b (by omega) sf q1 q2 q3 q4 q5 (fun c c0 c1 => absurd c1 (by omega)) q6, fun z => absurd hf (by omega)⟩
    | succ f ih =>
      intro kx b b0 h1 P hk hb hf sf q1 q2 q3 q4 q5 q6 nx
      refine bX12_settlesEdge_81 ?_
      rw [sf.1 496 (by decide) (by decide) (by decide) (by decide), sf.1 497 (by decide) (by decide) (by decide) (by decide), sf.1 490 (by decide) (by decide) (by decide) (by decide)]
      have o := one kx hk.1 hk.2
      refine ⟨hi, ⟨by omega, by omega⟩, ⟨by omega, by omega⟩, fun z => nx h1 b (by omega) sf q1 q2 q3 q4 q5 (fun c c0 c1 => absurd c1 (by omega)) q6, fun z => ?_⟩
      have r := s2.2.2.1 b (by omega) (by omega)
      have rr : rS h i b = h 497 (i * 128 + b) := rfl
      refine ⟨by omega, by omega, ⟨by omega, by omega⟩, ⟨by omega, by omega⟩, fun y => nx h1 b (by omega) sf q1 q2 q3 q4 q5 (fun c c0 c1 => ?_) q6, fun y => ⟨⟨by omega, by omega⟩, fun w => ⟨by omega, by omega, ?_⟩, fun w => ⟨by omega, by omega, ?_⟩⟩⟩
      · by_cases w : c = b
        · rw [w]
          omega
        · have := s2.2.2.2 b c (by omega) (by omega) c1
          omega
      · refine ih kx (b + 1) b0 _ P hk (by omega) (by omega) (seF_up (by omega) sf) (by rw [zup_ne (by decide)]; exact q1) (by rw [zup_ne (by decide)]; exact q2) (by rw [zup_ne (by decide)]; exact q3) (by rw [zup_eq]; exact zlor_R _ _) (fun c c0 c1 => ?_) (fun c c0 c1 => ?_) (fun h2 b' hb' => nx h2 b' (by omega))
        · by_cases v : c = b
          · rw [v]
            omega
          · exact q5 c c0 (by omega)
        · rw [mb_hi (by omega) (by omega), Bool.or_eq_true, decide_eq_true_iff, q6 c c0 c1]
          exact or_upd (by omega)
      · refine ih kx (b + 1) b0 _ P hk (by omega) (by omega) (seF_up (by omega) sf) (by rw [zup_ne (by decide)]; exact q1) (by rw [zup_ne (by decide)]; exact q2) (by rw [zup_eq]; exact zlor_R _ _) (by rw [zup_ne (by decide)]; exact q4) (fun c c0 c1 => ?_) (fun c c0 c1 => ?_) (fun h2 b' hb' => nx h2 b' (by omega))
        · by_cases v : c = b
          · rw [v]
            omega
          · exact q5 c c0 (by omega)
        · rw [mb_lo (by omega) (by omega), Bool.or_eq_true, decide_eq_true_iff, q6 c c0 c1]
          exact or_upd (by omega)
  have l54 : ∀ (f : Nat) (kx : Int) (h1 : zH), h 488 e ≤ kx ∧ kx ≤ h 488 (e + 1) → h 488 (e + 1) - kx ≤ f → seF at_ h h1 → h1 498 at_ = fr e → h1 499 at_ = to e → zRL (h1 503 at_) → zRL (h1 504 at_) → (∀ b, 0 ≤ b → b < 128 → (mb h1 at_ b = true ↔ b < h 496 i ∧ ∃ k', (h 488 e ≤ k' ∧ k' < kx) ∧ h 489 k' ≤ rS h i b ∧ rS h i b ≤ h 490 k')) → tX12_settlesEdge_54 G d K i e at_ kx h1 := by
    intro f
    have done : ∀ (kx : Int) (h1 : zH), h 488 e ≤ kx ∧ kx ≤ h 488 (e + 1) → h 488 (e + 1) ≤ kx → seF at_ h h1 → h1 498 at_ = fr e → h1 499 at_ = to e → zRL (h1 503 at_) → zRL (h1 504 at_) → (∀ b, 0 ≤ b → b < 128 → (mb h1 at_ b = true ↔ b < h 496 i ∧ ∃ k', (h 488 e ≤ k' ∧ k' < kx) ∧ h 489 k' ≤ rS h i b ∧ rS h i b ≤ h 490 k')) → K h1 := by
      intro kx h1 hk hz sf q1 q2 q3 q4 q5
      have ez : kx = h 488 (e + 1) := by omega
      rw [ez] at q5
      have := fin h1 q5
      rw [eat] at sf q1 q2 q3 q4 this
      exact kk h1 sf q1 q2 q3 q4 this
    induction f with
    | zero =>
      intro kx h1 hk hf sf q1 q2 q3 q4 q5
      refine bX12_settlesEdge_54 ?_
      rw [sf.1 488 (by decide) (by decide) (by decide) (by decide)]
      exact ⟨by omega, ⟨by omega, by omega⟩, ⟨by omega, by omega⟩, fun z => done kx h1 hk z sf q1 q2 q3 q4 q5, fun z => absurd hf (by omega)⟩
    | succ f ih =>
      intro kx h1 hk hf sf q1 q2 q3 q4 q5
      refine bX12_settlesEdge_54 ?_
      rw [sf.1 488 (by decide) (by decide) (by decide) (by decide), sf.1 489 (by decide) (by decide) (by decide) (by decide)]
      refine ⟨by omega, ⟨by omega, by omega⟩, ⟨by omega, by omega⟩, fun z => done kx h1 hk z sf q1 q2 q3 q4 q5, fun z => ⟨by omega, ?_⟩⟩
      have o := one kx (by omega) (by omega)
      have f7 : rS h1 i = rS h i := by
        unfold rS
        rw [sf.1 497 (by decide) (by decide) (by decide) (by decide)]
      refine sm_blockAt2 hi (by rw [sf.1 496 (by decide) (by decide) (by decide) (by decide)]) s1 (by rw [f7]; exact s2) (by omega) (fun b b0 b1 b2 b3 => ?_)
      rw [f7] at b2 b3
      have eb : rS h i b = h 489 kx := by
        obtain ⟨c, hc, ec⟩ := (s3 _).mpr o.2.1
        by_cases w : b < c
        · have := b3 c w hc.2
          omega
        · by_cases w2 : c = b
          · rw [← w2]
            exact ec
          · have := s2.2.2.2 c b hc.1 (by omega) b1
            omega
      refine l81 (h 496 i).toNat kx b b h1 (fun c => c < h 496 i ∧ ∃ k', (h 488 e ≤ k' ∧ k' < kx) ∧ h 489 k' ≤ rS h i c ∧ rS h i c ≤ h 490 k') (by omega) (by omega) (by omega) sf q1 q2 q3 q4 (fun c c0 c1 => absurd c1 (by omega)) (fun c c0 c1 => ?_) (fun h2 b' hb' sf2 r1 r2 r3 r4 r5 r6 r7 => ih (kx + 1) h2 (by omega) (by omega) sf2 r1 r2 r3 r4 (fun c c0 c1 => ?_))
      · rw [q5 c c0 c1]
        exact ⟨Or.inl, fun w => w.elim id (fun w => absurd w.1 (by omega))⟩
      · rw [r7 c c0 c1]
        constructor
        · rintro (⟨w, k', hk', w2⟩ | ⟨w1, w2⟩)
          · exact ⟨w, k', by omega, w2⟩
          · refine ⟨by omega, kx, by omega, ?_, r5 c w1 w2⟩
            by_cases v : c = b
            · rw [v]
              omega
            · have := s2.2.2.2 b c b0 (by omega) (by omega)
              omega
        · rintro ⟨w, k', hk', w2, w3⟩
          by_cases v : k' = kx
          · rw [v] at w2 w3
            refine Or.inr ⟨?_, ?_⟩
            · by_cases v2 : b ≤ c
              · exact v2
              · have := s2.2.2.2 c b c0 (by omega) b1
                omega
            · by_cases v2 : c < b'
              · exact v2
              · have := r6 c (by omega) w
                omega
          · exact Or.inl ⟨w, k', by omega, w2, w3⟩
  refine eX12_settlesEdge (bX12_settlesEdge_0 ?_)
  rw [← eat]
  refine ⟨by omega, by omega, by omega, by omega, by omega, by omega, by omega, ?_⟩
  refine l54 (h 488 (e + 1) - h 488 e).toNat (h 488 e) _ (by omega) (by omega) (seF_up (by omega) (seF_up (by omega) (seF_up (by omega) (seF_up (by omega) ⟨fun _ _ _ _ _ => rfl, fun _ _ _ => rfl⟩)))) ?_ ?_ ?_ ?_ (fun b b0 b1 => ?_)
  · rw [zup_ne (by decide), zup_ne (by decide), zup_ne (by decide), zup_eq, e1]
  · rw [zup_ne (by decide), zup_ne (by decide), zup_eq, e2]
  · rw [zup_ne (by decide), zup_eq]
    exact zRL_0
  · rw [zup_eq]
    exact zRL_0
  · unfold mb
    rw [zup_eq, zup_ne (by decide), zup_eq, tb_0, tb_0]
    constructor
    · intro w
      by_cases q : b < 64
      · rw [if_pos q] at w
        cases w
      · rw [if_neg q] at w
        cases w
    · rintro ⟨-, k', hk', -⟩
      omega
end ME
