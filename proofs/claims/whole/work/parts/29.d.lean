/-! ===== useless states ===== -/
def cry (x s t : Int) : Int := if tb x s = true then zlor x (zlshl 1 t) else x
theorem cry_R {x s t : Int} (hx : zRL x) : zRL (cry x s t) := by
  unfold cry
  by_cases c : tb x s = true
  · rw [if_pos c]
    exact zlor_R _ _
  · rw [if_neg c]
    exact hx
theorem cry_S {x s t q : Int} (hs : 0 ≤ s ∧ s < 64) (ht : 0 ≤ t ∧ t < 64) : tS (cry x s t) q ↔ tS x q ∨ (tS x s ∧ q = t) := by
  unfold cry
  by_cases c : tb x s = true
  · rw [if_pos c, tS_lor, tS_shl ht.1 ht.2]
    exact ⟨fun z => z.elim Or.inl (fun z => Or.inr ⟨⟨hs.1, hs.2, c⟩, z⟩), fun z => z.elim Or.inl (fun z => Or.inr z.2)⟩
  · rw [if_neg c]
    exact ⟨Or.inl, fun z => z.elim id (fun z => absurd z.1.2.2 c)⟩
/-- an edge has letters -/
def fil (D : zH) (e : Int) : Prop := ¬ (D 3 e = 0 ∧ D 4 e = 0)
/-- whence and whither, or the other way -/
def src (t : Bool) (a b : Int) : Int := if t then b else a
/-- closed under free steps and edges with letters -/
def clo (D : zH) (t : Bool) (C : Int → Prop) : Prop := (∀ i, 0 ≤ i → i < D 0 3 → C (src t (D 5 i) (D 6 i)) → C (src t (D 6 i) (D 5 i))) ∧ (∀ e, 0 ≤ e → e < D 0 2 → fil D e → C (src t (D 1 e) (D 2 e)) → C (src t (D 2 e) (D 1 e)))
def dRe (D : zH) (t : Bool) (P : Int → Prop) (q : Int) : Prop := ∀ C : Int → Prop, (∀ p, P p → C p) → clo D t C → C q
theorem src_f {D : zH} (hD : mOK D) {t : Bool} {i : Int} (h0 : 0 ≤ i) (h1 : i < D 0 3) : (0 ≤ src t (D 5 i) (D 6 i) ∧ src t (D 5 i) (D 6 i) < D 0 0) ∧ (0 ≤ src t (D 6 i) (D 5 i) ∧ src t (D 6 i) (D 5 i) < D 0 0) := by
  have a := mO_f hD h0 h1
  cases t
  · exact a
  · exact ⟨a.2, a.1⟩
theorem src_e {D : zH} (hD : mOK D) {t : Bool} {e : Int} (h0 : 0 ≤ e) (h1 : e < D 0 2) : (0 ≤ src t (D 1 e) (D 2 e) ∧ src t (D 1 e) (D 2 e) < D 0 0) ∧ (0 ≤ src t (D 2 e) (D 1 e) ∧ src t (D 2 e) (D 1 e) < D 0 0) := by
  have a := mO_e hD h0 h1
  cases t
  · exact ⟨a.1, a.2.1⟩
  · exact ⟨a.2.1, a.1⟩
/-- a pass: from old to now, some steps done -/
def psI (D : zH) (t : Bool) (P : Int → Prop) (i e : Int) (old now : Int) : Prop := zRL now ∧ (∀ q, tS old q → tS now q) ∧ (∀ q, tS now q → dRe D t P q) ∧ (∀ q, tS now q → q < D 0 0) ∧ (now = old → (∀ j, 0 ≤ j → j < i → tS old (src t (D 5 j) (D 6 j)) → tS old (src t (D 6 j) (D 5 j))) ∧ (∀ j, 0 ≤ j → j < e → fil D j → tS old (src t (D 1 j) (D 2 j)) → tS old (src t (D 2 j) (D 1 j)))) ∧ (clo D t (tS old) → now = old)
section PS
variable {D : zH} {t : Bool} {P : Int → Prop} {i e old now : Int}
theorem ps_cry (hD : mOK D) (ho : zRL old) (h : psI D t P i e old now) {a b : Int} (ha : 0 ≤ a ∧ a < D 0 0) (hb : 0 ≤ b ∧ b < D 0 0) (hs : ∀ C, clo D t C → C a → C b) : (zRL (cry now a b) ∧ (∀ q, tS old q → tS (cry now a b) q) ∧ (∀ q, tS (cry now a b) q → dRe D t P q) ∧ (∀ q, tS (cry now a b) q → q < D 0 0) ∧ (clo D t (tS old) → cry now a b = old)) ∧ (cry now a b = old → now = old ∧ (tS old a → tS old b)) := by
  obtain ⟨p1, p2, p3, p4, p5, p6⟩ := h
  have hS := mO_st hD
  have cs : ∀ q, tS (cry now a b) q ↔ tS now q ∨ (tS now a ∧ q = b) := fun q => cry_S (by omega) (by omega)
  refine ⟨⟨cry_R p1, fun q z => (cs q).mpr (Or.inl (p2 q z)), fun q z => ?_, fun q z => ?_, fun c => ?_⟩, fun z => ?_⟩
  · rcases (cs q).mp z with w | ⟨w, w2⟩
    · exact p3 q w
    · rw [w2]
      exact fun C c1 c2 => hs C c2 (p3 a w C c1 c2)
  · rcases (cs q).mp z with w | ⟨w, w2⟩
    · exact p4 q w
    · omega
  · have en := p6 c
    subst en
    refine lp_eq (lp_self (cry_R p1)) ⟨ho, fun q => ⟨fun z => (cs q).mpr (Or.inl z), fun z => ?_⟩⟩
    rcases (cs q).mp z with w | ⟨w, w2⟩
    · exact w
    · rw [w2]
      exact hs (tS now) c w
  · have en : now = old := lp_eq (lp_self p1) ⟨ho, fun q => ⟨fun w => p2 q w, fun w => by rw [← z]; exact (cs q).mpr (Or.inl w)⟩⟩
    refine ⟨en, fun w => ?_⟩
    rw [← z]
    refine (cs b).mpr (Or.inr ⟨?_, rfl⟩)
    rw [en]
    exact w
theorem ps_f (hD : mOK D) (ho : zRL old) (h : psI D t P i e old now) (i0 : 0 ≤ i) (i1 : i < D 0 3) : psI D t P (i + 1) e old (cry now (src t (D 5 i) (D 6 i)) (src t (D 6 i) (D 5 i))) := by
  have s := src_f hD (t := t) i0 i1
  obtain ⟨⟨a1, a2, a3, a4, a5⟩, a6⟩ := ps_cry hD ho h s.1 s.2 (fun C c x => c.1 i i0 i1 x)
  refine ⟨a1, a2, a3, a4, fun z => ?_, a5⟩
  obtain ⟨b1, b2⟩ := a6 z
  obtain ⟨c1, c2⟩ := h.2.2.2.2.1 b1
  refine ⟨fun j x y w => ?_, c2⟩
  by_cases v : j = i
  · rw [v] at w ⊢
    exact b2 w
  · exact c1 j x (by omega) w
theorem ps_e (hD : mOK D) (ho : zRL old) (h : psI D t P i e old now) (e0 : 0 ≤ e) (e1 : e < D 0 2) (hf : fil D e) : psI D t P i (e + 1) old (cry now (src t (D 1 e) (D 2 e)) (src t (D 2 e) (D 1 e))) := by
  have s := src_e hD (t := t) e0 e1
  obtain ⟨⟨a1, a2, a3, a4, a5⟩, a6⟩ := ps_cry hD ho h s.1 s.2 (fun C c x => c.2 e e0 e1 hf x)
  refine ⟨a1, a2, a3, a4, fun z => ?_, a5⟩
  obtain ⟨b1, b2⟩ := a6 z
  obtain ⟨c1, c2⟩ := h.2.2.2.2.1 b1
  refine ⟨c1, fun j x y f w => ?_⟩
  by_cases v : j = e
  · rw [v] at w ⊢
    exact b2 w
  · exact c2 j x (by omega) f w
theorem ps_n (h : psI D t P i e old now) (hf : ¬ fil D e) : psI D t P i (e + 1) old now := by
  obtain ⟨p1, p2, p3, p4, p5, p6⟩ := h
  refine ⟨p1, p2, p3, p4, fun z => ?_, p6⟩
  obtain ⟨c1, c2⟩ := p5 z
  refine ⟨c1, fun j x y f w => ?_⟩
  by_cases v : j = e
  · rw [v] at f
    exact absurd f hf
  · exact c2 j x (by omega) f w
theorem ps_0 (ho : zRL old) (h1 : ∀ q, tS old q → dRe D t P q) (h2 : ∀ q, tS old q → q < D 0 0) : psI D t P 0 0 old old := ⟨ho, fun _ z => z, h1, h2, fun _ => ⟨fun j x y => absurd y (by omega), fun j x y => absurd y (by omega)⟩, fun _ => rfl⟩
end PS
theorem zpop_le {x n : Int} (h0 : 0 ≤ n) (hx : ∀ q, tS x q → q < n) (hn : n ≤ 64) : zpop x ≤ n := by
  have tail : ∀ k : Nat, n.toNat ≤ k → k ≤ 64 → zsum (fun j => if tb x j = true then 1 else 0) k = zsum (fun j => if tb x j = true then 1 else 0) n.toNat := by
    intro k
    induction k with
    | zero =>
      intro a _
      rw [show n.toNat = 0 by omega]
    | succ k ih =>
      intro a b
      by_cases z : n.toNat = k + 1
      · rw [z]
      · show zsum (fun j => if tb x j = true then 1 else 0) k + (if tb x (k : Int) = true then 1 else 0) = _
        rw [ih (by omega) (by omega), if_neg (fun w => by have := hx k ⟨by omega, by omega, w⟩; omega), Int.add_zero]
  have a := tail 64 (by omega) (by omega)
  have b := zsum_01 (f := fun j => if tb x j = true then 1 else 0) (n := n.toNat) (fun j _ _ => by
    by_cases c : tb x j = true
    · show 0 ≤ (if tb x j = true then (1 : Int) else 0) ∧ (if tb x j = true then (1 : Int) else 0) ≤ 1
      rw [if_pos c]
      decide
    · show 0 ≤ (if tb x j = true then (1 : Int) else 0) ∧ (if tb x j = true then (1 : Int) else 0) ≤ 1
      rw [if_neg c]
      decide)
  unfold zpop
  rw [a]
  omega
theorem zpop_pos {x q : Int} (h : tS x q) : 0 < zpop x := by
  have a := zsum_lt (f := fun _ => 0) (g := fun k => if tb x k = true then 1 else 0) (n := 64) (fun i _ _ => by
    by_cases c : tb x i = true
    · show (0 : Int) ≤ (if tb x i = true then 1 else 0)
      rw [if_pos c]
      decide
    · show (0 : Int) ≤ (if tb x i = true then 1 else 0)
      rw [if_neg c]
      decide) h.1 h.2.1 (by
    show (0 : Int) < (if tb x q = true then 1 else 0)
    rw [if_pos h.2.2]
    decide)
  rw [zsum_0 64 (fun _ _ _ => rfl)] at a
  exact a
section DD
variable {G : zG} {d : Nat} {h D : zH}
theorem sp_carry {K : Int → zH → Prop} {x a b : Int} {t : Bool} (ha : 0 ≤ a ∧ a < 64) (hb : 0 ≤ b ∧ b < 64) (k : K (cry x (src t a b) (src t b a)) h) : zCl G d mX4_carry [vl x, vi a, vi b, vi (bi t)] h K := by
  refine eX4_carry (bX4_carry_0 ⟨fun e => ⟨fun _ => ?_, fun z => absurd (e.symm.trans z) (by decide)⟩, fun e => ⟨fun z => absurd (e.symm.trans z) (by decide), fun _ => ?_⟩⟩)
  · subst e
    have k2 : K (cry x a b) h := k
    unfold cry at k2
    rw [zbit_u ha.1 ha.2]
    exact ⟨fun z => by rwa [if_neg z] at k2, fun z => by rwa [if_pos z] at k2⟩
  · subst e
    have k2 : K (cry x b a) h := k
    unfold cry at k2
    rw [zbit_u hb.1 hb.2]
    exact ⟨fun z => by rwa [if_neg z] at k2, fun z => by rwa [if_pos z] at k2⟩
theorem sm_oneMore {K : Int → zH → Prop} {x a b : Int} {t : Bool} (ha : 0 ≤ a ∧ a < 64) (hb : 0 ≤ b ∧ b < 64) (k : K (cry x (src t a b) (src t b a)) h) : zCl G (d + 1) mX12_oneMore [vl x, vi a, vi b, vi (bi t)] h K := by
  refine eX12_oneMore (bX12_oneMore_0 ⟨fun e => sm_bit ha ?_, fun e => sm_bit hb ?_⟩)
  · subst e
    have k2 : K (cry x a b) h := k
    unfold cry at k2
    exact ⟨fun z => by rwa [if_neg (by rw [z]; decide)] at k2, fun z => by rwa [if_pos z] at k2⟩
  · subst e
    have k2 : K (cry x b a) h := k
    unfold cry at k2
    exact ⟨fun z => by rwa [if_neg (by rw [z]; decide)] at k2, fun z => by rwa [if_pos z] at k2⟩
theorem lor_0 {x y : Int} (hx : zRL x) (hy : zRL y) : zcmp (zlor x y) 0 = 0 ↔ x = 0 ∧ y = 0 := by
  rw [(zcmp_lt (zlor_R _ _) zRL_0).2.1, zero_iff (zlor_R _ _), zero_iff hx, zero_iff hy]
  constructor
  · intro no
    exact ⟨fun q z => no q (tS_lor.mpr (Or.inl z)), fun q z => no q (tS_lor.mpr (Or.inr z))⟩
  · rintro ⟨a, b⟩ q z
    rcases tS_lor.mp z with w | w
    · exact a q w
    · exact b q w
theorem sp_edgeIsFilled {K : Bool → zH → Prop} {m e : Int} (hD : mOK D) (hr : cRep h m D) (he : 0 ≤ e ∧ e < D 0 2) (k : ∀ b : Bool, (b = true ↔ fil D e) → K b h) : zCb G d mX4_edgeIsFilled [vr 4 m, vi e] h K := by
  have hE := mO_ed hD
  have oe := mO_e hD he.1 he.2
  obtain ⟨-, -, r3, r4⟩ := hr.2.1 e he.1 he.2
  refine eX4_edgeIsFilled (bX4_edgeIsFilled_0 ?_)
  rw [r3, r4, lor_0 oe.2.2.1.1 oe.2.2.1.2]
  exact ⟨⟨by omega, by omega⟩, ⟨by omega, by omega⟩, fun z => k false ⟨fun w => (by cases w), fun w => absurd z w⟩, fun z => k true ⟨fun _ => z, fun _ => rfl⟩⟩
theorem sp_spread {K : Int → zH → Prop} {m some_ : Int} {t : Bool} (hD : mOK D) (hr : cRep h m D) (hs : zRL some_) (hb : ∀ q, tS some_ q → q < D 0 0) (k : ∀ y, lp y (dRe D t (tS some_)) → K y h) : zCl G (d + 1) mX4_spread [vr 4 m, vl some_, vi (bi t)] h K := by
  have hS := mO_st hD
  have hF := mO_fr hD
  have hE := mO_ed hD
  have l6 : ∀ (f n : Nat) (now : Int), (n : Int) + f = D 0 0 → zRL now → (∀ q, tS some_ q → tS now q) → (∀ q, tS now q → dRe D t (tS some_) q) → (∀ q, tS now q → q < D 0 0) → (clo D t (tS now) ∨ zpop some_ + n ≤ zpop now) → tX4_spread_6 G d K m t now n h := by
    intro f
    induction f with
    | zero =>
      intro n now hn rn s1 s2 s3 cl
      have cl2 : clo D t (tS now) := by
        rcases cl with z | z
        · exact z
        · have a := zpop_le (by omega) s3 (by omega)
          by_cases w : ∃ q, tS some_ q
          · obtain ⟨q, w⟩ := w
            have := zpop_pos w
            omega
          · refine ⟨fun i _ _ y => ?_, fun e _ _ _ y => ?_⟩
            · exfalso
              have em : ∀ q, ¬ tS now q := fun q y => s2 q y (fun _ => False) (fun p y2 => w ⟨p, y2⟩) ⟨fun _ _ _ y => y, fun _ _ _ _ y => y⟩
              exact em _ y
            · exfalso
              have em : ∀ q, ¬ tS now q := fun q y => s2 q y (fun _ => False) (fun p y2 => w ⟨p, y2⟩) ⟨fun _ _ _ y => y, fun _ _ _ _ y => y⟩
              exact em _ y
      refine bX4_spread_6 ?_
      rw [hr.1.1]
      exact ⟨⟨by omega, by omega⟩, ⟨by omega, by omega⟩, fun _ => k now ⟨rn, fun q => ⟨s2 q, fun z => z (tS now) s1 cl2⟩⟩, fun z => absurd z (by omega)⟩
    | succ f ih =>
      intro n now hn rn s1 s2 s3 cl
      have l58 : ∀ (f2 : Nat) (e x : Int), 0 ≤ e → e + f2 = D 0 2 → psI D t (tS some_) (D 0 3) e now x → tX4_spread_58 G d K m t x n e h := by
        intro f2
        induction f2 with
        | zero =>
          intro e x e0 ef ps
          have ee : e = D 0 2 := by omega
          subst ee
          refine bX4_spread_58 ?_
          rw [hr.1.2.2.1]
          refine ⟨⟨by omega, by omega⟩, ⟨by omega, by omega⟩, fun _ => ?_, fun z => absurd (Int.le_refl _) z⟩
          obtain ⟨p1, p2, p3, p4, p5, p6⟩ := ps
          have := ih (n + 1) x (by omega) p1 (fun q z => p2 q (s1 q z)) p3 p4 ?_
          · rw [show ((n + 1 : Nat) : Int) = (n : Int) + 1 by omega] at this
            exact this
          · by_cases z : x = now
            · obtain ⟨c1, c2⟩ := p5 z
              refine Or.inl ?_
              rw [z]
              exact ⟨fun i a b => c1 i a b, fun e a b f => c2 e a b f⟩
            · refine Or.inr ?_
              have lt := zpop_lt rn p1 p2 (fun w => z w.symm)
              rcases cl with w | w
              · exact absurd (p6 w) z
              · omega
        | succ f2 ih2 =>
          intro e x e0 ef ps
          have oe := mO_e hD e0 (show e < D 0 2 by omega)
          obtain ⟨r1, r2, -, -⟩ := hr.2.1 e e0 (by omega)
          refine bX4_spread_58 ?_
          rw [hr.1.2.2.1]
          refine ⟨⟨by omega, by omega⟩, ⟨by omega, by omega⟩, fun z => absurd z (by omega), fun _ => sp_edgeIsFilled hD hr ⟨e0, by omega⟩ (fun b hb2 => ⟨fun z => ih2 (e + 1) x (by omega) (by omega) (ps_n ps (fun w => by have := hb2.mpr w; rw [z] at this; cases this)), fun z => ⟨by omega, by omega, ?_⟩⟩)⟩
          rw [r1, r2]
          exact sp_carry (by omega) (by omega) (ih2 (e + 1) _ (by omega) (by omega) (ps_e hD rn ps e0 (by omega) (hb2.mp z)))
      have l18 : ∀ (f2 : Nat) (i x : Int), 0 ≤ i → i + f2 = D 0 3 → psI D t (tS some_) i 0 now x → tX4_spread_18 G d K m t x n i h := by
        intro f2
        induction f2 with
        | zero =>
          intro i x i0 jf ps
          have ei : i = D 0 3 := by omega
          subst ei
          refine bX4_spread_18 ?_
          rw [hr.1.2.2.2.1]
          exact ⟨⟨by omega, by omega⟩, ⟨by omega, by omega⟩, fun _ => l58 (D 0 2).toNat 0 x (by omega) (by omega) ps, fun z => absurd (Int.le_refl _) z⟩
        | succ f2 ih2 =>
          intro i x i0 jf ps
          have oi := mO_f hD i0 (show i < D 0 3 by omega)
          obtain ⟨r1, r2⟩ := hr.2.2.1 i i0 (by omega)
          refine bX4_spread_18 ?_
          rw [hr.1.2.2.2.1, r1, r2]
          exact ⟨⟨by omega, by omega⟩, ⟨by omega, by omega⟩, fun z => absurd z (by omega), fun _ => ⟨by omega, by omega, sp_carry (by omega) (by omega) (ih2 (i + 1) _ (by omega) (by omega) (ps_f hD rn ps i0 (by omega)))⟩⟩
      refine bX4_spread_6 ?_
      rw [hr.1.1]
      exact ⟨⟨by omega, by omega⟩, ⟨by omega, by omega⟩, fun z => absurd z (by omega), fun _ => l18 (D 0 3).toNat 0 now (by omega) (by omega) (ps_0 rn s2 s3)⟩
  exact eX4_spread (bX4_spread_0 (l6 (D 0 0).toNat 0 some_ (by omega) hs (fun _ z => z) (fun q z C c1 _ => c1 q z) hb (Or.inr (by omega))))
theorem sm_reached {K : Int → zH → Prop} {i some_ : Int} {t : Bool} (hD : mOK D) (hi : 0 ≤ i ∧ i < 14) (hr : mRep h i D) (hs : zRL some_) (hb : ∀ q, tS some_ q → q < D 0 0) (k : ∀ y, lp y (dRe D t (tS some_)) → K y h) : zCl G (d + 2) mX12_reached [vr 12 466, vi i, vl some_, vi (bi t)] h K := by
  have hS := mO_st hD
  have hF := mO_fr hD
  have hE := mO_ed hD
  have l6 : ∀ (f : Nat) (now : Int), 64 - zpop now ≤ f → zRL now → (∀ q, tS some_ q → tS now q) → (∀ q, tS now q → dRe D t (tS some_) q) → (∀ q, tS now q → q < D 0 0) → tX12_reached_6 G (d + 1) K i t now 1 h := by
    intro f
    induction f with
    | zero =>
      intro now hf rn s1 s2 s3
      have := zpop_le (by omega) s3 (by omega)
      omega
    | succ f ih =>
      intro now hf rn s1 s2 s3
      have l98 : ∀ (f2 : Nat) (j x : Int), 0 ≤ j → j + f2 = D 0 3 → psI D t (tS some_) j (D 0 2) now x → tX12_reached_98 G (d + 1) K i t x now (i * 64 + j) h := by
        intro f2
        induction f2 with
        | zero =>
          intro j x j0 jf ps
          have ej : j = D 0 3 := by omega
          subst ej
          obtain ⟨p1, p2, p3, p4, p5, p6⟩ := ps
          refine bX12_reached_98 ⟨hi, ?_⟩
          rw [hr.1.2.2.2.1, (zcmp_lt rn p1).2.1]
          refine ⟨⟨by omega, by omega⟩, ⟨by omega, by omega⟩, fun _ => ⟨fun z => bX12_reached_6 ⟨⟨by decide, by decide⟩, fun _ => ?_, fun w => absurd rfl w⟩, fun z => ?_⟩, fun z => absurd (Int.le_refl _) z⟩
          · subst z
            obtain ⟨c1, c2⟩ := p5 rfl
            exact k now ⟨rn, fun q => ⟨s2 q, fun w => w (tS now) s1 ⟨fun j a b => c1 j a b, fun e a b f => c2 e a b f⟩⟩⟩
          · have lt := zpop_lt rn p1 p2 z
            exact ih x (by omega) p1 (fun q w => p2 q (s1 q w)) p3 p4
        | succ f2 ih2 =>
          intro j x j0 jf ps
          have oi := mO_f hD j0 (show j < D 0 3 by omega)
          obtain ⟨r1, r2⟩ := hr.2.2.1 j j0 (by omega)
          refine bX12_reached_98 ⟨hi, ?_⟩
          rw [hr.1.2.2.2.1, r1, r2]
          refine ⟨⟨by omega, by omega⟩, ⟨by omega, by omega⟩, fun z => absurd z (by omega), fun _ => ⟨⟨by omega, by omega⟩, ⟨by omega, by omega⟩, sm_oneMore (by omega) (by omega) ?_⟩⟩
          rw [Int.add_assoc]
          exact ih2 (j + 1) _ (by omega) (by omega) (ps_f hD rn ps j0 (by omega))
      have l22 : ∀ (f2 : Nat) (e x : Int), 0 ≤ e → e + f2 = D 0 2 → psI D t (tS some_) 0 e now x → tX12_reached_22 G (d + 1) K i t x now (i * 160 + e) h := by
        intro f2
        induction f2 with
        | zero =>
          intro e x e0 ef ps
          have ee : e = D 0 2 := by omega
          subst ee
          refine bX12_reached_22 ⟨hi, ?_⟩
          rw [hr.1.2.2.1]
          refine ⟨⟨by omega, by omega⟩, ⟨by omega, by omega⟩, fun _ => ?_, fun z => absurd (Int.le_refl _) z⟩
          have := l98 (D 0 3).toNat 0 x (by omega) (by omega) ps
          rwa [Int.add_zero] at this
        | succ f2 ih2 =>
          intro e x e0 ef ps
          have oe := mO_e hD e0 (show e < D 0 2 by omega)
          obtain ⟨r1, r2, r3, r4⟩ := hr.2.1 e e0 (by omega)
          have yes : fil D e → ((0 : Int) ≤ i * 160 + e ∧ i * 160 + e < 2240) ∧ ((0 : Int) ≤ i * 160 + e ∧ i * 160 + e < 2240) ∧ zCl G (d + 1) mX12_oneMore [vl x, vi (D 1 e), vi (D 2 e), vi (bi t)] h (fun x1 h2 => tX12_reached_22 G (d + 1) K i t x1 now (i * 160 + e + 1) h2) := fun hf => ⟨⟨by omega, by omega⟩, ⟨by omega, by omega⟩, sm_oneMore (by omega) (by omega) (by
            rw [Int.add_assoc]
            exact ih2 (e + 1) _ (by omega) (by omega) (ps_e hD rn ps e0 (by omega) hf))⟩
          refine bX12_reached_22 ⟨hi, ?_⟩
          rw [hr.1.2.2.1, r1, r2, r3, r4, (zcmp_lt oe.2.2.1.1 zRL_0).2.1, (zcmp_lt oe.2.2.1.2 zRL_0).2.1]
          refine ⟨⟨by omega, by omega⟩, ⟨by omega, by omega⟩, fun z => absurd z (by omega), fun _ => ⟨⟨by omega, by omega⟩, fun z => yes (fun w => z w.1), fun z => ⟨⟨by omega, by omega⟩, fun y => ?_, fun y => yes (fun w => y w.2)⟩⟩⟩
          rw [Int.add_assoc]
          exact ih2 (e + 1) x (by omega) (by omega) (ps_n ps (fun w => w ⟨z, y⟩))
      refine bX12_reached_6 ⟨⟨by decide, by decide⟩, fun z => absurd z (by decide), fun _ => ?_⟩
      have := l22 (D 0 2).toNat 0 now (by omega) (by omega) (ps_0 rn s2 s3)
      rwa [Int.add_zero] at this
  exact eX12_reached (bX12_reached_0 (l6 64 some_ (by have := zpop_01 some_; omega) hs (fun _ z => z) (fun q z C c1 _ => c1 q z) hb))
end DD
section DE
variable {G : zG} {d : Nat} {h : zH}
theorem c_useless {m : Int} (hI : Inv h) (hm : zR m) : twL G (d + 7) mX11_useless mX12_useless [vi m] h := by
  have b0 : ∀ w, bK h (zup (zup h 0 14 w) 466 0 0) := fun w => bK_w (fun _ _ => rfl) rfl
  refine eX11_useless (bX11_useless_0 (q_mach hI hm (fun q => ⟨fun _ => ?_, fun z => (by cases z)⟩) (fun q => ⟨fun z => (by cases z), fun _ => sp_refused ⟨zR_m1, eX12_useless (bX12_useless_0 (q_machM hI rfl hm (fun z => absurd z q) (fun _ => ⟨fun z => (by cases z), fun _ => sm_refused ⟨zR_m1, ⟨by decide, by decide⟩, rfl, Inv_w hI (by omega)⟩⟩)))⟩⟩)))
  obtain ⟨m10, mc, o1, o2, o3, o4⟩ := iM_d hI q.1 q.2
  have hS := mO_st o1
  have en := mO_en o1
  have r1 : ∀ q, tS 1 q → q < dOf h m 0 0 := fun q z => by
    have := tS_1.mp z
    omega
  have r2 : ∀ q, tS (dOf h m 0 1) q → q < dOf h m 0 0 := fun q z => by
    rcases Int.lt_or_le q (dOf h m 0 0) with w | w
    · exact w
    · have := en.2 q w z.2.1
      have z3 := z.2.2
      rw [this] at z3
      cases z3
  refine ⟨m10, eX4_uselessStates (bX4_uselessStates_0 (sp_spread o1 o2 zRL_1 r1 (fun y1 h1 => ?_)))⟩
  rw [o2.1.2.1]
  refine sp_spread o1 o2 en.1 r2 (fun y2 h2 => sp_grantedLong ?_)
  have hr := mRep_b (b0 0) o3
  refine eX12_useless (bX12_useless_0 (q_machM hI rfl hm (fun _ => ⟨fun _ => ⟨by omega, sm_reached o1 (by omega) hr zRL_1 r1 (fun z1 g1 => ⟨by omega, ?_⟩)⟩, fun z => (by cases z)⟩) (fun z => absurd q z)))
  rw [hr.1.2.1]
  refine sm_reached o1 (by omega) hr en.1 r2 (fun z2 g2 => sm_goodLong ⟨zland_R _ _, ?_, Inv_w hI (by omega)⟩)
  rw [lp_eq h1 g1, lp_eq h2 g2, o2.1.1, hr.1.1]
end DE
