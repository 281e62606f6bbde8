/-! ===== the model's sheaves ===== -/
/-- the place where sheaves become too many -/
def gFail (D : zH) (n : Int) (B : Int → Int) (K0 : Int) : Prop := n = 40 ∧ ∃ s1 b1, (0 ≤ s1 ∧ s1 < 40) ∧ (0 ≤ b1 ∧ b1 < D 0 4) ∧ K0 = s1 * 128 + b1 ∧ ∀ t, 0 ≤ t → t < 40 → ¬ lp (B t) (dSt D (tS (B s1)) b1)
section ST
variable {G : zG} {d : Nat} {h D : zH}
theorem sm_gathers {K : Bool → zH → Prop} {i bank n K0 : Int} {B T Pa Vi De : Int → Int} (hD : mOK D) (hi : 0 ≤ i ∧ i < 14) (hr : mRep h i D) (hbk : bank = 0 ∨ bank = 1) (hb : bfs D n B T Pa Vi De K0)
    (hc : K0 = n * 128 ∨ gFail D n B K0)
    (k1 : K0 = n * 128 → ∀ h' : zH, mFr bank h h' → mGt D h' bank n B T Pa Vi → K true h')
    (k2 : ¬ K0 = n * 128 → ∀ h' : zH, mFr bank h h' → K false h') : zCb G (d + 3) mX12_gathers [vr 12 466, vi i, vi bank] h K := by
  have hB := mO_bl hD
  have hbb := hb
  obtain ⟨b1, b2, b3, b4, b5, b6, b7⟩ := hb
  have mr : ∀ h1 : zH, mFr bank h h1 → mRep h1 i D := fun h1 e => mRep_fr (fun a a0 a1 => e.1 a (by omega)) hr
  have l30 : ∀ (f : Nat) (c s : Int) (h1 : zH), 0 ≤ s → s + f = n → s ≤ c → 1 ≤ c ∧ c ≤ n → s * 128 ≤ K0 → mFr bank h h1 → (∀ t, 0 < t → t < n → (Pa t * 128 + Vi t < s * 128 ↔ t < c)) → (∀ t, 0 ≤ t → t < c → h1 505 (bank * 40 + t) = B t ∧ h1 508 (bank * 40 + t) = Pa t) → (∀ t, 0 < t → t < c → h1 509 (bank * 40 + t) = D 7 (Vi t)) → (∀ s' b, 0 ≤ s' → s' < n → 0 ≤ b → b < D 0 4 → s' * 128 + b < s * 128 → h1 507 ((bank * 40 + s') * 128 + b) = T (s' * 128 + b)) → tX12_gathers_30 G (d + 2) K i bank (bank * 40) c s h1 := by
    intro f
    induction f with
    | zero =>
      intro c s h1 s0 sf sc c1 sk g1 g2 g3 g4 g5
      have e1 : c = n := by omega
      have e2 : s = n := by omega
      subst e1 e2
      have hK : K0 = s * 128 := by
        rcases hc with q | ⟨q1, s1, b1', q2, q3, q4, -⟩
        · exact q
        · omega
      refine bX12_gathers_30 ⟨⟨by omega, by omega⟩, ⟨by omega, by omega⟩, fun _ => ⟨by omega, k1 hK _ ?_ ?_⟩, fun q => absurd q (by omega)⟩
      · refine ⟨fun a q => by rw [zup_ne (by omega), g1.1 a q], fun j q => ?_, fun j q => by rw [zup_ns q, g1.2.2.1 j q], fun j q => ?_⟩
        · rw [zup_ne (by decide), zup_ne (by decide), zup_ne (by decide)]
          exact g1.2.1 j q
        · rw [zup_ne (by decide)]
          exact g1.2.2.2 j q
      · refine ⟨zup_eq, fun t a b => ?_, fun s' b a1 a2 a3 a4 => ?_, fun t a b => ?_, fun t a b => ?_⟩
        · rw [zup_ne (by decide)]
          exact (g3 t a b).1
        · rw [zup_ne (by decide)]
          exact g5 s' b a1 a2 a3 a4 (by omega)
        · rw [zup_ne (by decide)]
          exact (g3 t a b).2
        · rw [zup_ne (by decide)]
          exact g4 t a b
    | succ f ih =>
      intro c s h1 s0 sf sc c1 sk g1 g2 g3 g4 g5
      have slt : s < c := by
        rcases Int.lt_or_le s c with q | q
        · exact q
        · have e : s = c := by omega
          subst e
          have p1 := b6 s (by omega) (by omega)
          have := (g2 s (by omega) (by omega)).mp (by omega)
          omega
      have l40 : ∀ (f : Nat) (c b : Int) (h2 : zH), 0 ≤ b → b + f = D 0 4 → s < c → 1 ≤ c ∧ c ≤ n → s * 128 + b ≤ K0 → mFr bank h h2 → (∀ t, 0 < t → t < n → (Pa t * 128 + Vi t < s * 128 + b ↔ t < c)) → (∀ t, 0 ≤ t → t < c → h2 505 (bank * 40 + t) = B t ∧ h2 508 (bank * 40 + t) = Pa t) → (∀ t, 0 < t → t < c → h2 509 (bank * 40 + t) = D 7 (Vi t)) → (∀ s' b', 0 ≤ s' → s' < n → 0 ≤ b' → b' < D 0 4 → s' * 128 + b' < s * 128 + b → h2 507 ((bank * 40 + s') * 128 + b') = T (s' * 128 + b')) → tX12_gathers_40 G (d + 2) K i bank (bank * 40) c s b h2 := by
        intro f2
        induction f2 with
        | zero =>
          intro c b h2 b0 bf sc c1 sk g1 g2 g3 g4 g5
          have eb : b = D 0 4 := by omega
          subst eb
          refine bX12_gathers_40 ⟨hi, ?_⟩
          rw [(mr h2 g1).1.2.2.2.2]
          have sk2 : (s + 1) * 128 ≤ K0 := by
            rcases hc with q | ⟨q1, s1, b1', q2, q3, q4, -⟩
            · omega
            · omega
          refine ⟨⟨by omega, by omega⟩, ⟨by omega, by omega⟩, fun _ => ih c (s + 1) h2 (by omega) (by omega) (by omega) c1 sk2 g1 (fun t t0 t1 => ?_) g3 g4 (fun s' b' a1 a2 a3 a4 a5 => g5 s' b' a1 a2 a3 a4 (by omega)), fun q => absurd q (by omega)⟩
          rw [← g2 t t0 t1]
          have := (b6 t t0 t1).2.1
          constructor <;> intro q <;> omega
        | succ f2 ih2 =>
          intro c b h2 b0 bf sc c1 sk g1 g2 g3 g4 g5
          have hr2 := mr h2 g1
          refine bX12_gathers_40 ⟨hi, ?_⟩
          rw [hr2.1.2.2.2.2, (g3 s s0 sc).1]
          refine ⟨⟨by omega, by omega⟩, ⟨by omega, by omega⟩, fun q => absurd q (by omega), fun _ => ⟨by omega, ?_⟩⟩
          refine sm_stepped hD hi hr2 (b3 s s0 (by omega)) ⟨b0, by omega⟩ (fun y hy => ?_)
          by_cases lt : s * 128 + b < K0
          · obtain ⟨t1, t2, -⟩ := b5 s b s0 (by omega) b0 (by omega) lt
            have nx := bfs_next hD hbb ⟨s0, by omega⟩ ⟨b0, by omega⟩ lt c1 g2
            have hyb : y = B (T (s * 128 + b)) := lp_eq hy t2
            obtain ⟨t, et⟩ : ∃ t, t = T (s * 128 + b) := ⟨_, rfl⟩
            rw [← et] at t1 t2 nx hyb
            have inj : ∀ s', 0 ≤ s' → s' < c → h2 505 (bank * 40 + s') = y → s' = t := fun s' a b e => by
              rw [(g3 s' a b).1, hyb] at e
              rcases Int.lt_trichotomy s' t with q | q | q
              · exact absurd e (b4 s' t a q t1.2)
              · exact q
              · exact absurd e.symm (b4 t s' t1.1 q (by omega))
            have fr1 : ∀ (h3 : zH) (x : Int), mFr bank h h3 → mFr bank h (zup h3 507 ((bank * 40 + s) * 128 + b) x) := fun h3 x e => by
              refine ⟨fun a q => by rw [zup_ne (by omega), e.1 a q], fun j q => ?_, fun j q => ?_, fun j q => ?_⟩
              · rw [zup_ne (by decide), zup_ne (by decide), zup_ne (by decide)]
                exact e.2.1 j q
              · rw [zup_ne (by decide)]
                exact e.2.2.1 j q
              · rw [zup_ns (by omega)]
                exact e.2.2.2 j q
            have T5 : ∀ (h3 : zH), (∀ s' b', 0 ≤ s' → s' < n → 0 ≤ b' → b' < D 0 4 → s' * 128 + b' < s * 128 + b → h3 507 ((bank * 40 + s') * 128 + b') = T (s' * 128 + b')) → t = T (s * 128 + b) → (∀ s' b', 0 ≤ s' → s' < n → 0 ≤ b' → b' < D 0 4 → s' * 128 + b' < s * 128 + (b + 1) → (zup h3 507 ((bank * 40 + s) * 128 + b) t) 507 ((bank * 40 + s') * 128 + b') = T (s' * 128 + b')) := fun h3 e et s' b' a1 a2 a3 a4 a5 => by
              by_cases q : s' * 128 + b' = s * 128 + b
              · rw [show (bank * 40 + s') * 128 + b' = (bank * 40 + s) * 128 + b by omega, zup_eq, et, q]
              · rw [zup_ns (by omega)]
                exact e s' b' a1 a2 a3 a4 (by omega)
            refine sm_sheafIn (by omega) (by omega) hy.1 (fun s' a b => by rw [(g3 s' a b).1]; exact b3 s' a (by omega)) (fun s' a0 a1 e => ?_) (fun no => ?_)
            · have es := inj s' a0 a1 e
              subst es
              refine ⟨⟨by omega, by omega⟩, fun _ => ⟨⟨by omega, by omega⟩, ⟨by omega, by omega⟩, fun _ => ⟨⟨by omega, by omega⟩, ?_⟩, fun q => absurd q (by omega)⟩, fun q => absurd q (by omega)⟩
              refine ih2 c (b + 1) _ (by omega) (by omega) sc c1 (by omega) (fr1 h2 _ g1) (fun t t0 t1 => ?_) (fun t t0 t1 => ?_) (fun t t0 t1 => ?_) (T5 h2 g5 et)
              · rw [← g2 t t0 t1]
                constructor
                · intro q
                  rcases Int.lt_or_le (Pa t * 128 + Vi t) (s * 128 + b) with z | z
                  · exact z
                  · exfalso
                    have z2 := b6 t t0 t1
                    have z3 : Pa t * 128 + Vi t = s * 128 + b := by omega
                    have z4 := z2.2.2.2.1
                    rw [z3, ← et] at z4
                    have := (g2 t t0 t1).mpr (by omega)
                    omega
                · intro q
                  omega
              · rw [zup_ne (by decide), zup_ne (by decide)]
                exact g3 t t0 t1
              · rw [zup_ne (by decide)]
                exact g4 t t0 t1
            · have tc : t = c ∧ Pa c = s ∧ Vi c = b := by
                rcases nx with q | q
                · exfalso
                  refine no t t1.1 q ?_
                  rw [(g3 t t1.1 q).1, hyb]
                · exact q
              obtain ⟨tc, pc, vc⟩ := tc
              subst tc
              refine ⟨⟨by omega, by omega⟩, fun _ => ⟨⟨by omega, by omega⟩, ⟨by omega, by omega⟩, fun q => absurd rfl q, fun _ => ⟨by omega, by omega, ⟨by omega, by omega⟩, by omega, ⟨by omega, by omega⟩, ?_⟩⟩, fun q => absurd q (by omega)⟩
              have r7 := hr2.2.2.2 b b0 (by omega)
              rw [r7]
              refine ih2 (t + 1) (b + 1) _ (by omega) (by omega) (by omega) (by omega) (by omega) (fr1 _ _ ?_) (fun u u0 u1 => ?_) (fun u u0 u1 => ?_) (fun u u0 u1 => ?_) (T5 _ (fun s' b' a1 a2 a3 a4 a5 => ?_) et)
              · refine ⟨fun a q => by rw [zup_ne (by omega), zup_ne (by omega), zup_ne (by omega), g1.1 a q], fun j q => ?_, fun j q => ?_, fun j q => ?_⟩
                · rw [zup_ns (by omega), zup_ns (by omega), zup_ns (by omega), zup_ns (by omega), zup_ns (by omega), zup_ns (by omega), zup_ns (by omega), zup_ns (by omega), zup_ns (by omega)]
                  exact g1.2.1 j q
                · rw [zup_ne (by decide), zup_ne (by decide), zup_ne (by decide)]
                  exact g1.2.2.1 j q
                · rw [zup_ne (by decide), zup_ne (by decide), zup_ne (by decide)]
                  exact g1.2.2.2 j q
              · have g2u := g2 u u0 u1
                constructor
                · intro q
                  by_cases z : u < t
                  · omega
                  · by_cases z2 : u = t
                    · omega
                    · have := b7 t u (by omega) (by omega) u1
                      omega
                · intro q
                  by_cases z : u = t
                  · rw [z, pc, vc]
                    omega
                  · have := g2u.mpr (by omega)
                    omega
              · by_cases z : u = t
                · rw [z]
                  refine ⟨?_, ?_⟩
                  · rw [zup_ne (by decide), zup_ne (by decide), zup_ne (by decide), zup_eq, hyb]
                  · rw [zup_ne (by decide), zup_ne (by decide), zup_eq, pc]
                · rw [zup_ne (by decide), zup_ne (by decide), zup_ne (by decide), zup_ns (by omega), zup_ne (by decide), zup_ne (by decide), zup_ns (by omega), zup_ne (by decide)]
                  exact g3 u u0 (by omega)
              · by_cases z : u = t
                · rw [z, zup_ne (by decide), zup_eq, vc]
                · rw [zup_ne (by decide), zup_ns (by omega), zup_ne (by decide), zup_ne (by decide)]
                  exact g4 u u0 (by omega)
              · rw [zup_ne (by decide), zup_ne (by decide), zup_ne (by decide)]
                exact g5 s' b' a1 a2 a3 a4 a5
          · -- the place where the class fell
            have fell : n = 40 ∧ c = n ∧ ¬ K0 = n * 128 ∧ ∀ t, 0 ≤ t → t < 40 → ¬ lp (B t) (dSt D (tS (B s)) b) := by
              rcases hc with q | ⟨q1, s1, b1', q2, q3, q4, q5⟩
              · omega
              · have e1 : s1 = s := by omega
                have e2 : b1' = b := by omega
                subst e1 e2
                refine ⟨q1, ?_, by omega, q5⟩
                rcases Int.lt_or_le c n with z | z
                · have z1 := (b6 c (by omega) z).2.2.1
                  have := (g2 c (by omega) z).mp (by omega)
                  omega
                · omega
            obtain ⟨n40, cn, nK, nol⟩ := fell
            refine sm_sheafIn (by omega) (by omega) hy.1 (fun s' a b => by rw [(g3 s' a b).1]; exact b3 s' a (by omega)) (fun s' a0 a1 e => ?_) (fun _ => ?_)
            · exfalso
              rw [(g3 s' a0 a1).1] at e
              refine nol s' a0 (by omega) ?_
              rw [e]
              exact hy
            · exact ⟨⟨by omega, by omega⟩, fun q => absurd (by omega) q, fun _ => k2 nK h2 g1⟩
      refine bX12_gathers_30 ⟨⟨by omega, by omega⟩, ⟨by omega, by omega⟩, fun q => absurd q (by omega), fun _ => ?_⟩
      exact l40 (D 0 4).toNat c 0 h1 (by omega) (by omega) slt c1 (by omega) g1 (fun t t0 t1 => by rw [Int.add_zero]; exact g2 t t0 t1) g3 g4 (fun s' b' a1 a2 a3 a4 a5 => g5 s' b' a1 a2 a3 a4 (by omega))
  refine eX12_gathers (bX12_gathers_0 ?_)
  refine sm_freed hD hi hr zRL_1 (fun y hy => ⟨by omega, by omega, ?_⟩)
  have hy0 : y = B 0 := lp_eq (lp_iff hy (fun q => dClk_iff (fun p => tS_1))) b2.1
  refine l30 n.toNat 1 0 _ (by omega) (by omega) (by omega) (by omega) ?_ ?_ (fun t t0 t1 => ?_) (fun t t0 t1 => ?_) (fun t t0 t1 => absurd t1 (by omega)) (fun s' b' a1 a2 a3 a4 a5 => absurd a5 (by omega))
  · rcases hc with q | ⟨q1, s1, b1', q2, q3, q4, q5⟩
    · omega
    · omega
  · refine ⟨fun a q => by rw [zup_ne (by omega), zup_ne (by omega)], fun j q => ?_, fun j q => ?_, fun j q => ?_⟩
    · rw [zup_ns (by omega), zup_ns (by omega), zup_ns (by omega), zup_ns (by omega), zup_ns (by omega), zup_ns (by omega)]
      exact ⟨rfl, rfl, rfl⟩
    · rw [zup_ne (by decide), zup_ne (by decide)]
    · rw [zup_ne (by decide), zup_ne (by decide)]
  · have := b6 t t0 t1
    constructor
    · intro q
      omega
    · intro q
      omega
  · have : t = 0 := by omega
    subst this
    rw [Int.add_zero]
    refine ⟨?_, ?_⟩
    · rw [zup_ne (by decide), zup_eq, hy0]
    · rw [zup_eq, b2.2.1]
end ST
