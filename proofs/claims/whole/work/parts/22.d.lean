/-! ===== sheaves by first words ===== -/
def fup (f : Int → Int) (i x : Int) : Int → Int := fun j => if j = i then x else f j
theorem fup_eq {f : Int → Int} {i x : Int} : fup f i x i = x := by unfold fup; rw [if_pos rfl]
theorem fup_ne {f : Int → Int} {i x j : Int} (e : ¬ j = i) : fup f i x j = f j := by unfold fup; rw [if_neg e]
theorem zup_r {h : zH} {r i x : Int} : zup h r i x r = fup (h r) i x := by
  funext j
  unfold zup fup
  by_cases c : j = i
  · rw [if_pos c, if_pos ⟨rfl, c⟩]
  · rw [if_neg c, if_neg (fun q => c q.2)]
/-- n sheaves stand, their steps up to place k0 = 128 s + b are known -/
def bfs (D : zH) (n : Int) (B T Pa Vi De : Int → Int) (k0 : Int) : Prop :=
  (1 ≤ n ∧ n ≤ 40) ∧ (lp (B 0) (dCl D (fun q => q = 0)) ∧ Pa 0 = -1 ∧ Vi 0 = -1 ∧ De 0 = 0) ∧
  (∀ s, 0 ≤ s → s < n → zRL (B s)) ∧ (∀ s t, 0 ≤ s → s < t → t < n → ¬ B s = B t) ∧
  (∀ s b, 0 ≤ s → s < n → 0 ≤ b → b < D 0 4 → s * 128 + b < k0 → (0 ≤ T (s * 128 + b) ∧ T (s * 128 + b) < n) ∧ lp (B (T (s * 128 + b))) (dSt D (tS (B s)) b) ∧ (T (s * 128 + b) = 0 ∨ Pa (T (s * 128 + b)) * 128 + Vi (T (s * 128 + b)) ≤ s * 128 + b)) ∧
  (∀ t, 0 < t → t < n → (0 ≤ Pa t ∧ Pa t < t) ∧ (0 ≤ Vi t ∧ Vi t < D 0 4) ∧ Pa t * 128 + Vi t < k0 ∧ T (Pa t * 128 + Vi t) = t ∧ De t = De (Pa t) + 1) ∧
  (∀ t u, 0 < t → t < u → u < n → Pa t * 128 + Vi t < Pa u * 128 + Vi u)
section BF
variable {D : zH} {n k0 : Int} {B T Pa Vi De : Int → Int}
theorem bfs_skip (hD : mOK D) {s : Int} (h : bfs D n B T Pa Vi De (s * 128 + D 0 4)) : bfs D n B T Pa Vi De ((s + 1) * 128) := by
  have hB := mO_bl hD
  obtain ⟨a1, a2, a3, a4, a5, a6, a7⟩ := h
  refine ⟨a1, a2, a3, a4, fun s' b h0 h1 h2 h3 h4 => a5 s' b h0 h1 h2 h3 ?_, fun t h0 h1 => ?_, a7⟩
  · by_cases c : s' ≤ s
    · omega
    · omega
  · obtain ⟨c1, c2, c3, c4⟩ := a6 t h0 h1
    exact ⟨c1, c2, by omega, c4⟩
theorem bfs_old (hD : mOK D) {s b t : Int} (hs : 0 ≤ s ∧ s < n) (hb : 0 ≤ b ∧ b < D 0 4) (ht : 0 ≤ t ∧ t < n) (hl : lp (B t) (dSt D (tS (B s)) b)) (h : bfs D n B T Pa Vi De (s * 128 + b)) : bfs D n B (fup T (s * 128 + b) t) Pa Vi De (s * 128 + (b + 1)) := by
  have hB := mO_bl hD
  obtain ⟨a1, a2, a3, a4, a5, a6, a7⟩ := h
  refine ⟨a1, a2, a3, a4, fun s' b' h0 h1 h2 h3 h4 => ?_, fun u h0 h1 => ?_, a7⟩
  · by_cases c : s' * 128 + b' = s * 128 + b
    · rw [c, fup_eq]
      have e1 : s' = s := by omega
      have e2 : b' = b := by omega
      subst e1 e2
      refine ⟨ht, hl, ?_⟩
      by_cases z : t = 0
      · exact Or.inl z
      · have := (a6 t (by omega) ht.2).2.2.1
        exact Or.inr (by omega)
    · rw [fup_ne c]
      exact a5 s' b' h0 h1 h2 h3 (by omega)
  · obtain ⟨c1, c2, c3, c4⟩ := a6 u h0 h1
    refine ⟨c1, c2, by omega, ?_⟩
    rw [fup_ne (by omega)]
    exact c4
theorem bfs_new (hD : mOK D) {s b x : Int} (hn : n < 40) (hs : 0 ≤ s ∧ s < n) (hb : 0 ≤ b ∧ b < D 0 4) (hl : lp x (dSt D (tS (B s)) b)) (hx : ∀ t, 0 ≤ t → t < n → ¬ B t = x) (h : bfs D n B T Pa Vi De (s * 128 + b)) : bfs D (n + 1) (fup B n x) (fup T (s * 128 + b) n) (fup Pa n s) (fup Vi n b) (fup De n (De s + 1)) (s * 128 + (b + 1)) := by
  have hB := mO_bl hD
  obtain ⟨a1, ⟨p1, p2, p3, p4⟩, a3, a4, a5, a6, a7⟩ := h
  refine ⟨by omega, ?_, fun s' h0 h1 => ?_, fun s' t h0 h1 h2 => ?_, fun s' b' h0 h1 h2 h3 h4 => ?_, fun u h0 h1 => ?_, fun t u h0 h1 h2 => ?_⟩
  · rw [fup_ne (by omega), fup_ne (by omega), fup_ne (by omega), fup_ne (by omega)]
    exact ⟨p1, p2, p3, p4⟩
  · by_cases c : s' = n
    · rw [c, fup_eq]
      exact hl.1
    · rw [fup_ne c]
      exact a3 s' h0 (by omega)
  · rw [fup_ne (show ¬ s' = n by omega)]
    by_cases c : t = n
    · rw [c, fup_eq]
      exact hx s' h0 (by omega)
    · rw [fup_ne c]
      exact a4 s' t h0 h1 (by omega)
  · by_cases c : s' * 128 + b' = s * 128 + b
    · rw [c, fup_eq]
      have e1 : s' = s := by omega
      have e2 : b' = b := by omega
      subst e1 e2
      rw [fup_eq, fup_eq, fup_eq, fup_ne (show ¬ s' = n by omega)]
      exact ⟨by omega, hl, Or.inr (by omega)⟩
    · have lt : s' * 128 + b' < s * 128 + b := by omega
      have sn : s' < n := by omega
      rw [fup_ne c]
      obtain ⟨c1, c2, c3⟩ := a5 s' b' h0 sn h2 h3 lt
      rw [fup_ne (show ¬ T (s' * 128 + b') = n by omega), fup_ne (show ¬ s' = n by omega), fup_ne (show ¬ T (s' * 128 + b') = n by omega), fup_ne (show ¬ T (s' * 128 + b') = n by omega)]
      exact ⟨by omega, c2, c3⟩
  · by_cases c : u = n
    · subst c
      rw [fup_eq, fup_eq, fup_eq, fup_eq, fup_ne (show ¬ s = u by omega)]
      exact ⟨by omega, by omega, by omega, rfl, rfl⟩
    · obtain ⟨c1, c2, c3, c4, c5⟩ := a6 u h0 (by omega)
      rw [fup_ne c, fup_ne c, fup_ne c, fup_ne (show ¬ Pa u * 128 + Vi u = s * 128 + b by omega), fup_ne (show ¬ Pa u = n by omega)]
      exact ⟨c1, c2, by omega, c4, c5⟩
  · rw [fup_ne (show ¬ t = n by omega), fup_ne (show ¬ t = n by omega)]
    by_cases c : u = n
    · subst c
      rw [fup_eq, fup_eq]
      have := (a6 t h0 (by omega)).2.2.1
      omega
    · rw [fup_ne c, fup_ne c]
      exact a7 t u h0 h1 (by omega)
theorem bfs_0 {x : Int} (hx : lp x (dCl D (fun q => q = 0))) (h0 : B 0 = x) (h1 : Pa 0 = -1) (h2 : Vi 0 = -1) (h3 : De 0 = 0) : bfs D 1 B T Pa Vi De 0 := by
  refine ⟨by omega, ⟨by rw [h0]; exact hx, h1, h2, h3⟩, fun s a b => ?_, fun s t a b c => absurd c (by omega), fun s b a c e f g => absurd g (by omega), fun t a b => absurd b (by omega), fun t u a b c => absurd c (by omega)⟩
  have : s = 0 := by omega
  subst this
  rw [h0]
  exact hx.1
/-- the first sheaf not yet seen is the next -/
theorem bfs_next (hD : mOK D) {s b c : Int} (h : bfs D n B T Pa Vi De k0) (hs : 0 ≤ s ∧ s < n) (hb : 0 ≤ b ∧ b < D 0 4) (hk : s * 128 + b < k0) (hc : 1 ≤ c ∧ c ≤ n) (hc1 : ∀ t, 0 < t → t < n → (Pa t * 128 + Vi t < s * 128 + b ↔ t < c)) : T (s * 128 + b) < c ∨ (T (s * 128 + b) = c ∧ Pa c = s ∧ Vi c = b) := by
  have hB := mO_bl hD
  obtain ⟨a1, a2, a3, a4, a5, a6, a7⟩ := h
  obtain ⟨x1, x2, x3⟩ := a5 s b hs.1 hs.2 hb.1 hb.2 hk
  by_cases e : T (s * 128 + b) < c
  · exact Or.inl e
  · refine Or.inr ?_
    rcases x3 with x3 | x3
    · omega
    · have q1 : ¬ Pa (T (s * 128 + b)) * 128 + Vi (T (s * 128 + b)) < s * 128 + b := fun z => e ((hc1 _ (by omega) x1.2).mp z)
      have q2 := (a6 (T (s * 128 + b)) (by omega) x1.2)
      have q3 : T (s * 128 + b) = c := by
        by_cases z : T (s * 128 + b) = c
        · exact z
        · have := a7 c (T (s * 128 + b)) (by omega) (by omega) x1.2
          have := (hc1 c (by omega) (by omega)).mp (by omega)
          omega
      rw [q3] at q1 q2 x3
      exact ⟨q3, by omega, by omega⟩
end BF
section SR
variable {G : zG} {d : Nat} {h D : zH}
theorem sp_sheafWith {K : Int → zH → Prop} {p x n : Int} (hn : h p 0 = n) (h1 : 0 ≤ n ∧ n ≤ 40) (hx : zRL x) (hr : ∀ s, 0 ≤ s → s < n → zRL (h (p + 1) s)) (k1 : ∀ s, 0 ≤ s → s < n → h (p + 1) s = x → K s h) (k2 : (∀ s, 0 ≤ s → s < n → ¬ h (p + 1) s = x) → K (-1) h) : zCi G d mX7_sheafWith [vr 7 p, vl x] h K := by
  have go : ∀ (f : Nat) (s : Int), 0 ≤ s → s + f = n → (∀ t, 0 ≤ t → t < s → ¬ h (p + 1) t = x) → tX7_sheafWith_2 G d K p x s h := by
    intro f
    induction f with
    | zero =>
      intro s s0 sf g
      refine bX7_sheafWith_2 ?_
      rw [hn]
      exact ⟨⟨by omega, by omega⟩, ⟨by omega, by omega⟩, fun _ => k2 (fun t a b => g t a (by omega)), fun q => absurd q (by omega)⟩
    | succ f ih =>
      intro s s0 sf g
      refine bX7_sheafWith_2 ?_
      rw [hn]
      refine ⟨⟨by omega, by omega⟩, ⟨by omega, by omega⟩, fun q => absurd q (by omega), fun _ => ⟨⟨by omega, by omega⟩, ?_⟩⟩
      rw [(zcmp_lt (hr s s0 (by omega)) hx).2.1]
      refine ⟨fun q => ih (s + 1) (by omega) (by omega) (fun t a b => ?_), fun q => k1 s s0 (by omega) q⟩
      by_cases c : t = s
      · rw [c]
        exact q
      · exact g t a (by omega)
  exact eX7_sheafWith (bX7_sheafWith_0 (go n.toNat 0 (by omega) (by omega) (fun t a b => absurd b (by omega))))
theorem sm_sheafIn {K : Int → zH → Prop} {base n x : Int} (hb : base = 0 ∨ base = 40) (h1 : 0 ≤ n ∧ n ≤ 40) (hx : zRL x) (hr : ∀ s, 0 ≤ s → s < n → zRL (h 505 (base + s))) (k1 : ∀ s, 0 ≤ s → s < n → h 505 (base + s) = x → K s h) (k2 : (∀ s, 0 ≤ s → s < n → ¬ h 505 (base + s) = x) → K n h) : zCi G d mX12_sheafIn [vr 12 466, vi base, vi n, vl x] h K := by
  have go : ∀ (f : Nat) (s : Int), 0 ≤ s → s + f = n → (∀ t, 0 ≤ t → t < s → ¬ h 505 (base + t) = x) → tX12_sheafIn_3 G d K base n x s h := by
    intro f
    induction f with
    | zero =>
      intro s s0 sf g
      have : s = n := by omega
      subst this
      exact bX12_sheafIn_3 ⟨⟨by omega, by omega⟩, ⟨by omega, by omega⟩, fun _ => k2 g, fun q => absurd q (by omega)⟩
    | succ f ih =>
      intro s s0 sf g
      refine bX12_sheafIn_3 ⟨⟨by omega, by omega⟩, ⟨by omega, by omega⟩, fun q => absurd q (by omega), fun _ => ⟨⟨by omega, by omega⟩, ?_⟩⟩
      rw [(zcmp_lt (hr s s0 (by omega)) hx).2.1]
      refine ⟨fun q => k1 s s0 (by omega) q, fun q => ih (s + 1) (by omega) (by omega) (fun t a b => ?_)⟩
      by_cases c : t = s
      · rw [c]
        exact q
      · exact g t a (by omega)
  exact eX12_sheafIn (bX12_sheafIn_0 (go n.toNat 0 (by omega) (by omega) (fun t a b => absurd b (by omega))))
/-- a sheaf more of the class -/
theorem sp_addSheaf {K : Int → zH → Prop} {p m x par via n : Int} (hp : p = m + 7) (hn : h p 0 = n) (h1 : 0 ≤ n ∧ n < 40) (hpar : par = -1 ∨ 0 ≤ par ∧ par < n) (he : zRL (h m 8)) (k : ∀ h' : zH, (∀ a, ¬ a = p → ¬ a = p + 1 → ¬ a = p + 3 → ¬ a = p + 4 → ¬ a = p + 5 → h' a = h a) → h' p 0 = n + 1 → (∀ j, ¬ j = 0 → ¬ j = 6 → h' p j = h p j) → (zRL (h p 6) → zRL (h' p 6)) → (∀ q, tS (h' p 6) q ↔ tS (h p 6) q ∨ (q = n ∧ ¬ zland x (h m 8) = 0)) → h' (p + 1) = fup (h (p + 1)) n x → h' (p + 3) = fup (h (p + 3)) n par → h' (p + 4) = fup (h (p + 4)) n via → h' (p + 5) = fup (h (p + 5)) n (if par < 0 then 0 else h (p + 5) par + 1) → K n h') : zCi G d mX7_addSheaf [vr 7 p, vr 4 m, vl x, vi par, vi via] h K := by
  have two : ∀ v : Int, v = (if par < 0 then 0 else h (p + 5) par + 1) → ((zcmp (zland x ((zup (zup (zup (zup (zup h p 0 ((h p 0) + 1)) (p + 1) (h p 0) x) (p + 3) (h p 0) par) (p + 4) (h p 0) via) (p + 5) (h p 0) v) m 8)) 0) = 0 → K (h p 0) (zup (zup (zup (zup (zup h p 0 ((h p 0) + 1)) (p + 1) (h p 0) x) (p + 3) (h p 0) par) (p + 4) (h p 0) via) (p + 5) (h p 0) v)) ∧ (¬ (zcmp (zland x ((zup (zup (zup (zup (zup h p 0 ((h p 0) + 1)) (p + 1) (h p 0) x) (p + 3) (h p 0) par) (p + 4) (h p 0) via) (p + 5) (h p 0) v) m 8)) 0) = 0 → K (h p 0) (zup (zup (zup (zup (zup (zup h p 0 ((h p 0) + 1)) (p + 1) (h p 0) x) (p + 3) (h p 0) par) (p + 4) (h p 0) via) (p + 5) (h p 0) v) p 6 (zlor ((zup (zup (zup (zup (zup h p 0 ((h p 0) + 1)) (p + 1) (h p 0) x) (p + 3) (h p 0) par) (p + 4) (h p 0) via) (p + 5) (h p 0) v) p 6) (zlshl 1 (h p 0))))) := by
    intro v hv
    have e8 : (zup (zup (zup (zup (zup h p 0 ((h p 0) + 1)) (p + 1) (h p 0) x) (p + 3) (h p 0) par) (p + 4) (h p 0) via) (p + 5) (h p 0) v) m = h m := by
      rw [zup_ne (by omega), zup_ne (by omega), zup_ne (by omega), zup_ne (by omega), zup_ne (by omega)]
    have ep : (zup (zup (zup (zup (zup h p 0 ((h p 0) + 1)) (p + 1) (h p 0) x) (p + 3) (h p 0) par) (p + 4) (h p 0) via) (p + 5) (h p 0) v) p = fup (h p) 0 (n + 1) := by
      rw [zup_ne (by omega), zup_ne (by omega), zup_ne (by omega), zup_ne (by omega), zup_r, hn]
    have e1 : (zup (zup (zup (zup (zup h p 0 ((h p 0) + 1)) (p + 1) (h p 0) x) (p + 3) (h p 0) par) (p + 4) (h p 0) via) (p + 5) (h p 0) v) (p + 1) = fup (h (p + 1)) n x := by
      rw [zup_ne (by omega), zup_ne (by omega), zup_ne (by omega), zup_r, zup_ne (by omega), hn]
    have e3 : (zup (zup (zup (zup (zup h p 0 ((h p 0) + 1)) (p + 1) (h p 0) x) (p + 3) (h p 0) par) (p + 4) (h p 0) via) (p + 5) (h p 0) v) (p + 3) = fup (h (p + 3)) n par := by
      rw [zup_ne (by omega), zup_ne (by omega), zup_r, zup_ne (by omega), zup_ne (by omega), hn]
    have e4 : (zup (zup (zup (zup (zup h p 0 ((h p 0) + 1)) (p + 1) (h p 0) x) (p + 3) (h p 0) par) (p + 4) (h p 0) via) (p + 5) (h p 0) v) (p + 4) = fup (h (p + 4)) n via := by
      rw [zup_ne (by omega), zup_r, zup_ne (by omega), zup_ne (by omega), zup_ne (by omega), hn]
    have e5 : (zup (zup (zup (zup (zup h p 0 ((h p 0) + 1)) (p + 1) (h p 0) x) (p + 3) (h p 0) par) (p + 4) (h p 0) via) (p + 5) (h p 0) v) (p + 5) = fup (h (p + 5)) n v := by
      rw [zup_r, zup_ne (by omega), zup_ne (by omega), zup_ne (by omega), zup_ne (by omega), hn]
    have eo : ∀ a, ¬ a = p → ¬ a = p + 1 → ¬ a = p + 3 → ¬ a = p + 4 → ¬ a = p + 5 → (zup (zup (zup (zup (zup h p 0 ((h p 0) + 1)) (p + 1) (h p 0) x) (p + 3) (h p 0) par) (p + 4) (h p 0) via) (p + 5) (h p 0) v) a = h a := fun a q0 q1 q3 q4 q5 => by
      rw [zup_ne q5, zup_ne q4, zup_ne q3, zup_ne q1, zup_ne q0]
    generalize (zup (zup (zup (zup (zup h p 0 ((h p 0) + 1)) (p + 1) (h p 0) x) (p + 3) (h p 0) par) (p + 4) (h p 0) via) (p + 5) (h p 0) v) = hh at e8 ep e1 e3 e4 e5 eo ⊢
    rw [e8, (zcmp_lt (zland_R _ _) zRL_0).2.1, hn]
    have e6 : hh p 6 = h p 6 := by rw [ep, fup_ne (by decide)]
    refine ⟨fun q => ?_, fun q => ?_⟩
    · refine k hh eo (by rw [ep, fup_eq]) (fun j j0 j6 => by rw [ep, fup_ne j0]) (fun z => by rw [e6]; exact z) (fun z => ?_) e1 e3 e4 (by rw [e5, hv])
      rw [e6]
      exact ⟨Or.inl, fun c => c.elim id (fun c => absurd q c.2)⟩
    · refine k _ (fun a q0 q1 q3 q4 q5 => by rw [zup_ne q0, eo a q0 q1 q3 q4 q5]) (by rw [zup_ns (by decide), ep, fup_eq]) (fun j j0 j6 => by rw [zup_ns j6, ep, fup_ne j0]) (fun _ => by rw [zup_eq]; exact zlor_R _ _) (fun z => ?_) (by rw [zup_ne (by omega), e1]) (by rw [zup_ne (by omega), e3]) (by rw [zup_ne (by omega), e4]) (by rw [zup_ne (by omega), e5, hv])
      rw [zup_eq, tS_lor, tS_shl (by omega) (by omega), e6]
      exact ⟨fun c => c.elim Or.inl (fun c => Or.inr ⟨c, q⟩), fun c => c.elim Or.inl (fun c => Or.inr c.1)⟩
  refine eX7_addSheaf (bX7_addSheaf_0 ⟨by rw [hn]; exact ⟨by omega, by omega⟩, fun q => ⟨by rw [hn]; omega, by rw [hn]; omega, by rw [hn]; omega, ⟨by omega, by omega⟩, fun z => ⟨by omega, by rw [hn]; omega, ?_⟩, fun z => ⟨by rw [hn]; omega, ?_⟩⟩, fun q => absurd h1.2 (by rw [← hn]; exact q)⟩)
  · refine two _ ?_
    rw [if_neg (by omega), zup_ne (by omega), zup_ne (by omega), zup_ne (by omega), zup_ne (by omega)]
  · refine two 0 ?_
    rw [if_pos (by omega)]
end SR
