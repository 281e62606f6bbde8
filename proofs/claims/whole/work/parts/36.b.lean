/-! ===== the class draws: edges of a machine ===== -/
noncomputable def neX (X : Int → Bool) : Bool := @decide (∃ z, (0 ≤ z ∧ z < 65536) ∧ X z = true) (Classical.propDecidable _)
theorem neX_t {X : Int → Bool} : neX X = true ↔ ∃ z, (0 ≤ z ∧ z < 65536) ∧ X z = true := by
  unfold neX
  exact @decide_eq_true_iff _ (Classical.propDecidable _)
/-- whether a block's source has an edge -/
def sB (h D : zH) (e b : Int) : Bool := decide (0 ≤ h 11 b) && dEH D e (h 11 b)
/-- a machine's edges, moved, or the other way -/
def eL (D : zH) (s : Int) (bk : Bool) (X : Int → Int → Bool) : Nat → List eT
  | 0 => []
  | k + 1 => eL D s bk X k ++ [if bk = true then (D 2 k + s, D 1 k + s, X k) else (D 1 k + s, D 2 k + s, X k)]
theorem eL_s {D : zH} {s : Int} {bk : Bool} {X : Int → Int → Bool} {k : Nat} : eL D s bk X (k + 1) = eL D s bk X k ++ [if bk = true then (D 2 k + s, D 1 k + s, X k) else (D 1 k + s, D 2 k + s, X k)] := rfl
theorem eL_mem {D : zH} {s : Int} {bk : Bool} {X : Int → Int → Bool} : ∀ {k : Nat} {y : eT}, y ∈ eL D s bk X k → ∃ e : Int, (0 ≤ e ∧ e < k) ∧ (y = (D 2 e + s, D 1 e + s, X e) ∨ y = (D 1 e + s, D 2 e + s, X e))
  | 0, y, h => absurd h (List.not_mem_nil)
  | k + 1, y, h => by
    rw [eL_s] at h
    rcases List.mem_append.mp h with h | h
    · obtain ⟨i, q0, q1⟩ := eL_mem h
      exact ⟨i, by omega, q1⟩
    · rw [List.mem_singleton] at h
      refine ⟨k, by omega, ?_⟩
      cases bk
      · rw [if_neg (by decide)] at h
        exact Or.inr h
      · rw [if_pos rfl] at h
        exact Or.inl h
theorem eL_len {D : zH} {s : Int} {bk : Bool} {X : Int → Int → Bool} : ∀ k : Nat, (eL D s bk X k).length = k
  | 0 => rfl
  | k + 1 => by rw [eL_s, len_1, eL_len k]
/-- those that have letters -/
noncomputable def eN (D : zH) (X : Int → Int → Bool) : Nat → List eT
  | 0 => []
  | k + 1 => if neX (X k) = true then eN D X k ++ [(D 1 k, D 2 k, X k)] else eN D X k
theorem eN_s {D : zH} {X : Int → Int → Bool} {k : Nat} : eN D X (k + 1) = if neX (X k) = true then eN D X k ++ [(D 1 k, D 2 k, X k)] else eN D X k := rfl
theorem eN_mem {D : zH} {X : Int → Int → Bool} : ∀ {k : Nat} {y : eT}, y ∈ eN D X k → ∃ e : Int, (0 ≤ e ∧ e < k) ∧ y = (D 1 e, D 2 e, X e)
  | 0, y, h => absurd h (List.not_mem_nil)
  | k + 1, y, h => by
    rw [eN_s] at h
    by_cases c : neX (X k) = true
    · rw [if_pos c] at h
      rcases List.mem_append.mp h with h | h
      · obtain ⟨i, q0, q1⟩ := eN_mem h
        exact ⟨i, by omega, q1⟩
      · rw [List.mem_singleton] at h
        exact ⟨k, by omega, h⟩
    · rw [if_neg c] at h
      obtain ⟨i, q0, q1⟩ := eN_mem h
      exact ⟨i, by omega, q1⟩
theorem eN_len {D : zH} {X : Int → Int → Bool} : ∀ k : Nat, (eN D X k).length ≤ k
  | 0 => Nat.le_refl _
  | k + 1 => by
    have := eN_len (D := D) (X := X) k
    rw [eN_s]
    by_cases c : neX (X k) = true
    · rw [if_pos c, len_1]
      omega
    · rw [if_neg c]
      omega
section DB
variable {G : zG} {d : Nat} {h D : zH} {n en : Int} {LE : List eT} {LF : List fT}
theorem sp_addEdge {K : Int → zH → Prop} {a b : Int} (E0 : 0 ≤ h 4 9 ∧ h 4 9 ≤ 160) (k1 : h 4 9 < 160 → ∀ h' : zH, (∀ x, ¬ (4 ≤ x ∧ x ≤ 7) → h' x = h x) → (∀ j, ¬ j = 9 → h' 4 j = h 4 j) → h' 4 9 = h 4 9 + 1 → h' 5 = fup (h 5) (h 4 9) a → h' 6 = fup (h 6) (h 4 9) b → (∀ e b', 0 ≤ e → 0 ≤ b' → b' < 256 → mk h' e b' = if e = h 4 9 then false else mk h e b') → K (h 4 9) h') (k2 : h 4 9 = 160 → K (-1) (zup h 4 12 1)) : zCi G d mX2_addEdge [vr 2 4, vi a, vi b] h K := by
  obtain ⟨E, eE⟩ : ∃ x, x = h 4 9 := ⟨_, rfl⟩
  have go : ∀ (f : Nat) (w : Int) (h1 : zH), 0 ≤ w → w + f = 4 → E < 160 → (∀ x, ¬ (5 ≤ x ∧ x ≤ 7) → h1 x = h x) → h1 5 = fup (h 5) E a → h1 6 = fup (h 6) E b → (∀ j, h1 7 j = if E * 4 ≤ j ∧ j < E * 4 + w then 0 else h 7 j) → tX2_addEdge_39 G d K w h1 := by
    intro f
    induction f with
    | zero =>
      intro w h1 w0 wf E1 g1 g2 g3 g4
      refine bX2_addEdge_39 ?_
      rw [g1 4 (by decide), ← eE]
      refine ⟨⟨by omega, by omega⟩, fun _ => ?_, fun z => absurd (by omega) z⟩
      rw [show E + 1 - 1 = h 4 9 by omega]
      refine k1 (by omega) _ (fun x p => by rw [zup_ne (by omega), g1 x (by omega)]) (fun j p => by rw [zup_ns p, g1 4 (by decide)]) (by rw [zup_eq, eE]) (by rw [zup_ne (by decide), g2, eE]) (by rw [zup_ne (by decide), g3, eE]) (fun e b' e0 b0 b1 => ?_)
      unfold mk
      rw [zup_ne (by decide), g4, ← eE]
      by_cases c : e = E
      · rw [if_pos c, if_pos (by omega), tb_0]
      · rw [if_neg c, if_neg (by omega)]
    | succ f ih =>
      intro w h1 w0 wf E1 g1 g2 g3 g4
      refine bX2_addEdge_39 ?_
      rw [g1 4 (by decide), ← eE]
      refine ⟨⟨by omega, by omega⟩, fun z => absurd z (by omega), fun _ => ⟨by omega, ih (w + 1) _ (by omega) (by omega) E1 (fun x p => by rw [zup_ne (by omega), g1 x p]) (by rw [zup_ne (by decide), g2]) (by rw [zup_ne (by decide), g3]) (fun j => ?_)⟩⟩
      by_cases c : j = E * 4 + w
      · rw [c, zup_eq, if_pos (by omega)]
      · rw [zup_ns c, g4 j]
        by_cases c2 : E * 4 ≤ j ∧ j < E * 4 + w
        · rw [if_pos c2, if_pos (by omega)]
        · rw [if_neg c2, if_neg (by omega)]
  refine eX2_addEdge (bX2_addEdge_0 ⟨⟨by omega, by omega⟩, fun q => ⟨by omega, by omega, ?_⟩, fun q => k2 (by omega)⟩)
  rw [← eE]
  refine go 4 0 _ (by omega) (by omega) (by omega) (fun x p => by rw [zup_ne (by omega), zup_ne (by omega)]) (by rw [zup_ne (by decide), zup_r]) (by rw [zup_r, zup_ne (by decide)]) (fun j => ?_)
  rw [zup_ne (by decide), zup_ne (by decide), if_neg (by omega)]
theorem sp_copyMarks {K : Int → zH → Prop} {m e mine : Int} (mc : mcell m) (hD : mOK D) (hr : cRep h m D) (he : 0 ≤ e ∧ e < D 0 2) (hm : 0 ≤ mine ∧ mine < 160) (nb : 0 ≤ h 4 11 ∧ h 4 11 ≤ 256) (src : ∀ b, 0 ≤ b → b < h 4 11 → -1 ≤ h 11 b ∧ h 11 b < D 0 4) (k : ∀ (c : Int) (h' : zH), (∀ x, ¬ x = 7 → h' x = h x) → 0 ≤ c ∧ c ≤ 256 → (c = 0 ↔ ∀ b, 0 ≤ b → b < h 4 11 → sB h D e b = false) → (∀ e' b', 0 ≤ e' → 0 ≤ b' → b' < 256 → mk h' e' b' = (decide (e' = mine ∧ b' < h 4 11 ∧ sB h D e b' = true) || mk h e' b')) → K c h') : zCi G (d + 1) mX2_copyMarks [vr 2 4, vr 4 m, vi e, vi mine] h K := by
  have hB := mO_bl hD
  have fin : ∀ (c b : Int) (h1 : zH), h 4 11 ≤ b → b ≤ h 4 11 → 0 ≤ c ∧ c ≤ b → (∀ x, ¬ x = 7 → h1 x = h x) → (c = 0 ↔ ∀ b', 0 ≤ b' → b' < b → sB h D e b' = false) → (∀ e' b', 0 ≤ e' → 0 ≤ b' → b' < 256 → mk h1 e' b' = (decide (e' = mine ∧ b' < b ∧ sB h D e b' = true) || mk h e' b')) → K c h1 := by
    intro c b h1 q1 q2 q3 q4 q5 q6
    have e : b = h 4 11 := by omega
    rw [e] at q5 q6
    exact k c h1 q4 (by omega) q5 q6
  have go : ∀ (f : Nat) (b c : Int) (h1 : zH), 0 ≤ b ∧ b ≤ h 4 11 → h 4 11 - b ≤ f → 0 ≤ c ∧ c ≤ b → (∀ x, ¬ x = 7 → h1 x = h x) → (c = 0 ↔ ∀ b', 0 ≤ b' → b' < b → sB h D e b' = false) → (∀ e' b', 0 ≤ e' → 0 ≤ b' → b' < 256 → mk h1 e' b' = (decide (e' = mine ∧ b' < b ∧ sB h D e b' = true) || mk h e' b')) → tX2_copyMarks_6 G d K m e mine c b h1 := by
    intro f
    induction f with
    | zero =>
      intro b c h1 hb hf hc g1 g2 g3
      refine bX2_copyMarks_6 ?_
      rw [g1 4 (by decide)]
      exact ⟨⟨by omega, by omega⟩, fun z => absurd z (by omega), fun _ => ⟨⟨by omega, by omega⟩, ⟨by omega, by omega⟩, fun z => fin c b h1 z hb.2 hc g1 g2 g3, fun z => absurd hf (by omega)⟩⟩
    | succ f ih =>
      intro b c h1 hb hf hc g1 g2 g3
      refine bX2_copyMarks_6 ?_
      rw [g1 4 (by decide), g1 11 (by decide)]
      refine ⟨⟨by omega, by omega⟩, fun z => absurd z (by omega), fun _ => ⟨⟨by omega, by omega⟩, ⟨by omega, by omega⟩, fun z => fin c b h1 z hb.2 hc g1 g2 g3, fun z => ?_⟩⟩
      have sr := src b hb.1 (by omega)
      have skip : sB h D e b = false → tX2_copyMarks_6 G d K m e mine c (b + 1) h1 := fun sf => by
        refine ih (b + 1) c h1 (by omega) (by omega) (by omega) g1 ⟨fun z b' a0 a1 => ?_, fun z => g2.mpr (fun b' a0 a1 => z b' a0 (by omega))⟩ (fun e' b' e0 b0 b1 => ?_)
        · by_cases w : b' = b
          · rw [w]
            exact sf
          · exact g2.mp z b' a0 (by omega)
        · rw [g3 e' b' e0 b0 b1]
          by_cases w : b' = b
          · rw [w, sf, decide_eq_false (fun z => absurd z.2.2 (by decide)), decide_eq_false (fun z => absurd z.2.2 (by decide))]
          · by_cases v : e' = mine ∧ b' < b ∧ sB h D e b' = true
            · rw [decide_eq_true v, decide_eq_true (show e' = mine ∧ b' < b + 1 ∧ sB h D e b' = true from ⟨v.1, by omega, v.2.2⟩)]
            · rw [decide_eq_false v, decide_eq_false (fun z => v ⟨z.1, by omega, z.2.2⟩)]
      refine ⟨by omega, ⟨by omega, by omega⟩, fun y => skip ?_, fun y => ⟨by omega, ?_⟩⟩
      · unfold sB
        rw [decide_eq_false (by omega)]
        rfl
      · refine sp_edgeHas hD (cRep_fr (fun a x y => g1 a (by unfold mcell at mc; omega)) hr) he (by omega) ⟨fun w => skip ?_, fun w => sp_mark (by omega) (by omega) (fun h2 r1 r2 => ?_)⟩
        · unfold sB
          rw [w, decide_eq_true (show 0 ≤ h 11 b by omega)]
          rfl
        · have st : sB h D e b = true := by
            unfold sB
            rw [w, decide_eq_true (show 0 ≤ h 11 b by omega)]
            rfl
          refine ih (b + 1) (c + 1) h2 (by omega) (by omega) (by omega) (fun x p => by rw [r1 x p, g1 x p]) ⟨fun z => absurd z (by omega), fun z => absurd (z b hb.1 (by omega)) (by rw [st]; decide)⟩ (fun e' b' e0 b0 b1 => ?_)
          rw [r2 e' b' e0 b0 b1, g3 e' b' e0 b0 b1]
          by_cases v : e' = mine ∧ b' = b
          · rw [decide_eq_true v, decide_eq_true (show e' = mine ∧ b' < b + 1 ∧ sB h D e b' = true from ⟨v.1, by omega, by rw [v.2]; exact st⟩)]
            rfl
          · rw [decide_eq_false v]
            by_cases v2 : e' = mine ∧ b' < b ∧ sB h D e b' = true
            · rw [decide_eq_true v2, decide_eq_true (show e' = mine ∧ b' < b + 1 ∧ sB h D e b' = true from ⟨v2.1, by omega, v2.2.2⟩)]
              rfl
            · rw [decide_eq_false v2, decide_eq_false (fun z => v2 ⟨z.1, by omega, z.2.2⟩)]
              rfl
  refine eX2_copyMarks (bX2_copyMarks_0 (go (h 4 11).toNat 0 0 h (by omega) (by omega) (by omega) (fun _ _ => rfl) ⟨fun _ b' a b => absurd b (by omega), fun _ => rfl⟩ (fun e' b' e0 b0 b1 => ?_)))
  rw [decide_eq_false (fun z => absurd z.2.1 (by omega))]
  rfl
/-- an edge more -/
theorem drC_e {h1 h2 : zH} {a b e : Int} {X : Int → Bool} (k : drC h n en LE LF) (ha : zR a) (hb : zR b) (E1 : h 4 9 < 160) (g1 : ∀ x, ¬ (4 ≤ x ∧ x ≤ 7) → h1 x = h x) (g2 : ∀ j, ¬ j = 9 → h1 4 j = h 4 j) (g3 : h1 4 9 = h 4 9 + 1) (g4 : h1 5 = fup (h 5) (h 4 9) a) (g5 : h1 6 = fup (h 6) (h 4 9) b) (g6 : ∀ e b', 0 ≤ e → 0 ≤ b' → b' < 256 → mk h1 e b' = if e = h 4 9 then false else mk h e b') (q1 : ∀ x, ¬ x = 7 → h2 x = h1 x) (q2 : ∀ e' b', 0 ≤ e' → 0 ≤ b' → b' < 256 → mk h2 e' b' = (decide (e' = h 4 9 ∧ b' < h 4 11 ∧ sB h D e b' = true) || mk h1 e' b')) (hX : ∀ b, 0 ≤ b → b < h 4 11 → X (h 10 b) = sB h D e b) : drC h2 n en (LE ++ [(a, b, X)]) LF := by
  obtain ⟨k1, k2, k3, k4, k5, k6, k7, k8, k9, k10⟩ := k
  have nb := k2.1
  have ll : LE.length < 160 ∧ h 4 9 = LE.length := by
    by_cases w : LE.length ≤ 160
    · have := (k5 w).1
      omega
    · have := k7 (by omega)
      omega
  have fq : fits n (LE ++ [(a, b, X)]) LF ↔ fits n LE LF := by
    unfold fits
    rw [len_1]
    omega
  have e4 : ∀ j, ¬ j = 9 → h2 4 j = h 4 j := fun j p => by rw [q1 4 (by decide), g2 j p]
  have e9 : h2 4 9 = h 4 9 + 1 := by rw [q1 4 (by decide), g3]
  unfold drC
  rw [fq, len_1, e4 7 (by decide), e4 8 (by decide), e4 11 (by decide), e4 10 (by decide), e4 12 (by decide), e9, q1 10 (by decide), g1 10 (by decide), q1 5 (by decide), g4, q1 6 (by decide), g5, q1 8 (by decide), g1 8 (by decide), q1 9 (by decide), g1 9 (by decide)]
  refine ⟨k1, k2, ⟨by omega, fun e' a0 a1 => ?_⟩, k4, fun _ => ⟨by omega, fun e' a0 a1 => ?_⟩, k6, fun z => absurd z (by omega), k8, k9, k10⟩
  · by_cases w : e' = h 4 9
    · rw [w, fup_eq, fup_eq]
      exact ⟨ha, hb⟩
    · rw [fup_ne w, fup_ne w]
      exact k3.2 e' a0 (by omega)
  · by_cases w : e' = LE.length
    · rw [gE_r w, w, ← ll.2, fup_eq, fup_eq]
      refine ⟨rfl, rfl, fun b' b0 b1 => ?_⟩
      show mk h2 (h 4 9) b' = X (h 10 b')
      rw [q2 _ b' (by omega) b0 (by omega), g6 _ b' (by omega) b0 (by omega), if_pos rfl, hX b' b0 b1, Bool.or_false, Bool.eq_iff_iff, decide_eq_true_iff]
      exact ⟨fun z => z.2.2, fun z => ⟨rfl, b1, z⟩⟩
    · obtain ⟨x1, x2, x3⟩ := (k5 (by omega)).2 e' a0 (by omega)
      rw [gE_l a0 (by omega), fup_ne (by omega), fup_ne (by omega)]
      refine ⟨x1, x2, fun b' b0 b1 => ?_⟩
      rw [q2 _ b' (by omega) b0 (by omega), g6 _ b' (by omega) b0 (by omega), if_neg (by omega), decide_eq_false (fun z => absurd z.1 (by omega)), x3 b' b0 b1]
      rfl
/-- no room for it -/
theorem drC_eo {x : eT} (k : drC h n en LE LF) (E1 : h 4 9 = 160) : drC (zup h 4 12 1) n en (LE ++ [x]) LF := by
  obtain ⟨k1, k2, k3, k4, k5, k6, k7, k8, k9, k10⟩ := k
  have ll : 160 ≤ LE.length := by
    by_cases w : LE.length ≤ 160
    · have := (k5 w).1
      omega
    · omega
  have fq : ¬ fits n (LE ++ [x]) LF := by
    unfold fits
    rw [len_1]
    omega
  have o4 : ∀ j, ¬ j = 12 → (zup h 4 12 1) 4 j = h 4 j := fun j p => zup_ns p
  have o : ∀ x, ¬ x = 4 → (zup h 4 12 1) x = h x := fun x p => zup_ne p
  unfold drC
  rw [o4 7 (by decide), o4 8 (by decide), o4 11 (by decide), o4 9 (by decide), o4 10 (by decide), o 10 (by decide), o 5 (by decide), o 6 (by decide), o 8 (by decide), o 9 (by decide), mk_e (o 7 (by decide)), len_1]
  exact ⟨k1, k2, k3, k4, fun z => absurd z (by omega), k6, fun _ => E1, k8, fun z => absurd z fq, fun _ => zup_eq⟩
theorem sp_copyEdges {K : zH → Prop} {m s : Int} {bk : Bool} {X : Int → Int → Bool} (mc : mcell m) (hD : mOK D) (hr : cRep h m D) (hs : 0 ≤ s ∧ s ≤ 40) (src : ∀ b, 0 ≤ b → b < h 4 11 → -1 ≤ h 11 b ∧ h 11 b < D 0 4) (hX : ∀ e b, 0 ≤ e → e < D 0 2 → 0 ≤ b → b < h 4 11 → X e (h 10 b) = sB h D e b) (k : drC h n en LE LF) (kk : ∀ h' : zH, dF h h' → drC h' n en (LE ++ eL D s bk X (D 0 2).toNat) LF → K h') : zCv G (d + 2) mX2_copyEdges [vr 2 4, vr 4 m, vi s, vi (bi bk)] h K := by
  have E0 := mO_ed hD
  have S0 := mO_st hD
  have go : ∀ (f : Nat) (q : Nat) (h1 : zH), (q : Int) + f = D 0 2 → dF h h1 → drC h1 n en (LE ++ eL D s bk X q) LF → tX2_copyEdges_3 G (d + 1) K m s bk q h1 := by
    intro f
    induction f with
    | zero =>
      intro q h1 e f1 dc
      have r1 := dF_cRep mc f1 hr
      refine bX2_copyEdges_3 ?_
      rw [r1.1.2.2.1]
      exact ⟨⟨by omega, by omega⟩, ⟨by omega, by omega⟩, fun _ => kk h1 f1 (by rw [show (D 0 2).toNat = q by omega]; exact dc), fun z => absurd (by omega) z⟩
    | succ f ih =>
      intro q h1 e f1 dc
      have r1 := dF_cRep mc f1 hr
      have re := r1.2.1 q (by omega) (by omega)
      have me := mO_e hD (e := q) (by omega) (by omega)
      have nb := dc.2.1.1
      have s1 : ∀ e b, sB h1 D e b = sB h D e b := fun e b => by
        unfold sB
        rw [f1.1 11 (by decide)]
      have one : ∀ (a b : Int), zR a → zR b → (bk = true → a = D 2 q + s ∧ b = D 1 q + s) → (bk = false → a = D 1 q + s ∧ b = D 2 q + s) → zCi G (d + 1) mX2_addEdge [vr 2 4, vi a, vi b] h1 (fun x1 h2 => zCi G (d + 1) mX2_copyMarks [vr 2 4, vr 4 m, vi q, vi x1] h2 (fun x3 h4 => tX2_copyEdges_3 G (d + 1) K m s bk ((q : Int) + 1) h4)) := by
        intro a b ha hb b1 b2
        have k3 := dc.2.2.1.1
        have eq : eL D s bk X (q + 1) = eL D s bk X q ++ [(a, b, X q)] := by
          rw [eL_s]
          cases c : bk
          · rw [if_neg (by decide), (b2 c).1, (b2 c).2]
          · rw [if_pos rfl, (b1 c).1, (b1 c).2]
        refine sp_addEdge dc.2.2.1.1 (fun E1 h2 g1 g2 g3 g4 g5 g6 => ?_) (fun E1 => ?_)
        · refine sp_copyMarks mc hD (cRep_fr (fun a x y => by rw [g1 a (by unfold mcell at mc; omega)]) r1) (by omega) (by omega) (by rw [g2 11 (by decide)]; omega) (by rw [g2 11 (by decide), f1.2, g1 11 (by decide), f1.1 11 (by decide)]; exact src) (fun c h3 q1 _ _ q2 => ?_)
          refine ih (q + 1) h3 (by omega) (dF_t f1 ⟨fun x p => by rw [q1 x (by omega), g1 x (by omega)], by rw [q1 4 (by decide), g2 11 (by decide)]⟩) ?_
          rw [eq, ← List.append_assoc]
          refine drC_e (D := D) (e := q) dc ha hb E1 g1 g2 g3 g4 g5 g6 q1 (fun e' b' e0 b0 b1 => ?_) (fun b' b0 b1 => ?_)
          · rw [q2 e' b' e0 b0 b1, g2 11 (by decide)]
            have : sB h2 D q b' = sB h1 D q b' := by
              unfold sB
              rw [g1 11 (by decide)]
            rw [this]
          · rw [f1.1 10 (by decide), s1]
            exact hX q b' (by omega) (by omega) b0 (by rw [← f1.2]; exact b1)
        · refine eX2_copyMarks (bX2_copyMarks_0 (bX2_copyMarks_6 ⟨zR_m1, fun _ => ih (q + 1) _ (by omega) (dF_t f1 ⟨fun x p => zup_ne (by omega), zup_ns (by decide)⟩) ?_, fun z => absurd (by decide) z⟩))
          rw [eq, ← List.append_assoc]
          exact drC_eo dc E1
      refine bX2_copyEdges_3 ?_
      rw [r1.1.2.2.1, re.1, re.2.1]
      refine ⟨⟨by omega, by omega⟩, ⟨by omega, by omega⟩, fun z => absurd z (by omega), fun _ => ⟨fun z => ⟨by omega, fun _ => ⟨by omega, one _ _ ⟨by omega, by omega⟩ ⟨by omega, by omega⟩ (fun z2 => absurd (z.symm.trans z2) (by decide)) (fun _ => ⟨rfl, rfl⟩)⟩, fun z2 => absurd (z.symm.trans z2) (by decide)⟩, fun z => ⟨by omega, fun z2 => absurd (z.symm.trans z2) (by decide), fun _ => ⟨by omega, one _ _ ⟨by omega, by omega⟩ ⟨by omega, by omega⟩ (fun _ => ⟨rfl, rfl⟩) (fun z2 => absurd (z.symm.trans z2) (by decide))⟩⟩⟩⟩
  refine eX2_copyEdges (bX2_copyEdges_0 (go (D 0 2).toNat 0 h (by omega) (dF_r h) ?_))
  show drC h n en (LE ++ []) LF
  rw [List.append_nil]
  exact k
theorem sp_copyFilled {K : zH → Prop} {m : Int} {X : Int → Int → Bool} (mc : mcell m) (hD : mOK D) (hr : cRep h m D) (src : ∀ b, 0 ≤ b → b < h 4 11 → -1 ≤ h 11 b ∧ h 11 b < D 0 4) (hX : ∀ e b, 0 ≤ e → e < D 0 2 → 0 ≤ b → b < h 4 11 → X e (h 10 b) = sB h D e b) (hN : ∀ e, 0 ≤ e → e < D 0 2 → (neX (X e) = true ↔ ∃ b, (0 ≤ b ∧ b < h 4 11) ∧ X e (h 10 b) = true)) (k : drC h n en [] LF) (kk : ∀ h' : zH, dF h h' → drC h' n en (eN D X (D 0 2).toNat) LF → K h') : zCv G (d + 2) mX2_copyFilledEdges [vr 2 4, vr 4 m] h K := by
  have E0 := mO_ed hD
  have S0 := mO_st hD
  have go : ∀ (f : Nat) (q : Nat) (h1 : zH), (q : Int) + f = D 0 2 → dF h h1 → drC h1 n en (eN D X q) LF → tX2_copyFilledEdges_2 G (d + 1) K m q h1 := by
    intro f
    induction f with
    | zero =>
      intro q h1 e f1 dc
      have r1 := dF_cRep mc f1 hr
      refine bX2_copyFilledEdges_2 ?_
      rw [r1.1.2.2.1]
      exact ⟨⟨by omega, by omega⟩, ⟨by omega, by omega⟩, fun _ => kk h1 f1 (by rw [show (D 0 2).toNat = q by omega]; exact dc), fun z => absurd (by omega) z⟩
    | succ f ih =>
      intro q h1 e f1 dc
      have r1 := dF_cRep mc f1 hr
      have re := r1.2.1 q (by omega) (by omega)
      have me := mO_e hD (e := q) (by omega) (by omega)
      have nb := dc.2.1.1
      have ql := eN_len (D := D) (X := X) q
      have s1 : ∀ e b, sB h1 D e b = sB h D e b := fun e b => by
        unfold sB
        rw [f1.1 11 (by decide)]
      have e9 := (dc.2.2.2.2.1 (by omega)).1
      refine bX2_copyFilledEdges_2 ?_
      rw [r1.1.2.2.1, re.1, re.2.1]
      refine ⟨⟨by omega, by omega⟩, ⟨by omega, by omega⟩, fun z => absurd z (by omega), fun _ => ⟨by omega, by omega, sp_addEdge dc.2.2.1.1 (fun E1 h2 g1 g2 g3 g4 g5 g6 => ⟨⟨by omega, by omega⟩, fun z => absurd z (by omega), fun _ => ?_⟩) (fun E1 => absurd E1 (by omega))⟩⟩
      refine sp_copyMarks mc hD (cRep_fr (fun a x y => by rw [g1 a (by unfold mcell at mc; omega)]) r1) (by omega) (by omega) (by rw [g2 11 (by decide)]; omega) (by rw [g2 11 (by decide), f1.2, g1 11 (by decide), f1.1 11 (by decide)]; exact src) (fun c h3 q1 c0 c1 q2 => ⟨⟨by omega, by omega⟩, fun z => ?_, fun z => ?_⟩)
      · have s2 : ∀ b, sB h2 D q b = sB h D q b := fun b => by
          unfold sB
          rw [g1 11 (by decide), f1.1 11 (by decide)]
        have ne : neX (X q) = true := by
          rw [hN q (by omega) (by omega)]
          refine Classical.byContradiction (fun w => z (c1.mpr (fun b b0 b1 => ?_)))
          rw [g2 11 (by decide), f1.2] at b1
          rw [s2 b, ← hX q b (by omega) (by omega) b0 b1]
          cases y : X q (h 10 b)
          · rfl
          · exact absurd ⟨b, ⟨b0, b1⟩, y⟩ w
        refine ih (q + 1) h3 (by omega) (dF_t f1 ⟨fun x p => by rw [q1 x (by omega), g1 x (by omega)], by rw [q1 4 (by decide), g2 11 (by decide)]⟩) ?_
        rw [eN_s, if_pos ne]
        refine drC_e (D := D) (e := q) dc ⟨by omega, by omega⟩ ⟨by omega, by omega⟩ E1 g1 g2 g3 g4 g5 g6 q1 (fun e' b' e0 b0 b1 => ?_) (fun b' b0 b1 => ?_)
        · rw [q2 e' b' e0 b0 b1, g2 11 (by decide), s2 b', s1]
        · rw [f1.1 10 (by decide), s1]
          exact hX q b' (by omega) (by omega) b0 (by rw [← f1.2]; exact b1)
      · have s2 : ∀ b, sB h2 D q b = sB h D q b := fun b => by
          unfold sB
          rw [g1 11 (by decide), f1.1 11 (by decide)]
        have ne : ¬ neX (X q) = true := by
          rw [hN q (by omega) (by omega)]
          rintro ⟨b, hb, y⟩
          have := c1.mp z b hb.1 (by rw [g2 11 (by decide), f1.2]; exact hb.2)
          rw [s2 b, ← hX q b (by omega) (by omega) hb.1 hb.2, y] at this
          cases this
        have e4 : ∀ j, ¬ j = 9 → (zup h3 4 9 (h1 4 9)) 4 j = h1 4 j := fun j p => by rw [zup_ns p, q1 4 (by decide), g2 j p]
        have eo : ∀ x, ¬ (4 ≤ x ∧ x ≤ 7) → (zup h3 4 9 (h1 4 9)) x = h1 x := fun x p => by rw [zup_ne (by omega), q1 x (by omega), g1 x p]
        refine ih (q + 1) _ (by omega) (dF_t f1 ⟨fun x p => eo x (by omega), e4 11 (by decide)⟩) ?_
        rw [eN_s, if_neg ne]
        obtain ⟨k1, k2, k3, k4, k5, k6, k7, k8, k9, k10⟩ := dc
        unfold drC
        rw [e4 7 (by decide), e4 8 (by decide), e4 11 (by decide), e4 10 (by decide), e4 12 (by decide), zup_eq, eo 10 (by decide), eo 8 (by decide), eo 9 (by decide)]
        refine ⟨k1, k2, ⟨k3.1, fun e' a0 a1 => ?_⟩, k4, fun w => ⟨(k5 w).1, fun e' a0 a1 => ?_⟩, k6, k7, k8, k9, k10⟩
        · rw [zup_ne (by decide), zup_ne (by decide), q1 5 (by decide), q1 6 (by decide), g4, g5, fup_ne (by omega), fup_ne (by omega)]
          exact k3.2 e' a0 a1
        · obtain ⟨x1, x2, x3⟩ := (k5 w).2 e' a0 a1
          rw [zup_ne (by decide), zup_ne (by decide), q1 5 (by decide), q1 6 (by decide), g4, g5, fup_ne (by omega), fup_ne (by omega)]
          refine ⟨x1, x2, fun b' b0 b1 => ?_⟩
          rw [mk_e (show (zup h3 4 9 (h1 4 9)) 7 = h3 7 from zup_ne (by decide)), q2 e' b' a0 b0 (by omega), g6 e' b' a0 b0 (by omega), if_neg (by omega), decide_eq_false (fun z => absurd z.1 (by omega)), x3 b' b0 b1]
          rfl
  refine eX2_copyFilledEdges (bX2_copyFilledEdges_0 (go (D 0 2).toNat 0 h (by omega) (dF_r h) k))
end DB
