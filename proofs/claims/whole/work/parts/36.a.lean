/-! ===== the class draws: free steps, edges, marks ===== -/
/-- all but the draft's own rows, whose blocks stand -/
def dF (h h' : zH) : Prop := (∀ a, ¬ (4 ≤ a ∧ a ≤ 9) → h' a = h a) ∧ h' 4 11 = h 4 11
theorem dF_r (h : zH) : dF h h := ⟨fun _ _ => rfl, rfl⟩
theorem dF_t {h1 h2 h3 : zH} (a : dF h1 h2) (b : dF h2 h3) : dF h1 h3 := ⟨fun x p => (b.1 x p).trans (a.1 x p), b.2.trans a.2⟩
theorem dF_cRep {h h' D : zH} {m : Int} (mc : mcell m) (f : dF h h') (r : cRep h m D) : cRep h' m D := cRep_fr (fun a x y => f.1 a (by unfold mcell at mc; omega)) r
theorem mk_set {h : zH} {e b e' b' : Int} (he : 0 ≤ e ∧ 0 ≤ e') (hb : 0 ≤ b ∧ b < 256) (hb' : 0 ≤ b' ∧ b' < 256) : mk (zup h 7 (e * 4 + b / 64) (zlor (h 7 (e * 4 + b / 64)) (zlshl 1 (b % 64)))) e' b' = (decide (e' = e ∧ b' = b) || mk h e' b') := by
  unfold mk
  rw [zup_r]
  by_cases w : e' * 4 + b' / 64 = e * 4 + b / 64
  · rw [w, fup_eq, tb_or1 (by omega) (by omega)]
    by_cases y : b' = b
    · rw [decide_eq_true (show b' % 64 = b % 64 by rw [y]), decide_eq_true (show e' = e ∧ b' = b by omega)]
    · rw [decide_eq_false (show ¬ b' % 64 = b % 64 by omega), decide_eq_false (fun z => y z.2)]
  · rw [fup_ne w, decide_eq_false (by omega)]
    rfl
section DA
variable {G : zG} {d : Nat} {h D : zH} {n en : Int} {LE : List eT} {LF : List fT}
theorem sp_mark {K : zH → Prop} {e b : Int} (he : 0 ≤ e ∧ e < 160) (hb : 0 ≤ b ∧ b < 256) (k : ∀ h' : zH, (∀ a, ¬ a = 7 → h' a = h a) → (∀ e' b', 0 ≤ e' → 0 ≤ b' → b' < 256 → mk h' e' b' = (decide (e' = e ∧ b' = b) || mk h e' b')) → K h') : zCv G d mX2_mark [vr 2 4, vi e, vi b] h K :=
  eX2_mark (bX2_mark_0 ⟨by omega, by omega, by omega, by omega, k _ (fun a q => zup_ne q) (fun e' b' e0 b0 b1 => mk_set (by omega) hb (by omega))⟩)
theorem sp_addFree {K : zH → Prop} {a b : Int} (k : drC h n en LE LF) (kk : ∀ h' : zH, dF h h' → (∀ x, ¬ x = 4 → ¬ x = 8 → ¬ x = 9 → h' x = h x) → drC h' n en LE (LF ++ [(a, b)]) → K h') : zCv G d mX2_addFree [vr 2 4, vi a, vi b] h K := by
  obtain ⟨k1, k2, k3, k4, k5, k6, k7, k8, k9, k10⟩ := k
  refine eX2_addFree (bX2_addFree_0 ⟨⟨by omega, by omega⟩, fun q => ⟨by omega, by omega, ?_⟩, fun q => ?_⟩)
  · have ll : LF.length < 64 ∧ h 4 10 = LF.length := by
      by_cases w : LF.length ≤ 64
      · have := (k6 w).1
        omega
      · have := k8 (by omega)
        omega
    have o : ∀ x, ¬ x = 4 → ¬ x = 8 → ¬ x = 9 → (zup (zup (zup h 8 (h 4 10) a) 9 (h 4 10) b) 4 10 (h 4 10 + 1)) x = h x := fun x p q r => by rw [zup_ne p, zup_ne r, zup_ne q]
    have o4 : ∀ j, ¬ j = 10 → (zup (zup (zup h 8 (h 4 10) a) 9 (h 4 10) b) 4 10 (h 4 10 + 1)) 4 j = h 4 j := fun j p => by rw [zup_ns p, zup_ne (by decide), zup_ne (by decide)]
    have fq : fits n LE (LF ++ [(a, b)]) ↔ fits n LE LF := by
      unfold fits
      rw [len_1]
      omega
    refine kk _ ⟨fun x p => o x (by omega) (by omega) (by omega), o4 11 (by decide)⟩ o ?_
    unfold drC
    rw [fq, o4 7 (by decide), o4 8 (by decide), o4 11 (by decide), o4 9 (by decide), o4 12 (by decide), o 10 (by decide) (by decide) (by decide), o 5 (by decide) (by decide) (by decide), o 6 (by decide) (by decide) (by decide), mk_e (o 7 (by decide) (by decide) (by decide)), len_1, zup_eq]
    refine ⟨k1, k2, k3, by omega, k5, fun _ => ⟨by omega, fun i i0 i1 => ?_⟩, k7, fun z => absurd z (by omega), k9, k10⟩
    rw [zup_ne (by decide), zup_ne (by decide), zup_r, zup_ne (by decide), zup_r, zup_ne (by decide)]
    by_cases w : i = LF.length
    · rw [gF_r w, w, ← ll.2, fup_eq, fup_eq]
      exact ⟨rfl, rfl⟩
    · rw [gF_l i0 (by omega), fup_ne (by omega), fup_ne (by omega)]
      exact (k6 (by omega)).2 i i0 (by omega)
  · have ll : 64 ≤ LF.length := by
      by_cases w : LF.length ≤ 64
      · have := (k6 w).1
        omega
      · omega
    have fq : ¬ fits n LE (LF ++ [(a, b)]) := by
      unfold fits
      rw [len_1]
      omega
    have o4 : ∀ j, ¬ j = 12 → (zup h 4 12 1) 4 j = h 4 j := fun j p => zup_ns p
    have o : ∀ x, ¬ x = 4 → (zup h 4 12 1) x = h x := fun x p => zup_ne p
    refine kk _ ⟨fun x p => o x (by omega), o4 11 (by decide)⟩ (fun x p _ _ => o x p) ?_
    unfold drC
    rw [o4 7 (by decide), o4 8 (by decide), o4 11 (by decide), o4 9 (by decide), o4 10 (by decide), o 10 (by decide), o 5 (by decide), o 6 (by decide), o 8 (by decide), o 9 (by decide), mk_e (o 7 (by decide)), len_1]
    exact ⟨k1, k2, k3, k4, k5, fun z => absurd z (by omega), k7, fun _ => by omega, fun z => absurd z fq, fun _ => zup_eq⟩
/-- a list of bits -/
def bL (x : Int) (f : Int → fT) : Nat → List fT
  | 0 => []
  | k + 1 => if tb x k = true then bL x f k ++ [f k] else bL x f k
theorem bL_s {x : Int} {f : Int → fT} {k : Nat} : bL x f (k + 1) = if tb x k = true then bL x f k ++ [f k] else bL x f k := rfl
theorem bL_mem {x : Int} {f : Int → fT} : ∀ {k : Nat} {y : fT}, y ∈ bL x f k → ∃ q : Nat, q < k ∧ tb x q = true ∧ y = f q
  | 0, y, h => absurd h (List.not_mem_nil)
  | k + 1, y, h => by
    rw [bL_s] at h
    by_cases c : tb x k = true
    · rw [if_pos c] at h
      rcases List.mem_append.mp h with h | h
      · obtain ⟨q, q0, q1, q2⟩ := bL_mem h
        exact ⟨q, by omega, q1, q2⟩
      · rw [List.mem_singleton] at h
        exact ⟨k, by omega, c, h⟩
    · rw [if_neg c] at h
      obtain ⟨q, q0, q1, q2⟩ := bL_mem h
      exact ⟨q, by omega, q1, q2⟩
theorem bL_e {x : Int} {f : Int → fT} {n : Nat} : ∀ (j : Nat), (∀ k : Nat, n ≤ k → k < n + j → tb x k = false) → bL x f (n + j) = bL x f n
  | 0, _ => rfl
  | j + 1, h => by
    rw [show n + (j + 1) = n + j + 1 by omega, bL_s, h (n + j) (by omega) (by omega), if_neg (by decide)]
    exact bL_e j (fun k a b => h k a (by omega))
theorem sp_freeFromEach {K : zH → Prop} {x s t : Int} (k : drC h n en LE LF) (kk : ∀ h' : zH, dF h h' → drC h' n en LE (LF ++ bL x (fun q => (q + s, t)) 40) → K h') : zCv G (d + 1) mX2_freeFromEach [vr 2 4, vl x, vi s, vi t] h K := by
  have go : ∀ (f : Nat) (q : Nat) (h1 : zH), q + f = 40 → dF h h1 → drC h1 n en LE (LF ++ bL x (fun q => (q + s, t)) q) → tX2_freeFromEach_3 G d K x s t q h1 := by
    intro f
    induction f with
    | zero =>
      intro q h1 e f1 dc
      have e : q = 40 := by omega
      subst e
      exact bX2_freeFromEach_3 ⟨⟨by decide, by decide⟩, fun _ => kk h1 f1 dc, fun z => absurd (by decide) z⟩
    | succ f ih =>
      intro q h1 e f1 dc
      refine bX2_freeFromEach_3 ⟨⟨by omega, by omega⟩, fun z => absurd z (by omega), fun _ => ⟨fun z => ?_, fun z => ?_⟩⟩
      · refine ih (q + 1) h1 (by omega) f1 ?_
        rw [bL_s, if_neg (fun w => z ((zbit_u (by omega) (by omega)).mpr w))]
        exact dc
      · refine sp_addFree dc (fun h2 g1 _ g2 => ih (q + 1) h2 (by omega) (dF_t f1 g1) ?_)
        rw [bL_s, if_pos ((zbit_u (by omega) (by omega)).mp z), ← List.append_assoc]
        exact g2
  refine eX2_freeFromEach (bX2_freeFromEach_0 (go 40 0 h (by omega) (dF_r h) ?_))
  show drC h n en LE (LF ++ [])
  rw [List.append_nil]
  exact k
theorem sp_freeToEach {K : zH → Prop} {x s : Int} (k : drC h n en LE LF) (kk : ∀ h' : zH, dF h h' → drC h' n en LE (LF ++ bL x (fun q => (0, q + s)) 40) → K h') : zCv G (d + 1) mX2_freeToEach [vr 2 4, vl x, vi s] h K := by
  have go : ∀ (f : Nat) (q : Nat) (h1 : zH), q + f = 40 → dF h h1 → drC h1 n en LE (LF ++ bL x (fun q => (0, q + s)) q) → tX2_freeToEach_3 G d K x s q h1 := by
    intro f
    induction f with
    | zero =>
      intro q h1 e f1 dc
      have e : q = 40 := by omega
      subst e
      exact bX2_freeToEach_3 ⟨⟨by decide, by decide⟩, fun _ => kk h1 f1 dc, fun z => absurd (by decide) z⟩
    | succ f ih =>
      intro q h1 e f1 dc
      refine bX2_freeToEach_3 ⟨⟨by omega, by omega⟩, fun z => absurd z (by omega), fun _ => ⟨fun z => ?_, fun z => ?_⟩⟩
      · refine ih (q + 1) h1 (by omega) f1 ?_
        rw [bL_s, if_neg (fun w => z ((zbit_u (by omega) (by omega)).mpr w))]
        exact dc
      · refine sp_addFree dc (fun h2 g1 _ g2 => ih (q + 1) h2 (by omega) (dF_t f1 g1) ?_)
        rw [bL_s, if_pos ((zbit_u (by omega) (by omega)).mp z), ← List.append_assoc]
        exact g2
  refine eX2_freeToEach (bX2_freeToEach_0 (go 40 0 h (by omega) (dF_r h) ?_))
  show drC h n en LE (LF ++ [])
  rw [List.append_nil]
  exact k
/-- a machine's free steps, moved, or the other way -/
def fL (D : zH) (s : Int) (bk : Bool) : Nat → List fT
  | 0 => []
  | k + 1 => fL D s bk k ++ [if bk = true then (D 6 k + s, D 5 k + s) else (D 5 k + s, D 6 k + s)]
theorem fL_s {D : zH} {s : Int} {bk : Bool} {k : Nat} : fL D s bk (k + 1) = fL D s bk k ++ [if bk = true then (D 6 k + s, D 5 k + s) else (D 5 k + s, D 6 k + s)] := rfl
theorem fL_mem {D : zH} {s : Int} {bk : Bool} : ∀ {k : Nat} {y : fT}, y ∈ fL D s bk k → ∃ i : Int, (0 ≤ i ∧ i < k) ∧ (y = (D 6 i + s, D 5 i + s) ∨ y = (D 5 i + s, D 6 i + s))
  | 0, y, h => absurd h (List.not_mem_nil)
  | k + 1, y, h => by
    rw [fL_s] at h
    rcases List.mem_append.mp h with h | h
    · obtain ⟨i, q0, q1⟩ := fL_mem h
      exact ⟨i, by omega, q1⟩
    · rw [List.mem_singleton] at h
      refine ⟨k, by omega, ?_⟩
      cases bk
      · rw [if_neg (by decide)] at h
        exact Or.inr h
      · rw [if_pos rfl] at h
        exact Or.inl h
theorem sp_copyFrees {K : zH → Prop} {m s : Int} {bk : Bool} (mc : mcell m) (hD : mOK D) (hr : cRep h m D) (k : drC h n en LE LF) (kk : ∀ h' : zH, dF h h' → drC h' n en LE (LF ++ fL D s bk (D 0 3).toNat) → K h') : zCv G (d + 1) mX2_copyFrees [vr 2 4, vr 4 m, vi s, vi (bi bk)] h K := by
  have F0 := mO_fr hD
  have go : ∀ (f : Nat) (q : Nat) (h1 : zH), (q : Int) + f = D 0 3 → dF h h1 → drC h1 n en LE (LF ++ fL D s bk q) → tX2_copyFrees_3 G d K m s bk q h1 := by
    intro f
    induction f with
    | zero =>
      intro q h1 e f1 dc
      have r1 := dF_cRep mc f1 hr
      refine bX2_copyFrees_3 ?_
      rw [r1.1.2.2.2.1]
      exact ⟨⟨by omega, by omega⟩, ⟨by omega, by omega⟩, fun _ => kk h1 f1 (by rw [show (D 0 3).toNat = q by omega]; exact dc), fun z => absurd (by omega) z⟩
    | succ f ih =>
      intro q h1 e f1 dc
      have r1 := dF_cRep mc f1 hr
      have rf := r1.2.2.1 q (by omega) (by omega)
      refine bX2_copyFrees_3 ?_
      rw [r1.1.2.2.2.1, rf.1, rf.2]
      refine ⟨⟨by omega, by omega⟩, ⟨by omega, by omega⟩, fun z => absurd z (by omega), fun _ => ⟨fun z => ⟨by omega, fun _ => ⟨by omega, sp_addFree dc (fun h2 g1 _ g2 => ih (q + 1) h2 (by omega) (dF_t f1 g1) ?_)⟩, fun z2 => absurd (z.symm.trans z2) (by decide)⟩, fun z => ⟨by omega, fun z2 => absurd (z.symm.trans z2) (by decide), fun _ => ⟨by omega, sp_addFree dc (fun h2 g1 _ g2 => ih (q + 1) h2 (by omega) (dF_t f1 g1) ?_)⟩⟩⟩⟩
      · rw [fL_s, z, if_neg (by decide), ← List.append_assoc]
        rw [z] at g2
        exact g2
      · rw [fL_s, z, if_pos rfl, ← List.append_assoc]
        rw [z] at g2
        exact g2
  refine eX2_copyFrees (bX2_copyFrees_0 (go (D 0 3).toNat 0 h (by omega) (dF_r h) ?_))
  show drC h n en LE (LF ++ [])
  rw [List.append_nil]
  exact k
end DA
