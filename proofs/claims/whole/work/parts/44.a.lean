/-! ===== the model at a token ===== -/
def MT (bs : Int → Int) (n : Int) (K Sp V En : Int → Int) (m : Int) (h : zH) (i : Int) : Prop := h 466 10 = 0 ∧ tpe h bs n ∧ mT h (Sp i) (K i) (V i) (En i) ∧ 0 ≤ i ∧ i < m
/-- what a body's reading may change in the model -/
def mB (T : Int) (h h' : zH) : Prop := (∀ a, ¬ a = 466 → ¬ a = 468 → h' a = h a) ∧ (∀ j, ¬ (6 ≤ j ∧ j ≤ 11) → ¬ j = 13 → ¬ j = 14 → h' 466 j = h 466 j) ∧ ∀ w, w < T * 1024 → h' 468 w = h 468 w
theorem mB_r (T : Int) (h : zH) : mB T h h := ⟨fun _ _ _ => rfl, fun _ _ _ _ => rfl, fun _ _ => rfl⟩
theorem mB_t {T : Int} {h1 h2 h3 : zH} (a : mB T h1 h2) (b : mB T h2 h3) : mB T h1 h3 := ⟨fun x p q => (b.1 x p q).trans (a.1 x p q), fun j p q r => (b.2.1 j p q r).trans (a.2.1 j p q r), fun w p => (b.2.2 w p).trans (a.2.2 w p)⟩
theorem mB_le {T T' : Int} {h h' : zH} (l : T' ≤ T) (a : mB T h h') : mB T' h h' := ⟨a.1, a.2.1, fun w p => a.2.2 w (by omega)⟩
theorem mB_n {T : Int} {h h' : zH} (f : nF h h') : mB T h h' := ⟨fun a p _ => f.1 a p, fun j p q r => f.2 j (by omega) (by omega), fun w _ => by rw [f.1 468 (by decide)]⟩
theorem tpe_B {T : Int} {h h' : zH} {bs : Int → Int} {n : Int} (f : mB T h h') (t : tpe h bs n) : tpe h' bs n := by
  obtain ⟨a, b, c⟩ := t
  exact ⟨by rw [f.2.1 5 (by decide) (by decide) (by decide), a], b, fun i i0 i1 => by rw [f.1 467 (by decide) (by decide)]; exact c i i0 i1⟩
/-- a fault that is told -/
def MF (T : Int) (h h' : zH) (n s : Int) : Prop := mB T h h' ∧ h' 466 10 = n ∧ h' 466 8 = s ∧ h' 466 7 = 0 ∧ (0 < n ∧ n ≤ 8)
theorem MF_t {T : Int} {h1 h2 h3 : zH} {n s : Int} (a : mB T h1 h2) (b : MF T h2 h3 n s) : MF T h1 h3 n s := ⟨mB_t a b.1, b.2⟩
theorem MF_le {T T' : Int} {h h' : zH} {n s : Int} (l : T' ≤ T) (a : MF T h h' n s) : MF T' h h' n s := ⟨mB_le l a.1, a.2⟩
theorem cd_ne : ∀ a < 6, ∀ b < 6, ¬ a = b → ¬ cd (a : Nat) = cd (b : Nat) := by decide +kernel
theorem kdW_k {v : Int} {k : Nat} (hk : k < 6) : v = cd k ↔ kdW v = 5 + k := by
  have ne := cd_ne
  constructor
  · intro e
    rw [e]
    unfold kdW
    have c : k = 0 ∨ k = 1 ∨ k = 2 ∨ k = 3 ∨ k = 4 ∨ k = 5 := by omega
    rcases c with c | c | c | c | c | c <;> subst c
    · exact if_pos rfl
    · exact (if_neg (ne 1 (by decide) 0 (by decide) (by decide))).trans (if_pos rfl)
    · exact (if_neg (ne 2 (by decide) 0 (by decide) (by decide))).trans ((if_neg (ne 2 (by decide) 1 (by decide) (by decide))).trans (if_pos rfl))
    · exact (if_neg (ne 3 (by decide) 0 (by decide) (by decide))).trans ((if_neg (ne 3 (by decide) 1 (by decide) (by decide))).trans ((if_neg (ne 3 (by decide) 2 (by decide) (by decide))).trans (if_pos rfl)))
    · exact (if_neg (ne 4 (by decide) 0 (by decide) (by decide))).trans ((if_neg (ne 4 (by decide) 1 (by decide) (by decide))).trans ((if_neg (ne 4 (by decide) 2 (by decide) (by decide))).trans ((if_neg (ne 4 (by decide) 3 (by decide) (by decide))).trans (if_pos rfl))))
    · exact (if_neg (ne 5 (by decide) 0 (by decide) (by decide))).trans ((if_neg (ne 5 (by decide) 1 (by decide) (by decide))).trans ((if_neg (ne 5 (by decide) 2 (by decide) (by decide))).trans ((if_neg (ne 5 (by decide) 3 (by decide) (by decide))).trans ((if_neg (ne 5 (by decide) 4 (by decide) (by decide))).trans (if_pos rfl)))))
  · intro e
    unfold kdW at e
    by_cases c0 : v = cd 0
    · rw [if_pos c0] at e
      rw [show k = 0 by omega]
      exact c0
    rw [if_neg c0] at e
    by_cases c1 : v = cd 1
    · rw [if_pos c1] at e
      rw [show k = 1 by omega]
      exact c1
    rw [if_neg c1] at e
    by_cases c2 : v = cd 2
    · rw [if_pos c2] at e
      rw [show k = 2 by omega]
      exact c2
    rw [if_neg c2] at e
    by_cases c3 : v = cd 3
    · rw [if_pos c3] at e
      rw [show k = 3 by omega]
      exact c3
    rw [if_neg c3] at e
    by_cases c4 : v = cd 4
    · rw [if_pos c4] at e
      rw [show k = 4 by omega]
      exact c4
    rw [if_neg c4] at e
    by_cases c5 : v = cd 5
    · rw [if_pos c5] at e
      rw [show k = 5 by omega]
      exact c5
    · rw [if_neg c5] at e
      omega
section MA
variable {G : zG} {d : Nat} {h : zH} {bs : Int → Int} {n : Int} {K Sp V En : Int → Int} {m i : Int}
/-- the model's kind -/
theorem MT_k (ts : tkS bs n K Sp V En m) (t : MT bs n K Sp V En m h i) : (h 466 7 = 1 ∧ K i = 0) ∨ (h 466 7 = 0 ∧ K i = 1) ∨ (h 466 7 = 2 ∧ h 466 11 = V i ∧ K i = kdW (V i) ∧ (K i = 2 ∨ (5 ≤ K i ∧ K i ≤ 10)) ∧ 0 ≤ V i ∧ V i ≤ 34359738368) ∨ (h 466 7 = 3 ∧ h 466 9 = V i ∧ K i = 3 ∧ 0 ≤ V i ∧ V i < 100000) ∨ (h 466 7 = 4 ∧ K i = 4) ∨ (h 466 7 = 5 ∧ h 466 9 = K i ∧ 33 ≤ K i ∧ K i ≤ 124) := by
  have tk := tok_k (ts.2.1 i t.2.2.2.1 t.2.2.2.2).2.1
  obtain ⟨-, a0, a1, a2, a3, a4, a5⟩ := t.2.2.1
  rcases tk with q | q | q | q | q | q
  · exact Or.inl ⟨(a0 q).1, q⟩
  · exact Or.inr (Or.inl ⟨a1 q, q⟩)
  · exact Or.inr (Or.inr (Or.inl ⟨(a2 q.1).1, (a2 q.1).2.1, q.2.1, q.1, q.2.2⟩))
  · exact Or.inr (Or.inr (Or.inr (Or.inl ⟨(a3 q.1).1, (a3 q.1).2.1, q⟩)))
  · exact Or.inr (Or.inr (Or.inr (Or.inr (Or.inl ⟨(a4 q).1, q⟩))))
  · unfold isSg at q
    exact Or.inr (Or.inr (Or.inr (Or.inr (Or.inr ⟨(a5 (by omega)).1, (a5 (by omega)).2.1, by omega⟩))))
theorem sm_nextT {Q : zH → Prop} (ts : tkS bs n K Sp V En m) (t : MT bs n K Sp V En m h i) (k0 : ¬ K i = 0) (k1 : ¬ K i = 1) (k : ∀ h' : zH, nF h h' → h' 466 10 = 0 → MT bs n K Sp V En m h' (i + 1) → Q h') : zCv G (d + 2) mX12_next [vr 12 466] h Q := by
  have tk := tkS_TK ts
  obtain ⟨t1, t2, t3, t4, t5⟩ := t
  have lt : i + 1 < m := ((tk.2 i t4 t5).2.2.2).mpr ⟨k0, k1⟩
  have s3 := ts.2.2.1 i t4 lt
  have si := (ts.2.1 i t4 t5).1
  have sj := ts.2.1 (i + 1) (by omega) lt
  have kk := tok_k (ts.2.1 i t4 t5).2.1
  have e6 : h 466 6 = En i := by
    obtain ⟨-, a0, a1, a2, a3, a4, a5⟩ := t3
    rcases kk with q | q | q | q | q | q
    · exact absurd q k0
    · exact absurd q k1
    · exact (a2 q.1).2.2
    · exact (a3 q.1).2.2
    · exact (a4 q).2
    · unfold isSg at q
      exact (a5 (by omega)).2.2
  refine sm_next t1 t2 e6 (by omega) s3.2.2 sj.2.2 sj.2.1 (fun h' f mt => ?_)
  have e10 : h' 466 10 = 0 := by rw [f.2 10 (by decide) (by decide), t1]
  exact k h' f e10 ⟨e10, tpe_n f t2, mt, by omega, lt⟩
theorem sm_is {Q : Bool → zH → Prop} {x : Int} (ts : tkS bs n K Sp V En m) (t : MT bs n K Sp V En m h i) (hx : 33 ≤ x ∧ x ≤ 124) (k1 : K i = x → Q true h) (k2 : ¬ K i = x → Q false h) : zCb G d mX12_is [vr 12 466, vi x] h Q := by
  have q := MT_k ts t
  refine eX12_is (bX12_is_0 ?_)
  rw [t.1]
  refine ⟨⟨by decide, by decide⟩, fun z => absurd rfl z, fun _ => ⟨⟨by omega, by omega⟩, fun n5 => k2 (by omega), fun e5 => ⟨⟨by omega, by omega⟩, ⟨by omega, by omega⟩, fun ne => k2 (by omega), fun e => k1 (by omega)⟩⟩⟩
theorem sm_is_f {Q : Bool → zH → Prop} {x : Int} (hf : 0 < h 466 10 ∧ h 466 10 ≤ 8) (k : Q false h) : zCb G d mX12_is [vr 12 466, vi x] h Q :=
  eX12_is (bX12_is_0 ⟨⟨by omega, by omega⟩, fun _ => k, fun z => absurd z (by omega)⟩)
theorem sm_passes {Q : Bool → zH → Prop} {x : Int} (ts : tkS bs n K Sp V En m) (t : MT bs n K Sp V En m h i) (hx : 33 ≤ x ∧ x ≤ 124) (k1 : K i = x → ∀ h' : zH, nF h h' → MT bs n K Sp V En m h' (i + 1) → Q true h') (k2 : ¬ K i = x → Q false h) : zCb G (d + 3) mX12_passes [vr 12 466, vi x] h Q :=
  eX12_passes (bX12_passes_0 (sm_is ts t hx (fun e => ⟨fun z => (by cases z), fun _ => sm_nextT ts t (by omega) (by omega) (fun h' f _ t' => k1 e h' f t')⟩) (fun ne => ⟨fun _ => k2 ne, fun z => (by cases z)⟩)))
theorem sm_passes_f {Q : Bool → zH → Prop} {x : Int} (hf : 0 < h 466 10 ∧ h 466 10 ≤ 8) (k : Q false h) : zCb G (d + 1) mX12_passes [vr 12 466, vi x] h Q :=
  eX12_passes (bX12_passes_0 (sm_is_f hf ⟨fun _ => k, fun z => (by cases z)⟩))
theorem sm_wrongThere {Q : zH → Prop} {w s : Int} (t : h 466 10 = 0) (hw : 0 < w ∧ w ≤ 8) (k : ∀ h' : zH, (∀ a, ¬ a = 466 → h' a = h a) → (∀ j, ¬ j = 7 → ¬ j = 8 → ¬ j = 10 → h' 466 j = h 466 j) → h' 466 10 = w → h' 466 8 = s → h' 466 7 = 0 → Q h') : zCv G d mX12_wrongThere [vr 12 466, vi w, vi s] h Q := by
  refine eX12_wrongThere (bX12_wrongThere_0 ?_)
  rw [t]
  refine ⟨⟨by decide, by decide⟩, fun _ => k _ (fun a p => by rw [zup_ne p, zup_ne p, zup_ne p]) (fun j p q r => by rw [zup_ns p, zup_ns q, zup_ns r]) (by rw [zup_ns (by decide), zup_ns (by decide), zup_eq]) (by rw [zup_ns (by decide), zup_eq]) zup_eq, fun z => absurd (by decide) z⟩
theorem sm_wrongT {Q : zH → Prop} {w T : Int} (t : MT bs n K Sp V En m h i) (hw : 0 < w ∧ w ≤ 8) (k : ∀ h' : zH, (∀ a, ¬ a = 466 → h' a = h a) → (∀ j, ¬ j = 7 → ¬ j = 8 → ¬ j = 10 → h' 466 j = h 466 j) → MF T h h' w (Sp i) → Q h') : zCv G (d + 1) mX12_wrong [vr 12 466, vi w] h Q := by
  refine eX12_wrong (bX12_wrong_0 ?_)
  rw [t.2.2.1.1]
  exact sm_wrongThere t.1 hw (fun h' g1 g2 g3 g4 g5 => k h' g1 g2 ⟨⟨fun a p _ => g1 a p, fun j p q r => g2 j (by omega) (by omega) (by omega), fun w _ => by rw [g1 468 (by decide)]⟩, g3, g4, g5, hw⟩)
theorem sm_wrong_f {Q : zH → Prop} {w : Int} (hf : 0 < h 466 10 ∧ h 466 10 ≤ 8) (k : Q h) : zCv G (d + 1) mX12_wrong [vr 12 466, vi w] h Q :=
  eX12_wrong (bX12_wrong_0 (eX12_wrongThere (bX12_wrongThere_0 ⟨⟨by omega, by omega⟩, fun z => absurd z (by omega), fun _ => k⟩)))
theorem sm_must {Q : zH → Prop} {x T : Int} (ts : tkS bs n K Sp V En m) (t : MT bs n K Sp V En m h i) (hx : 33 ≤ x ∧ x ≤ 124) (k1 : K i = x → ∀ h' : zH, nF h h' → MT bs n K Sp V En m h' (i + 1) → Q h') (k2 : ¬ K i = x → ∀ h' : zH, (∀ a, ¬ a = 466 → h' a = h a) → (∀ j, ¬ j = 7 → ¬ j = 8 → ¬ j = 10 → h' 466 j = h 466 j) → MF T h h' 1 (Sp i) → Q h') : zCv G (d + 4) mX12_must [vr 12 466, vi x] h Q :=
  eX12_must (bX12_must_0 (sm_passes ts t hx (fun e h' f t' => ⟨fun _ => k1 e h' f t', fun z => (by cases z)⟩) (fun ne => ⟨fun z => (by cases z), fun _ => sm_wrongT t (by decide) (k2 ne)⟩)))
theorem sm_must_f {Q : zH → Prop} {x : Int} (hf : 0 < h 466 10 ∧ h 466 10 ≤ 8) (k : Q h) : zCv G (d + 2) mX12_must [vr 12 466, vi x] h Q :=
  eX12_must (bX12_must_0 (sm_passes_f hf ⟨fun z => (by cases z), fun _ => sm_wrong_f hf k⟩))
theorem sm_isWord {Q : Bool → zH → Prop} {w : Nat} (hw : w < 6) (ts : tkS bs n K Sp V En m) (t : MT bs n K Sp V En m h i) (k1 : K i = 5 + w → Q true h) (k2 : ¬ K i = 5 + w → Q false h) : zCb G (d + 6) mX12_isWord [vr 12 466, (40, (w : Int))] h Q := by
  have q := MT_k ts t
  refine eX12_isWord (bX12_isWord_0 ?_)
  rw [t.1]
  refine ⟨⟨by decide, by decide⟩, fun z => absurd rfl z, fun _ => ⟨⟨by omega, by omega⟩, fun n2 => k2 (by omega), fun e2 => sm_packed hw ?_⟩⟩
  obtain ⟨q1, q2, q3, q4⟩ : h 466 11 = V i ∧ K i = kdW (V i) ∧ (0 ≤ V i ∧ V i ≤ 34359738368) ∧ True := by
    rcases q with q | q | q | q | q | q
    · omega
    · omega
    · exact ⟨q.2.1, q.2.2.1, q.2.2.2.2, trivial⟩
    · omega
    · omega
    · omega
  rw [q1]
  have z := (zcmp_lt (x := V i) (y := cd w) ⟨by omega, by omega⟩ (cd_R w hw)).2.1
  rw [z, kdW_k hw, ← q2]
  exact ⟨k2, k1⟩
theorem sm_isWord_f {Q : Bool → zH → Prop} {w : Int} (hf : 0 < h 466 10 ∧ h 466 10 ≤ 8) (k : Q false h) : zCb G (d + 1) mX12_isWord [vr 12 466, (40, w)] h Q :=
  eX12_isWord (bX12_isWord_0 ⟨⟨by omega, by omega⟩, fun _ => k, fun z => absurd z (by omega)⟩)
theorem sm_isName {Q : Bool → zH → Prop} (ts : tkS bs n K Sp V En m) (t : MT bs n K Sp V En m h i) (k1 : K i = 2 → Q true h) (k2 : ¬ K i = 2 → Q false h) : zCb G (d + 7) mX12_isName [vr 12 466] h Q := by
  have q := MT_k ts t
  refine eX12_isName (bX12_isName_0 ?_)
  rw [t.1]
  refine ⟨⟨by decide, by decide⟩, fun z => absurd rfl z, fun _ => ⟨⟨by omega, by omega⟩, fun n2 => k2 (by omega), fun e2 => ?_⟩⟩
  have q2 : K i = 2 ∨ (5 ≤ K i ∧ K i ≤ 10) := by omega
  refine sm_isWord (w := 0) (by decide) ts t (fun e => ⟨fun _ => k2 (by omega), fun z => (by cases z)⟩) (fun e0 => ⟨fun z => (by cases z), fun _ => ?_⟩)
  refine sm_isWord (w := 1) (by decide) ts t (fun e => ⟨fun _ => k2 (by omega), fun z => (by cases z)⟩) (fun e1 => ⟨fun z => (by cases z), fun _ => ?_⟩)
  refine sm_isWord (w := 2) (by decide) ts t (fun e => ⟨fun _ => k2 (by omega), fun z => (by cases z)⟩) (fun e2 => ⟨fun z => (by cases z), fun _ => ?_⟩)
  refine sm_isWord (w := 3) (by decide) ts t (fun e => ⟨fun _ => k2 (by omega), fun z => (by cases z)⟩) (fun e3 => ⟨fun z => (by cases z), fun _ => ?_⟩)
  refine sm_isWord (w := 4) (by decide) ts t (fun e => ⟨fun _ => k2 (by omega), fun z => (by cases z)⟩) (fun e4 => ⟨fun z => (by cases z), fun _ => ?_⟩)
  exact sm_isWord (w := 5) (by decide) ts t (fun e => ⟨fun _ => k2 (by omega), fun z => (by cases z)⟩) (fun e5 => ⟨fun z => (by cases z), fun _ => k1 (by omega)⟩)
theorem sm_isName_f {Q : Bool → zH → Prop} (hf : 0 < h 466 10 ∧ h 466 10 ≤ 8) (k : Q false h) : zCb G (d + 1) mX12_isName [vr 12 466] h Q :=
  eX12_isName (bX12_isName_0 ⟨⟨by omega, by omega⟩, fun _ => k, fun z => absurd z (by omega)⟩)
theorem sm_whole {Q : Int → zH → Prop} {lo hi T : Int} (hl : 0 ≤ lo ∧ lo ≤ hi ∧ hi < 100000) (ts : tkS bs n K Sp V En m) (t : MT bs n K Sp V En m h i) (k1 : K i = 3 → lo ≤ V i → V i ≤ hi → ∀ h' : zH, nF h h' → MT bs n K Sp V En m h' (i + 1) → Q (V i) h') (k2 : ∀ w, (¬ K i = 3 ∧ w = 1) ∨ (K i = 3 ∧ w = 4 ∧ (V i < lo ∨ hi < V i)) → ∀ h' : zH, (∀ a, ¬ a = 466 → h' a = h a) → (∀ j, ¬ j = 7 → ¬ j = 8 → ¬ j = 10 → h' 466 j = h 466 j) → MF T h h' w (Sp i) → Q lo h') : zCi G (d + 3) mX12_whole [vr 12 466, vi lo, vi hi] h Q := by
  have q := MT_k ts t
  have fin : ∀ w, (0 < w ∧ w ≤ 8) → ((¬ K i = 3 ∧ w = 1) ∨ (K i = 3 ∧ w = 4 ∧ (V i < lo ∨ hi < V i))) → zCv G (d + 2) mX12_wrong [vr 12 466, vi w] h (fun h8 => zR (h8 466 10) ∧ ((h8 466 10) ≤ 0 → zCv G (d + 2) mX12_next [vr 12 466] h8 (fun h10 => Q (h8 466 9) h10)) ∧ (¬ (h8 466 10) ≤ 0 → zCv G (d + 2) mX12_next [vr 12 466] h8 (fun h12 => Q lo h12))) := fun w hw c => sm_wrongT (T := T) t hw (fun h' g1 g2 g3 => by
    have e := g3.2.1
    rw [e]
    exact ⟨⟨by omega, by omega⟩, fun z => absurd z (by omega), fun _ => sm_next_f (by omega) (k2 w c h' g1 g2 g3)⟩)
  refine eX12_whole (bX12_whole_0 ⟨⟨by omega, by omega⟩, fun e3 => ?_, fun n3 => fin 1 (by decide) (Or.inl ⟨by omega, rfl⟩)⟩)
  have q2 : h 466 9 = V i ∧ K i = 3 ∧ 0 ≤ V i ∧ V i < 100000 := by omega
  rw [q2.1]
  have vR : zR (V i) := ⟨by omega, by omega⟩
  refine eX12_in (bX12_in_0 ⟨vR, ⟨by omega, by omega⟩, fun lt => ⟨fun z => (by cases z), fun _ => fin 4 (by decide) (Or.inr ⟨q2.2.1, rfl, Or.inl (by omega)⟩)⟩, fun ge => ⟨vR, ⟨by omega, by omega⟩, fun gt => ⟨fun z => (by cases z), fun _ => fin 4 (by decide) (Or.inr ⟨q2.2.1, rfl, Or.inr (by omega)⟩)⟩, fun le => ⟨fun _ => ?_, fun z => (by cases z)⟩⟩⟩)
  rw [t.1, q2.1]
  exact ⟨⟨by decide, by decide⟩, fun _ => sm_nextT ts t (by omega) (by omega) (fun h' f _ t' => k1 q2.2.1 (by omega) (by omega) h' f t'), fun z => absurd (by decide) z⟩
theorem sm_whole_f {Q : Int → zH → Prop} {lo hi : Int} (hf : 0 < h 466 10 ∧ h 466 10 ≤ 8) (h7 : h 466 7 = 0) (k : Q lo h) : zCi G (d + 3) mX12_whole [vr 12 466, vi lo, vi hi] h Q := by
  refine eX12_whole (bX12_whole_0 ?_)
  rw [h7]
  exact ⟨⟨by decide, by decide⟩, fun z => absurd z (by decide), fun _ => sm_wrong_f hf ⟨⟨by omega, by omega⟩, fun z => absurd z (by omega), fun _ => sm_next_f hf k⟩⟩
end MA
