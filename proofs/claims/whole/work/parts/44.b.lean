/-! ===== the model's sets of bits ===== -/
theorem tb_out {x k : Int} (hk : 64 ≤ k) : tb x k = false := by
  unfold tb
  exact BitVec.getLsbD_of_ge _ _ (by omega)
theorem zcmp_tb {x y : Int} : zcmp x y = 0 ↔ ∀ k, 0 ≤ k → k < 64 → tb x k = tb y k := by
  rw [zcmp_eq]
  constructor
  · intro e k _ _
    unfold tb
    rw [e]
  · intro e
    have : (Int64.ofInt x).toBitVec = (Int64.ofInt y).toBitVec := by
      apply BitVec.eq_of_getLsbD_eq
      intro i hi
      have := e i (by omega) (by omega)
      unfold tb at this
      rwa [Int.toNat_natCast] at this
    exact Int64.toBitVec_inj.mp this
/-- row k of the bits tells a set -/
def bSt (h : zH) (k : Int) (S : Int → Bool) : Prop := ∀ z, 0 ≤ z → z < 65536 → tb (h 468 (k * 1024 + z / 64)) (z % 64) = S z
/-- only row T of the bits changes -/
def rB (T : Int) (h h' : zH) : Prop := (∀ a, ¬ a = 468 → h' a = h a) ∧ ∀ w, ¬ (T * 1024 ≤ w ∧ w < T * 1024 + 1024) → h' 468 w = h 468 w
theorem rB_r (T : Int) (h : zH) : rB T h h := ⟨fun _ _ => rfl, fun _ _ => rfl⟩
theorem rB_t {T : Int} {h1 h2 h3 : zH} (a : rB T h1 h2) (b : rB T h2 h3) : rB T h1 h3 := ⟨fun x p => (b.1 x p).trans (a.1 x p), fun w p => (b.2 w p).trans (a.2 w p)⟩
theorem rB_u {T w x : Int} {h h1 : zH} (hw : T * 1024 ≤ w ∧ w < T * 1024 + 1024) (a : rB T h h1) : rB T h (zup h1 468 w x) := ⟨fun y p => by rw [zup_ne p]; exact a.1 y p, fun v p => by rw [zup_ns (by omega)]; exact a.2 v p⟩
theorem bSt_f {h : zH} {k : Int} {S S' : Int → Bool} (e : ∀ z, 0 ≤ z → z < 65536 → S z = S' z) (b : bSt h k S) : bSt h k S' := fun z a c => by rw [← e z a c]; exact b z a c
theorem bSt_fr {h h' : zH} {k : Int} {S : Int → Bool} (e : ∀ w, k * 1024 ≤ w → w < k * 1024 + 1024 → h' 468 w = h 468 w) (b : bSt h k S) : bSt h' k S := fun z a c => by rw [e _ (by omega) (by omega)]; exact b z a c
section BI
variable {G : zG} {d : Nat} {h : zH} {T : Int}
theorem sm_lays {Q : zH → Prop} {x : Int} {c : Bool} (hx : ∀ k, 0 ≤ k → k < 64 → tb x k = c) (hT : 0 ≤ T ∧ T ≤ 27) (h13 : h 466 13 = T) (k : ∀ h1 : zH, rB T h h1 → bSt h1 T (fun _ => c) → Q (zup h1 466 13 (T + 1))) : zCv G d mX12_lays [vr 12 466, vl x] h Q := by
  have go : ∀ (f : Nat) (w : Int) (h1 : zH), 0 ≤ w → w + f = 1024 → rB T h h1 → (∀ v, 0 ≤ v → v < w → h1 468 (T * 1024 + v) = x) → tX12_lays_2 G d Q x w h1 := by
    intro f
    induction f with
    | zero =>
      intro w h1 w0 wf r1 al
      have e13 : h1 466 13 = T := by rw [r1.1 466 (by decide), h13]
      refine bX12_lays_2 ?_
      rw [e13]
      refine ⟨⟨by omega, by omega⟩, fun _ => k h1 r1 (fun z z0 z1 => ?_), fun z => absurd (by omega) z⟩
      rw [al (z / 64) (by omega) (by omega)]
      exact hx _ (by omega) (by omega)
    | succ f ih =>
      intro w h1 w0 wf r1 al
      have e13 : h1 466 13 = T := by rw [r1.1 466 (by decide), h13]
      refine bX12_lays_2 ?_
      rw [e13]
      refine ⟨⟨by omega, by omega⟩, fun z => absurd z (by omega), fun _ => ⟨by omega, ih (w + 1) _ (by omega) (by omega) (rB_u (by omega) r1) (fun v v0 v1 => ?_)⟩⟩
      by_cases e : v = w
      · rw [e, zup_eq]
      · rw [zup_ns (by omega)]
        exact al v v0 (by omega)
  exact eX12_lays (bX12_lays_0 (go 1024 0 h (by omega) (by omega) (rB_r T h) (fun v v0 v1 => absurd v1 (by omega))))
theorem mask_lo {s b : Int} (hs : 0 ≤ s ∧ s < 64) (hb : 0 ≤ b ∧ b < 64) : tb (zlshl (-1) s) b = decide (s ≤ b) := by
  rw [tb_lshl hs.1 hs.2 hb.1 hb.2]
  by_cases c : s ≤ b
  · rw [decide_eq_true c, tb_m1 (by omega) (by omega)]
    rfl
  · rw [decide_eq_false c]
    rfl
theorem mask_hi {s b : Int} (hs : 0 ≤ s ∧ s < 64) (hb : 0 ≤ b ∧ b < 64) : tb (zlushr (-1) (63 - s)) b = decide (b ≤ s) := by
  rw [tb_lushr (by omega) (by omega) hb.1]
  by_cases c : b ≤ s
  · rw [decide_eq_true c, tb_m1 (by omega) (by omega)]
  · rw [decide_eq_false c, tb_out (by omega)]
theorem sm_laysRange {Q : zH → Prop} {lo hi : Int} {S : Int → Bool} (hl : 0 ≤ lo ∧ lo ≤ hi ∧ hi < 65536) (hT : 0 ≤ T ∧ T ≤ 27) (h13 : h 466 13 = T + 1) (b : bSt h T S) (k : ∀ h' : zH, rB T h h' → bSt h' T (uR S lo hi) → Q h') : zCv G d mX12_laysRange [vr 12 466, vi lo, vi hi] h Q := by
  have go : ∀ (f : Nat) (w : Int) (h1 : zH), lo / 64 ≤ w → w + f = hi / 64 + 1 → rB T h h1 → bSt h1 T (fun z => S z || decide (lo ≤ z ∧ z ≤ hi ∧ z / 64 < w)) → tX12_laysRange_27 G d Q lo hi (T * 1024) (lo / 64) (hi / 64) w h1 := by
    intro f
    induction f with
    | zero =>
      intro w h1 w0 wf r1 b1
      refine bX12_laysRange_27 ⟨⟨by omega, by omega⟩, ⟨by omega, by omega⟩, fun _ => k h1 r1 (bSt_f (fun z z0 z1 => ?_) b1), fun z => absurd (by omega) z⟩
      unfold uR
      congr 1
      exact decide_eq_decide.mpr ⟨fun q => ⟨q.1, q.2.1⟩, fun q => ⟨q.1, q.2, by omega⟩⟩
    | succ f ih =>
      intro w h1 w0 wf r1 b1
      have step : ∀ mk : Int, (∀ c, 0 ≤ c → c < 64 → tb mk c = decide (lo ≤ w * 64 + c ∧ w * 64 + c ≤ hi)) → tX12_laysRange_27 G d Q lo hi (T * 1024) (lo / 64) (hi / 64) (w + 1) (zup h1 468 (T * 1024 + w) (zlor (h1 468 (T * 1024 + w)) mk)) := fun mk hm => by
        refine ih (w + 1) _ (by omega) (by omega) (rB_u (by omega) r1) (fun z z0 z1 => ?_)
        by_cases e : z / 64 = w
        · rw [e, zup_eq, tb_lor, hm _ (by omega) (by omega), ← e, b1 z z0 z1, Bool.or_assoc]
          congr 1
          rw [← Bool.decide_or]
          exact decide_eq_decide.mpr ⟨fun q => by omega, fun q => by omega⟩
        · rw [zup_ns (by omega), b1 z z0 z1]
          show (S z || _) = (S z || _)
          congr 1
          exact decide_eq_decide.mpr ⟨fun q => by omega, fun q => by omega⟩
      have rg : 0 ≤ T * 1024 + w ∧ T * 1024 + w < 28672 := by omega
      have wR : zR w := ⟨by omega, by omega⟩
      refine bX12_laysRange_27 ⟨wR, ⟨by omega, by omega⟩, fun z => absurd z (by omega), fun _ => ⟨wR, ⟨by omega, by omega⟩, fun n1 => ⟨wR, ⟨by omega, by omega⟩, fun n2 => ⟨rg, rg, step _ (fun c c0 c1 => ?_)⟩, fun e2 => ⟨⟨by omega, by omega⟩, rg, rg, step _ (fun c c0 c1 => ?_)⟩⟩, fun e1 => ⟨⟨by omega, by omega⟩, wR, ⟨by omega, by omega⟩, fun n2 => ⟨rg, rg, step _ (fun c c0 c1 => ?_)⟩, fun e2 => ⟨⟨by omega, by omega⟩, rg, rg, step _ (fun c c0 c1 => ?_)⟩⟩⟩⟩
      · rw [tb_m1 c0 c1, decide_eq_true (by omega)]
      · rw [tb_land, tb_m1 c0 c1, mask_hi (by omega) ⟨c0, c1⟩, Bool.true_and]
        exact decide_eq_decide.mpr ⟨fun q => by omega, fun q => by omega⟩
      · rw [tb_land, tb_m1 c0 c1, mask_lo (by omega) ⟨c0, c1⟩, Bool.true_and]
        exact decide_eq_decide.mpr ⟨fun q => by omega, fun q => by omega⟩
      · rw [tb_land, tb_land, tb_m1 c0 c1, mask_lo (by omega) ⟨c0, c1⟩, mask_hi (by omega) ⟨c0, c1⟩, Bool.true_and, ← Bool.decide_and]
        exact decide_eq_decide.mpr ⟨fun q => by omega, fun q => by omega⟩
  refine eX12_laysRange (bX12_laysRange_0 ⟨⟨by omega, by omega⟩, ⟨by omega, by omega⟩, ?_⟩)
  rw [h13, show T + 1 - 1 = T by omega]
  refine go (hi / 64 + 1 - lo / 64).toNat (lo / 64) h (by omega) (by omega) (rB_r T h) (bSt_f (fun z z0 z1 => ?_) b)
  rw [decide_eq_false (by omega), Bool.or_false]
def jO (x : Int) (a b : Bool) : Bool := if x = 124 then (a || b) else if x = 38 then (a && b) else (a && !b)
theorem tb_not {x k : Int} (k0 : 0 ≤ k) (k1 : k < 64) : tb (zlxor x (-1)) k = !(tb x k) := by
  rw [tb_lxor, tb_m1 k0 k1]
  cases tb x k <;> rfl
theorem sm_joins {Q : zH → Prop} {x : Int} {S S2 : Int → Bool} (hx : zR x) (hT : 0 ≤ T ∧ T ≤ 26) (h13 : h 466 13 = T + 2) (b : bSt h T S) (b2 : bSt h (T + 1) S2) (k : ∀ h' : zH, rB T (zup h 466 13 (T + 1)) h' → bSt h' T (fun z => jO x (S z) (S2 z)) → Q h') : zCv G d mX12_joins [vr 12 466, vi x] h Q := by
  obtain ⟨h0, e0⟩ : ∃ h0, h0 = zup h 466 13 (T + 1) := ⟨_, rfl⟩
  have o468 : h0 468 = h 468 := by rw [e0, zup_ne (by decide)]
  have go : ∀ (f : Nat) (w : Int) (h1 : zH), 0 ≤ w → w + f = 1024 → rB T h0 h1 → (∀ z, 0 ≤ z → z < 65536 → tb (h1 468 (T * 1024 + z / 64)) (z % 64) = if z / 64 < w then jO x (S z) (S2 z) else S z) → tX12_joins_23 G d Q x (T * 1024) w h1 := by
    intro f
    induction f with
    | zero =>
      intro w h1 w0 wf r1 al
      rw [e0] at r1
      exact bX12_joins_23 ⟨⟨by omega, by omega⟩, fun _ => k h1 r1 (fun z z0 z1 => by rw [al z z0 z1, if_pos (by omega)]), fun z => absurd (by omega) z⟩
    | succ f ih =>
      intro w h1 w0 wf r1 al
      have e13 : h1 466 13 = T + 1 := by rw [r1.1 466 (by decide), e0, zup_eq]
      have ey : h1 468 ((T + 1) * 1024 + w) = h 468 ((T + 1) * 1024 + w) := by rw [r1.2 _ (by omega), o468]
      refine bX12_joins_23 ?_
      rw [e13, ey]
      have rg : 0 ≤ T * 1024 + w ∧ T * 1024 + w < 28672 := by omega
      have step : ∀ v : Int, (∀ c, 0 ≤ c → c < 64 → tb v c = jO x (tb (h1 468 (T * 1024 + w)) c) (tb (h 468 ((T + 1) * 1024 + w)) c)) → tX12_joins_23 G d Q x (T * 1024) (w + 1) (zup h1 468 (T * 1024 + w) v) := fun v hv => by
        refine ih (w + 1) _ (by omega) (by omega) (rB_u (by omega) r1) (fun z z0 z1 => ?_)
        by_cases e : z / 64 = w
        · have a1 := al z z0 z1
          rw [if_neg (by omega)] at a1
          have a2 := b2 z z0 z1
          rw [e] at a1 a2
          rw [e, zup_eq, hv _ (by omega) (by omega), a1, a2, if_pos (by omega)]
        · rw [zup_ns (by omega), al z z0 z1]
          by_cases c : z / 64 < w
          · rw [if_pos c, if_pos (by omega)]
          · rw [if_neg c, if_neg (by omega)]
      refine ⟨⟨by omega, by omega⟩, fun z => absurd z (by omega), fun _ => ⟨by omega, hx, fun n1 => ⟨hx, fun n2 => ⟨rg, rg, step _ (fun c c0 c1 => ?_)⟩, fun e2 => ⟨rg, rg, step _ (fun c c0 c1 => ?_)⟩⟩, fun e1 => ⟨rg, rg, step _ (fun c c0 c1 => ?_)⟩⟩⟩
      · unfold jO
        rw [if_neg n1, if_neg n2, tb_land, tb_not c0 c1]
      · unfold jO
        rw [if_neg n1, if_pos e2, tb_land]
      · unfold jO
        rw [if_pos e1, tb_lor]
  refine eX12_joins (bX12_joins_0 ?_)
  rw [h13, show T + 2 - 1 - 1 = T by omega, show T + 2 - 1 = T + 1 by omega, ← e0]
  refine go 1024 0 h0 (by omega) (by omega) (rB_r T h0) (fun z z0 z1 => ?_)
  rw [if_neg (by omega), o468]
  exact b z z0 z1
/-- joins, whatever the rows tell -/
theorem sm_joins_f {Q : zH → Prop} {x : Int} (hx : zR x) (hT : 0 ≤ T ∧ T ≤ 26) (h13 : h 466 13 = T + 2) (k : ∀ h' : zH, rB T (zup h 466 13 (T + 1)) h' → Q h') : zCv G d mX12_joins [vr 12 466, vi x] h Q :=
  sm_joins (S := fun z => tb (h 468 (T * 1024 + z / 64)) (z % 64)) (S2 := fun z => tb (h 468 ((T + 1) * 1024 + z / 64)) (z % 64)) hx hT h13 (fun _ _ _ => rfl) (fun _ _ _ => rfl) (fun h' r _ => k h' r)
/-- the others -/
theorem sm_others {Q : zH → Prop} {S : Int → Bool} (hT : 0 ≤ T ∧ T ≤ 27) (h13 : h 466 13 = T + 1) (b : bSt h T S) (k : ∀ h' : zH, rB T h h' → bSt h' T (fun z => !(S z)) → Q (zup h' 466 14 (h' 466 14 - 1))) : tX12_readOthers_6 G d Q 0 h := by
  have go : ∀ (f : Nat) (w : Int) (h1 : zH), 0 ≤ w → w + f = 1024 → rB T h h1 → (∀ z, 0 ≤ z → z < 65536 → tb (h1 468 (T * 1024 + z / 64)) (z % 64) = if z / 64 < w then !(S z) else S z) → tX12_readOthers_6 G d Q w h1 := by
    intro f
    induction f with
    | zero =>
      intro w h1 w0 wf r1 al
      exact bX12_readOthers_6 ⟨⟨by omega, by omega⟩, fun _ => k h1 r1 (fun z z0 z1 => by rw [al z z0 z1, if_pos (by omega)]), fun z => absurd (by omega) z⟩
    | succ f ih =>
      intro w h1 w0 wf r1 al
      have e13 : h1 466 13 = T + 1 := by rw [r1.1 466 (by decide), h13]
      refine bX12_readOthers_6 ?_
      rw [e13, show T + 1 - 1 = T by omega]
      refine ⟨⟨by omega, by omega⟩, fun z => absurd z (by omega), fun _ => ⟨by omega, by omega, ih (w + 1) _ (by omega) (by omega) (rB_u (by omega) r1) (fun z z0 z1 => ?_)⟩⟩
      by_cases e : z / 64 = w
      · have a1 := al z z0 z1
        rw [if_neg (by omega)] at a1
        rw [e] at a1
        rw [e, zup_eq, tb_not (by omega) (by omega), a1, if_pos (by omega)]
      · rw [zup_ns (by omega), al z z0 z1]
        by_cases c : z / 64 < w
        · rw [if_pos c, if_pos (by omega)]
        · rw [if_neg c, if_neg (by omega)]
  exact go 1024 0 h (by omega) (by omega) (rB_r T h) (fun z z0 z1 => by rw [if_neg (by omega)]; exact b z z0 z1)
theorem sm_others_f {Q : zH → Prop} (hT : 0 ≤ T ∧ T ≤ 27) (h13 : h 466 13 = T + 1) (k : ∀ h' : zH, rB T h h' → Q (zup h' 466 14 (h' 466 14 - 1))) : tX12_readOthers_6 G d Q 0 h :=
  sm_others (S := fun z => tb (h 468 (T * 1024 + z / 64)) (z % 64)) hT h13 (fun _ _ _ => rfl) (fun h' r _ => k h' r)
end BI
