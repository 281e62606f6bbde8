/-! ===== the class's pairs ===== -/
def mrg (l : Int) : Prop := (157 ≤ l ∧ l ≤ 214) ∨ (276 ≤ l ∧ l ≤ 447)
theorem mcell_rg {l : Int} (h : mcell l) : mrg l := by
  unfold mcell at h
  unfold mrg
  omega
/-- a step of a pair's half, by a block of the draft -/
def pST (h : zH) (l : Int) (D : zH) (S : Int → Int) (a b : Int) : Int := CS h (l + 7) a (dB D (S b))
def pTk (h : zH) (l : Int) (a : Int) : Bool := tb (h (l + 7) 6) (h (l + 7 + 9) a)
def pFx (h h1 : zH) (D E : zH) (S : Int → Int) (n : Int) : Prop := (∀ a, ¬ (233 ≤ a ∧ a ≤ 241) → ¬ a = 4 → ¬ a = 10 → h1 a = h a) ∧ h1 10 = S ∧ h1 4 11 = n ∧ ∀ b, 0 ≤ b → b < n → h1 240 b = dB D (S b) ∧ h1 241 b = dB E (S b)
def pB (h h1 : zH) (l1 l2 : Int) (D E : zH) (S : Int → Int) (n k0 : Int) : Prop := pbf n (h (l1 + 7) 10) (h (l2 + 7) 10) (pST h l1 D S) (pST h l2 E S) (h1 233 9) (h1 234) (h1 235) (h1 236) (h1 237) (h1 238) (h1 239) k0
theorem pST_rg {h : zH} {l : Int} {D : zH} {S : Int → Int} {n a b : Int} (hD : mOK D) (hp : pthP h (l + 7) D) (hS : dS S n) (ha : 0 ≤ a ∧ a < h (l + 7) 10) (hb : 0 ≤ b ∧ b < n) : 0 ≤ pST h l D S a b ∧ pST h l D S a b < h (l + 7) 10 := by
  have s := hS.2.2.1 b hb.1 hb.2
  have k := (dB_ok hD s.1).1
  exact (pP_step hp hD ha.1 ha.2 k.1 k.2).2.2
theorem pbf_U {n C1 C2 U k0 : Int} {f g : Int → Int → Int} {Nu A B Pa Vi De : Int → Int} (hC : C1 ≤ 40 ∧ C2 ≤ 40) (h : pbf n C1 C2 f g U Nu A B Pa Vi De k0) : 1 ≤ U ∧ U ≤ 1600 := by
  obtain ⟨p1, p2, -⟩ := h
  have mem : ∀ z : Int, 0 ≤ z → z < 1600 → z ∈ (List.range 1600).map (fun i : Nat => (i : Int)) := fun z z0 z1 => List.mem_map.mpr ⟨z.toNat, List.mem_range.mpr (by omega), by omega⟩
  have pg := pigJ (c := fun j => A j * 40 + B j) U.toNat ((List.range 1600).map (fun i : Nat => (i : Int))) (fun i i0 i1 => by
    have := p2 i i0 (by omega)
    exact mem _ (by omega) (by omega)) (fun i j i0 i1 i2 e => by
    have q1 := p2 i i0 (by omega)
    have q2 := p2 j (by omega) (by omega)
    have q3 := q1.2.2
    rw [show A i * 40 + B i = A j * 40 + B j from e, q2.2.2] at q3
    omega)
  rw [List.length_map, List.length_range] at pg
  omega
section PC
variable {G : zG} {d : Nat} {h h1 D E : zH} {l1 l2 n : Int} {S : Int → Int}
theorem sp_pStep {K : Int → zH → Prop} {a b x : Int} (rl : mrg l1) (hD : mOK D) (hp : pthP h (l1 + 7) D) (hS : dS S n) (fr : ∀ a, ¬ (233 ≤ a ∧ a ≤ 241) → ¬ a = 4 → ¬ a = 10 → h1 a = h a) (ha : 0 ≤ a ∧ a < h (l1 + 7) 10) (hb : 0 ≤ b ∧ b < n) (hx : x = dB D (S b)) (k : K (pST h l1 D S a b) h1) : zCi G (d + 1) mX7_classStep [vr 7 (l1 + 7), vi a, vi x] h1 K := by
  unfold mrg at rl
  have s := hS.2.2.1 b hb.1 hb.2
  have q := (dB_ok hD s.1).1
  have st := pP_step hp hD ha.1 ha.2 q.1 q.2
  have pn := pP_n hp
  have hB := mO_bl hD
  have e8 : h1 (l1 + 7 + 8) = h (l1 + 7 + 8) := fr _ (by omega) (by omega) (by omega)
  have e9 : h1 (l1 + 7 + 9) = h (l1 + 7 + 9) := fr _ (by omega) (by omega) (by omega)
  have e2 : h1 (l1 + 7 + 2) = h (l1 + 7 + 2) := fr _ (by omega) (by omega) (by omega)
  subst hx
  refine sp_classStep (by omega) (by rw [e9]; omega) (by omega) (by rw [e9, e2]; omega) ?_
  rw [e8, e9, e2]
  exact k
theorem sp_pTake {K : Bool → zH → Prop} {a : Int} (rl : mrg l1) (hp : pthP h (l1 + 7) D) (fr : ∀ a, ¬ (233 ≤ a ∧ a ≤ 241) → ¬ a = 4 → ¬ a = 10 → h1 a = h a) (ha : 0 ≤ a ∧ a < h (l1 + 7) 10) (k : K (pTk h l1 a) h1) : zCb G (d + 1) mX7_classTakes [vr 7 (l1 + 7), vi a] h1 K := by
  unfold mrg at rl
  have pn := pP_n hp
  have hh := cl_He hp.2.2.2.choose_spec.2 ha.1 ha.2
  have e9 : h1 (l1 + 7 + 9) = h (l1 + 7 + 9) := fr _ (by omega) (by omega) (by omega)
  have e0 : h1 (l1 + 7) = h (l1 + 7) := fr _ (by omega) (by omega) (by omega)
  refine sp_classTakes (by omega) (by rw [e9]; omega) ?_
  rw [e9, e0]
  exact k
theorem sp_keyAfter {K : Int → zH → Prop} {t b : Int} (r1 : mrg l1) (r2 : mrg l2) (hD : mOK D) (hE : mOK E) (hp : pthP h (l1 + 7) D) (hq : pthP h (l2 + 7) E) (hS : dS S n) (fx : pFx h h1 D E S n) (ht : 0 ≤ t ∧ t < 1600) (hA : 0 ≤ h1 235 t ∧ h1 235 t < h (l1 + 7) 10) (hB : 0 ≤ h1 236 t ∧ h1 236 t < h (l2 + 7) 10) (hb : 0 ≤ b ∧ b < n) (k : K (pST h l1 D S (h1 235 t) b * 40 + pST h l2 E S (h1 236 t) b) h1) : zCi G (d + 2) mX6_keyAfter [vr 6 233, vr 4 l1, vr 4 l2, vi t, vi b] h1 K := by
  have n256 := hS.1
  have x := fx.2.2.2 b hb.1 hb.2
  exact eX6_keyAfter (bX6_keyAfter_0 ⟨ht, by omega, sp_pStep r1 hD hp hS fx.1 hA hb x.1 ⟨ht, by omega, sp_pStep r2 hE hq hS fx.1 hB hb x.2 k⟩⟩)
theorem sp_isTrueOf {K : Bool → zH → Prop} {t F : Int} (r1 : mrg l1) (r2 : mrg l2) (hp : pthP h (l1 + 7) D) (hq : pthP h (l2 + 7) E) (fx : pFx h h1 D E S n) (ht : 0 ≤ t ∧ t < 1600) (hA : 0 ≤ h1 235 t ∧ h1 235 t < h (l1 + 7) 10) (hB : 0 ≤ h1 236 t ∧ h1 236 t < h (l2 + 7) 10) (k : K (ztr F (pTk h l1 (h1 235 t)) (pTk h l2 (h1 236 t))) h1) : zCb G (d + 2) mX6_isTrueOf [vr 6 233, vr 4 l1, vr 4 l2, vi F, vi t] h1 K :=
  eX6_isTrueOf (bX6_isTrueOf_0 ⟨ht, sp_pTake r1 hp fx.1 hA ⟨ht, sp_pTake r2 hq fx.1 hB (sp_isTrue k)⟩⟩)
/-- one more pair -/
theorem sp_pAdd {K : zH → Prop} {U a c par via : Int} (hU : h1 233 9 = U) (U0 : 0 ≤ U ∧ U < 1600) (ha : 0 ≤ a ∧ a < 40) (hc : 0 ≤ c ∧ c < 40) (hpar : par = -1 ∨ 0 ≤ par ∧ par < U) (k : ∀ h' : zH, (∀ a, ¬ (233 ≤ a ∧ a ≤ 239) → h' a = h1 a) → h' 233 9 = U + 1 → h' 234 = fup (h1 234) (a * 40 + c) U → h' 235 = fup (h1 235) U a → h' 236 = fup (h1 236) U c → h' 237 = fup (h1 237) U par → h' 238 = fup (h1 238) U via → h' 239 = fup (h1 239) U (if par < 0 then 0 else h1 239 par + 1) → K h') : zCv G d mX6_add [vr 6 233, vi (a * 40 + c), vi par, vi via] h1 K := by
  have e1 : (a * 40 + c) / 40 = a := by omega
  have e2 : (a * 40 + c) % 40 = c := by omega
  have fin : ∀ v, (v = if par < 0 then 0 else h1 239 par + 1) → K (zup (zup (zup (zup (zup (zup (zup h1 234 (a * 40 + c) U) 235 U a) 236 U c) 237 U par) 238 U via) 239 U v) 233 9 (U + 1)) := by
    intro v ev
    refine k _ (fun z hz => ?_) zup_eq ?_ ?_ ?_ ?_ ?_ ?_
    · rw [zup_ne (by omega), zup_ne (by omega), zup_ne (by omega), zup_ne (by omega), zup_ne (by omega), zup_ne (by omega), zup_ne (by omega)]
    · rw [zup_ne (by decide), zup_ne (by decide), zup_ne (by decide), zup_ne (by decide), zup_ne (by decide), zup_ne (by decide), zup_r]
    · rw [zup_ne (by decide), zup_ne (by decide), zup_ne (by decide), zup_ne (by decide), zup_ne (by decide), zup_r, zup_ne (by decide)]
    · rw [zup_ne (by decide), zup_ne (by decide), zup_ne (by decide), zup_ne (by decide), zup_r, zup_ne (by decide), zup_ne (by decide)]
    · rw [zup_ne (by decide), zup_ne (by decide), zup_ne (by decide), zup_r, zup_ne (by decide), zup_ne (by decide), zup_ne (by decide)]
    · rw [zup_ne (by decide), zup_ne (by decide), zup_r, zup_ne (by decide), zup_ne (by decide), zup_ne (by decide), zup_ne (by decide)]
    · rw [zup_ne (by decide), zup_r, zup_ne (by decide), zup_ne (by decide), zup_ne (by decide), zup_ne (by decide), zup_ne (by decide), ev]
  refine eX6_add (bX6_add_0 ?_)
  rw [hU, e1, e2]
  refine ⟨⟨by omega, by omega⟩, fun _ => ⟨by omega, by omega, by omega, by omega, by omega, by omega, by omega, ⟨by omega, by omega⟩, fun p => ⟨by omega, by omega, fin _ (by rw [if_neg (by omega)])⟩, fun p => ⟨by omega, fin _ (by rw [if_pos (by omega)])⟩⟩, fun z => absurd U0.2 z⟩
theorem sp_widen {K : zH → Prop} {t : Int} (r1 : mrg l1) (r2 : mrg l2) (hD : mOK D) (hE : mOK E) (hp : pthP h (l1 + 7) D) (hq : pthP h (l2 + 7) E) (hS : dS S n) (fx : pFx h h1 D E S n) (pb : pB h h1 l1 l2 D E S n (t * 256)) (ht : 0 ≤ t ∧ t < h1 233 9) (t16 : t < 1600) (k : ∀ h' : zH, pFx h h' D E S n → h' 4 = h1 4 → pB h h' l1 l2 D E S n ((t + 1) * 256) → h1 233 9 ≤ h' 233 9 → (∀ i, 0 ≤ i → i < h1 233 9 → h' 235 i = h1 235 i ∧ h' 236 i = h1 236 i) → K h') : zCv G (d + 3) mX6_widen [vr 6 233, vr 4 l1, vr 4 l2, vi t] h1 K := by
  have n256 := hS.1
  have pn := pP_n hp
  have qn := pP_n hq
  have go : ∀ (f : Nat) (b : Int) (h2 : zH), 0 ≤ b ∧ b ≤ n → n - b ≤ f → pFx h h2 D E S n → h2 4 = h1 4 → pB h h2 l1 l2 D E S n (t * 256 + b) → h1 233 9 ≤ h2 233 9 → (∀ i, 0 ≤ i → i < h1 233 9 → h2 235 i = h1 235 i ∧ h2 236 i = h1 236 i) → tX6_widen_3 G (d + 2) K l1 l2 t b h2 := by
    intro f
    induction f with
    | zero =>
      intro b h2 b0 hf x2 x4 p2 u2 v2
      refine bX6_widen_3 ?_
      rw [x2.2.2.1]
      refine ⟨⟨by omega, by omega⟩, ⟨by omega, by omega⟩, fun _ => k h2 x2 x4 (pbf_skip n256.2 ?_) u2 v2, fun z => absurd hf (by omega)⟩
      rw [show n = b by omega] at p2 ⊢
      exact p2
    | succ f ih =>
      intro b h2 b0 hf x2 x4 p2 u2 v2
      refine bX6_widen_3 ?_
      rw [x2.2.2.1]
      refine ⟨⟨by omega, by omega⟩, ⟨by omega, by omega⟩, fun z => k h2 x2 x4 (pbf_skip n256.2 ?_) u2 v2, fun z => ?_⟩
      · rw [show n = b by omega] at p2 ⊢
        exact p2
      · have q := p2.2.1 t ht.1 (by omega)
        have g1 := pST_rg hD hp hS q.1 (b := b) (by omega)
        have g2 := pST_rg hE hq hS q.2.1 (b := b) (by omega)
        refine sp_keyAfter r1 r2 hD hE hp hq hS x2 (by omega) q.1 q.2.1 (by omega) ⟨by omega, ?_, fun w => ?_, fun w => ?_⟩
        · rcases p2.2.2.1 _ _ g1.1 (by omega) g2.1 (by omega) with w | w
          · rw [w]
            exact zR_m1
          · have := pbf_U (by omega) p2
            exact ⟨by omega, by omega⟩
        · exact ih (b + 1) h2 (by omega) (by omega) x2 x4 (pbf_old n256.2 (by omega) (by omega) (by omega) w p2) u2 v2
        · have rm := pbf_room (by omega) g1 g2 w p2
          refine sp_pAdd rfl ⟨by omega, rm⟩ (by omega) (by omega) (by omega) (fun h3 y1 y2 y3 y4 y5 y6 y7 y8 => ?_)
          have nw := pbf_new n256.2 (by omega) (by omega) (by omega) ⟨g1, g2⟩ w p2
          refine ih (b + 1) h3 (by omega) (by omega) ⟨fun a a1 a2 a3 => by rw [y1 a (by omega), x2.1 a a1 a2 a3], by rw [y1 10 (by omega), x2.2.1], by rw [y1 4 (by omega), x2.2.2.1], fun b b0 b1 => by rw [y1 240 (by omega), y1 241 (by omega)]; exact x2.2.2.2 b b0 b1⟩ (by rw [y1 4 (by omega), x4]) ?_ (by omega) (fun i i0 i1 => by rw [y4, y5, fup_ne (by omega), fup_ne (by omega)]; exact v2 i i0 i1)
          unfold pB
          rw [y2, y3, y4, y5, y6, y7, y8, if_neg (by omega)]
          exact nw
  refine eX6_widen (bX6_widen_0 (go n.toNat 0 h1 (by omega) (by omega) fx rfl ?_ (Int.le_refl _) (fun _ _ _ => ⟨rfl, rfl⟩)))
  rw [Int.add_zero]
  exact pb
theorem sp_pBegin {K : zH → Prop} (mc1 : mcell l1) (mc2 : mcell l2) (hD : mOK D) (hE : mOK E) (o1 : cRep h l1 D) (o2 : cRep h l2 E) (hp : pthP h (l1 + 7) D) (hq : pthP h (l2 + 7) E) (k : ∀ h' : zH, jC D E (h' 10) (h' 4 11) → pFx h h' D E (h' 10) (h' 4 11) → pB h h' l1 l2 D E (h' 10) (h' 4 11) 0 → h' 233 9 = 1 → h' 4 7 = 1 → h' 4 8 = 0 → h' 4 9 = 0 → h' 4 10 = 0 → h' 4 12 = 0 → K h') : zCv G (d + 2) mX6_begin [vr 6 233, vr 4 l1, vr 4 l2] h K := by
  have r1 := mcell_rg mc1
  have r2 := mcell_rg mc2
  unfold mrg at r1 r2
  have pn := pP_n hp
  have qn := pP_n hq
  refine eX6_begin (bX6_begin_0 (sp_begin ⟨by decide, by decide⟩ (fun h2 f2 e27 e28 e29 e210 c2 => sp_cutLike mc1 hD (cRep_fr (fun a p q => f2 a (by omega) (by omega)) o1) (by decide) c2 (fun h3 f3 g3 c3 => sp_cutLike mc2 hE (cRep_fr (fun a p q => by rw [f3 a (by omega) (by omega), f2 a (by omega) (by omega)]) o2) (by decide) c3 (fun h4 f4 g4 c4 => ?_)))))
  rw [if_pos (by decide)] at c4
  obtain ⟨jc, ov⟩ := jC_of hD hE c4
  have fr : ∀ a, ¬ a = 4 → ¬ a = 10 → h4 a = h a := fun a p q => by rw [f4 a p q, f3 a p q, f2 a p q]
  have e7 : ∀ j, ¬ j = 11 → ¬ j = 12 → h4 4 j = h2 4 j := fun j p q => by rw [g4 j p q, g3 j p q]
  have hS := jc.1
  have n256 := hS.1
  have go : ∀ (f : Nat) (b : Int) (h5 : zH), 0 ≤ b ∧ b ≤ h4 4 11 → h4 4 11 - b ≤ f → (∀ a, ¬ a = 240 → ¬ a = 241 → h5 a = h4 a) → (∀ c, 0 ≤ c → c < b → h5 240 c = dB D (h4 10 c) ∧ h5 241 c = dB E (h4 10 c)) → tX6_begin_28 G (d + 1) K l1 l2 b h5 := by
    have fin : ∀ h5 : zH, (∀ a, ¬ a = 240 → ¬ a = 241 → h5 a = h4 a) → (∀ c, 0 ≤ c → c < h4 4 11 → h5 240 c = dB D (h4 10 c) ∧ h5 241 c = dB E (h4 10 c)) → zCv G (d + 1) mJ7_fill_53178 [vr 13 234, vi (-1)] h5 (fun h2 => zCv G (d + 1) mX6_add [vr 6 233, vi 0, vi (-1), vi (-1)] (zup h2 233 9 0) (fun h4 => K h4)) := by
      intro h5 g1 g2
      refine sp_fillI (fun h6 g3 g4 => ?_)
      have z6 : zln 234 = 1600 := by decide +kernel
      refine sp_pAdd (a := 0) (c := 0) zup_eq (by decide) (by decide) (by decide) (Or.inl rfl) (fun h7 y1 y2 y3 y4 y5 y6 y7 y8 => ?_)
      have e34 : (zup h6 233 9 0) 234 = h6 234 := zup_ne (by decide)
      have f7 : ∀ a, ¬ (233 ≤ a ∧ a ≤ 239) → h7 a = h5 a := fun a q => by rw [y1 a q, zup_ne (by omega), g3 a (by omega)]
      have e10 : h7 10 = h4 10 := by rw [f7 10 (by decide), g1 10 (by decide) (by decide)]
      have e4 : h7 4 = h4 4 := by rw [f7 4 (by decide), g1 4 (by decide) (by decide)]
      refine k h7 (by rw [e10, e4]; exact jc) ⟨fun a q1 q2 q3 => by rw [f7 a (by omega), g1 a (by omega) (by omega), fr a q2 q3], rfl, rfl, ?_⟩ ?_ y2 (by rw [e4, e7 _ (by decide) (by decide), e27]) (by rw [e4, e7 _ (by decide) (by decide), e28]) (by rw [e4, e7 _ (by decide) (by decide), e29]) (by rw [e4, e7 _ (by decide) (by decide), e210]) (by rw [e4, ov])
      · rw [e4, e10, f7 240 (by decide), f7 241 (by decide)]
        exact g2
      · unfold pB
        rw [y2]
        refine pbf_0 (by omega) (by rw [y4]; exact fup_eq) (by rw [y5]; exact fup_eq) (by rw [y6]; exact fup_eq) (by rw [y8]; exact fup_eq) (by rw [y3]; exact fup_eq) (fun i i0 i1 => ?_)
        rw [y3, fup_ne (by omega), e34]
        exact g4 i (by omega) (by omega)
    intro f
    induction f with
    | zero =>
      intro b h5 b0 hf g1 g2
      refine bX6_begin_28 ?_
      rw [g1 4 (by decide) (by decide)]
      exact ⟨⟨by omega, by omega⟩, ⟨by omega, by omega⟩, fun _ => fin h5 g1 (fun c c0 c1 => g2 c c0 (by omega)), fun z => absurd hf (by omega)⟩
    | succ f ih =>
      intro b h5 b0 hf g1 g2
      refine bX6_begin_28 ?_
      rw [g1 4 (by decide) (by decide), g1 10 (by decide) (by decide)]
      refine ⟨⟨by omega, by omega⟩, ⟨by omega, by omega⟩, fun _ => fin h5 g1 (fun c c0 c1 => g2 c c0 (by omega)), fun z => ?_⟩
      have sb := hS.2.2.1 b b0.1 (by omega)
      refine ⟨by omega, sp_blockOf hD (cRep_fr (fun a p q => by rw [g1 a (by omega) (by omega), fr a (by omega) (by omega)]) o1) ⟨by omega, by omega⟩ ⟨by omega, by omega, ?_⟩⟩
      rw [g1 10 (by decide) (by decide)]
      refine sp_blockOf hE (cRep_fr (fun a p q => by rw [zup_ne (by omega), g1 a (by omega) (by omega), fr a (by omega) (by omega)]) o2) ⟨by omega, by omega⟩ ⟨by omega, ih (b + 1) _ (by omega) (by omega) (fun a p q => by rw [zup_ne q, zup_ne p, g1 a p q]) (fun c c0 c1 => ?_)⟩
      rw [zup_r, zup_ne (show ¬ (240 : Int) = 241 by decide), zup_ne (show ¬ (241 : Int) = 240 by decide), zup_r]
      by_cases w : c = b
      · rw [w, fup_eq, fup_eq]
        exact ⟨rfl, rfl⟩
      · rw [fup_ne w, fup_ne w]
        exact g2 c c0 (by omega)
  exact go (h4 4 11).toNat 0 h4 (by omega) (by omega) (fun a _ _ => rfl) (fun c c0 c1 => absurd c1 (by omega))
/-- the first pair that is true -/
theorem sp_firstOf {K : Int → zH → Prop} {F : Int} (mc1 : mcell l1) (mc2 : mcell l2) (hD : mOK D) (hE : mOK E) (o1 : cRep h l1 D) (o2 : cRep h l2 E) (hp : pthP h (l1 + 7) D) (hq : pthP h (l2 + 7) E) (k1 : ∀ (h' : zH) (j : Int) (w : List Int), jC D E (h' 10) (h' 4 11) → pFx h h' D E (h' 10) (h' 4 11) → pB h h' l1 l2 D E (h' 10) (h' 4 11) (j * 256) → 0 ≤ j → j < h' 233 9 → j < 1600 → isW (h' 237) (h' 238) j w → fO (h' 4 11) (pST h l1 D (h' 10)) (pST h l2 E (h' 10)) (fun a c => ztr F (pTk h l1 a) (pTk h l2 c)) w → K j h') (k2 : ∀ h' : zH, jC D E (h' 10) (h' 4 11) → pFx h h' D E (h' 10) (h' 4 11) → fN (h' 4 11) (pST h l1 D (h' 10)) (pST h l2 E (h' 10)) (fun a c => ztr F (pTk h l1 a) (pTk h l2 c)) → K (-1) h') : zCi G (d + 4) mX6_firstOf [vr 6 233, vr 4 l1, vr 4 l2, vi F] h K := by
  have r1 := mcell_rg mc1
  have r2 := mcell_rg mc2
  have pn := pP_n hp
  have qn := pP_n hq
  refine eX6_firstOf (bX6_firstOf_0 (sp_pBegin mc1 mc2 hD hE o1 o2 hp hq (fun h2 jc fx pb u1 _ _ _ _ _ => ?_)))
  obtain ⟨S, eS⟩ : ∃ S, S = h2 10 := ⟨_, rfl⟩
  obtain ⟨n, en⟩ : ∃ n, n = h2 4 11 := ⟨_, rfl⟩
  rw [← eS, ← en] at jc fx pb
  have hS := jc.1
  have n256 := hS.1
  have go : ∀ (f : Nat) (t : Int) (h3 : zH), 0 ≤ t ∧ t ≤ h3 233 9 → 1600 - t ≤ f → pFx h h3 D E S n → pB h h3 l1 l2 D E S n (t * 256) → (∀ i, 0 ≤ i → i < t → ztr F (pTk h l1 (h3 235 i)) (pTk h l2 (h3 236 i)) = false) → tX6_firstOf_9 G (d + 3) K l1 l2 F t h3 := by
    intro f
    have fin : ∀ (t : Int) (h3 : zH), 0 ≤ t ∧ t ≤ h3 233 9 → h3 233 9 ≤ t → pFx h h3 D E S n → pB h h3 l1 l2 D E S n (t * 256) → (∀ i, 0 ≤ i → i < t → ztr F (pTk h l1 (h3 235 i)) (pTk h l2 (h3 236 i)) = false) → K (-1) h3 := by
      intro t h3 t0 t1 x3 p3 no
      have e1 : h3 10 = S := x3.2.1
      have e2 : h3 4 11 = n := x3.2.2.1
      refine k2 h3 (by rw [e1, e2]; exact jc) (by rw [e1, e2]; exact x3) ?_
      rw [e1, e2]
      intro v hv
      have e3 : t = h3 233 9 := by omega
      rw [e3] at p3
      obtain ⟨i, i1, i2, i3⟩ := W_all p3 n256.2 v hv
      have := no i i1.1 (by omega)
      rw [i2, i3] at this
      exact this
    induction f with
    | zero =>
      intro t h3 t0 hf x3 p3 no
      have uu := pbf_U (by omega) p3
      refine bX6_firstOf_9 ⟨⟨by omega, by omega⟩, fun z => fin t h3 t0 (by omega) x3 p3 no, fun z => absurd hf (by omega)⟩
    | succ f ih =>
      intro t h3 t0 hf x3 p3 no
      have uu := pbf_U (by omega) p3
      refine bX6_firstOf_9 ⟨⟨by omega, by omega⟩, fun z => fin t h3 t0 (by omega) x3 p3 no, fun z => ⟨⟨by omega, by omega⟩, ⟨by omega, by omega⟩, fun y => fin t h3 t0 y x3 p3 no, fun y => ?_⟩⟩
      have q := p3.2.1 t t0.1 (by omega)
      refine sp_isTrueOf r1 r2 hp hq x3 (by omega) q.1 q.2.1 ⟨fun w => ?_, fun w => ?_⟩
      · refine sp_widen r1 r2 hD hE hp hq hS x3 p3 (by omega) (by omega) (fun h4 x4 _ p4 u4 v4 => ih (t + 1) h4 (by omega) (by omega) x4 p4 (fun i i0 i1 => ?_))
        have v := v4 i i0 (by omega)
        rw [v.1, v.2]
        by_cases e : i = t
        · rw [e]
          exact w
        · exact no i i0 (by omega)
      · have e1 : h3 10 = S := x3.2.1
        have e2 : h3 4 11 = n := x3.2.2.1
        obtain ⟨wt, hw⟩ := W_ex p3 t.toNat t t0.1 (by omega) (by omega)
        have wr := W_run p3 t0.1 (by omega) hw
        refine k1 h3 t wt (by rw [e1, e2]; exact jc) (by rw [e1, e2]; exact x3) (by rw [e1, e2]; exact p3) t0.1 (by omega) (by omega) hw ?_
        rw [e1, e2]
        refine ⟨wr.2.2.2, by rw [wr.1, wr.2.1]; exact w, fun v hv l => ?_⟩
        obtain ⟨i, wi, i1, i2, i3, i4, i5⟩ := W_min n256.2 p3 (by omega) hw v hv l
        have := no i i1.1 i1.2
        rw [i3, i4] at this
        exact this
  exact go 1600 0 h2 (by omega) (by omega) fx pb (fun i i0 i1 => absurd i1 (by omega))
end PC
