/-! ===== twin ===== -/
/-- two machines take the same words -/
def sameP (h : zH) (a b : Int) : Prop := ∀ S n, jC (dOf h a) (dOf h b) S n → fN n (pST h (h 3 a) (dOf h a) S) (pST h (h 3 b) (dOf h b) S) (fun x c => ztr 6 (pTk h (h 3 a) x) (pTk h (h 3 b) c))
theorem pST_e {h H : zH} {l : Int} {D : zH} {S : Int → Int} (mc : mcell l) (hk : ∀ a, kp a → H a = h a) : pST H l D S = pST h l D S ∧ pTk H l = pTk h l := by
  have r := mcell_rg mc
  unfold mrg at r
  have e : ∀ a, l ≤ a → a ≤ l + 18 → H a = h a := fun a p q => hk a (by unfold kp; omega)
  constructor
  · funext a b
    unfold pST CS
    rw [e _ (by omega) (by omega), e (l + 7 + 2) (by omega) (by omega), e (l + 7 + 9) (by omega) (by omega)]
  · funext a
    unfold pTk
    rw [e _ (by omega) (by omega), e (l + 7 + 9) (by omega) (by omega)]
section PQ
variable {G : zG} {d : Nat} {h : zH}
theorem sameP_of {a b n : Int} {S : Int → Int} (hI : Inv h) (ha : 0 ≤ a ∧ a < h 0 13) (hb : 0 ≤ b ∧ b < h 0 13) (jc : jC (dOf h a) (dOf h b) S n) (hn : fN n (pST h (h 3 a) (dOf h a) S) (pST h (h 3 b) (dOf h b) S) (fun x c => ztr 6 (pTk h (h 3 a) x) (pTk h (h 3 b) c))) : sameP h a b := by
  intro S' n' jc' v hv
  obtain ⟨e1, e2⟩ := dS_u jc'.1 jc.1 (fun z => (jc'.2 z).trans (jc.2 z).symm)
  have q := hn v (by rw [← e1]; exact hv)
  rw [wRun_c (f := pST h (h 3 a) (dOf h a) S) (g := pST h (h 3 a) (dOf h a) S') (n := n') (fun x c c0 c1 => by unfold pST; rw [e2 c c0 c1]) v hv, wRun_c (f := pST h (h 3 b) (dOf h b) S) (g := pST h (h 3 b) (dOf h b) S') (n := n') (fun x c c0 c1 => by unfold pST; rw [e2 c c0 c1]) v hv] at q
  exact q
theorem q_firstS {K : Int → zH → Prop} {H : zH} {a b : Int} (hI : Inv h) (hk : ∀ a, kp a → H a = h a) (ha : 0 ≤ a ∧ a < h 0 13) (hb : 0 ≤ b ∧ b < h 0 13) (k1 : ¬ sameP h a b → ∀ (h' : zH) (j : Int), (∀ a, kp a → h' a = H a) → h' 0 = H 0 → h' 466 = H 466 → 0 ≤ j → j < 1600 → K j h') (k2 : sameP h a b → ∀ h' : zH, (∀ a, kp a → h' a = H a) → h' 0 = H 0 → h' 466 = H 466 → K (-1) h') : zCi G (d + 4) mX6_firstOf [vr 6 233, vr 4 (h 3 a), vr 4 (h 3 b), vi 6] H K := by
  obtain ⟨a10, mc1, o1, o2, o3, o4⟩ := iM_d hI ha.1 ha.2
  obtain ⟨b10, mc2, u1, u2, u3, u4⟩ := iM_d hI hb.1 hb.2
  have r1 := mcell_rg mc1
  have r2 := mcell_rg mc2
  unfold mrg at r1 r2
  have ck : ∀ l, (157 ≤ l ∧ l ≤ 214) ∨ (276 ≤ l ∧ l ≤ 447) → ∀ a, l ≤ a → a ≤ l + 18 → H a = h a := fun l r a p q => hk a (by unfold kp; omega)
  refine sp_firstOf mc1 mc2 o1 u1 (cRep_fr (fun z p q => ck _ r1 z p (by omega)) o2) (cRep_fr (fun z p q => ck _ r2 z p (by omega)) u2) (pth_p (pth_fr (fun z p q => ck _ r1 z (by omega) q) o4)) (pth_p (pth_fr (fun z p q => ck _ r2 z (by omega) q) u4)) (fun h' j w jc fx pb j0 j1 j2 hw ho => k1 (fun sm => ?_) h' j (fun a ka => fx.1 a (by unfold kp at ka; omega) (by unfold kp at ka; omega) (by unfold kp at ka; omega)) (fx.1 0 (by decide) (by decide) (by decide)) (fx.1 466 (by decide) (by decide) (by decide)) j0 j2) (fun h' jc fx hn => k2 ?_ h' (fun a ka => fx.1 a (by unfold kp at ka; omega) (by unfold kp at ka; omega) (by unfold kp at ka; omega)) (fx.1 0 (by decide) (by decide) (by decide)) (fx.1 466 (by decide) (by decide) (by decide)))
  · rw [(pST_e mc1 hk).1, (pST_e mc2 hk).1, (pST_e (D := dOf h a) (S := h' 10) mc1 hk).2, (pST_e (D := dOf h a) (S := h' 10) mc2 hk).2] at ho
    exact fON (fun v hv => rfl) ho (sm _ _ jc)
  · rw [(pST_e mc1 hk).1, (pST_e mc2 hk).1, (pST_e (D := dOf h a) (S := h' 10) mc1 hk).2, (pST_e (D := dOf h a) (S := h' 10) mc2 hk).2] at hn
    exact sameP_of hI ha hb jc hn
theorem q_findsS {K : Int → zH → Prop} {H : zH} {a b : Int} (hI : Inv h) (hH : bK h H) (ha : 0 ≤ a ∧ a < h 0 13) (hb : 0 ≤ b ∧ b < h 0 13) (k1 : ¬ sameP h a b → ∀ (h' : zH) (j : Int), fdF H h' → 0 ≤ j → j < 1600 → K j h') (k2 : sameP h a b → ∀ h' : zH, fdF H h' → K (-1) h') : zCi G (d + 4) mX12_finds [vr 12 466, vi a, vi b, vi 6] H K := by
  obtain ⟨a10, mc1, o1, o2, o3, o4⟩ := iM_d hI ha.1 ha.2
  obtain ⟨b10, mc2, u1, u2, u3, u4⟩ := iM_d hI hb.1 hb.2
  obtain ⟨p7, pb, pt, -⟩ := pth_p o4
  obtain ⟨q7, qb, qt, -⟩ := pth_p u4
  refine sm_finds o1 u1 (by omega) (by omega) (mRep_b hH o3) (mRep_b hH u3) pb pt qb qt (fun h3 j w Vi De f jc2 mp j0 j1 j2 hw ho => k1 (fun sm => ?_) h3 j f j0 j2) (fun h3 f jc2 hn => k2 ?_ h3 f)
  · obtain ⟨e1, e2, e3⟩ := q_agree (F := 6) hI ha hb jc2 jc2
    exact fON (fun v hv => (e3 v hv).symm) ho (sm _ _ jc2)
  · obtain ⟨e1, e2, e3⟩ := q_agree (F := 6) hI ha hb jc2 jc2
    exact sameP_of hI ha hb jc2 (fun v hv => (e3 v hv).trans (hn v hv))
/-- the class's twin -/
theorem sp_twin {K : Int → zH → Prop} {KX : zH → Prop} {m : Int} (hfl : (zgl G).stackTraces = false) (hI : Inv h) (hm : zR m) (k1 : ∀ (h' : zH) (i : Int), (∀ a, kp a → h' a = h a) → h' 0 = h 0 → h' 466 = h 466 → 0 ≤ m ∧ m < h 0 13 → 0 ≤ i → i < m → sameP h i m → (∀ j, 0 ≤ j → j < i → ¬ sameP h j m) → K i h') (k2 : ∀ h' : zH, (∀ a, kp a → h' a = h a) → h' 0 = h 0 → h' 466 = h 466 → ((0 ≤ m ∧ m < h 0 13) → ∀ j, 0 ≤ j → j < m → ¬ sameP h j m) → KX h') : xC G (d + 9) [vr 11 0, vi m] h K KX := by
  obtain ⟨n1, n2, n3⟩ := iM_n hI
  have mach : ∀ (h1 : zH) {K' : Bool → zH → Prop}, h1 0 = h 0 → ((0 ≤ m ∧ m < h 0 13) → K' true h1) → (¬ (0 ≤ m ∧ m < h 0 13) → K' false h1) → zCb G (d + 8) mX11_isMachine [vr 11 0, vi m] h1 K' := fun h1 K' e c1 c2 => by
    refine sp_isMachine hm (by rw [e]; exact ⟨by omega, by omega⟩) ?_
    rw [e]
    by_cases q : 0 ≤ m ∧ m < h 0 13
    · rw [decide_eq_true q]
      exact c1 q
    · rw [decide_eq_false q]
      exact c2 q
  have go : ∀ (f : Nat) (i : Int) (h1 : zH), 0 ≤ i → m - i ≤ f → (i ≤ m ∨ i = 0) → (∀ a, kp a → h1 a = h a) → h1 0 = h 0 → h1 466 = h 466 → ((0 ≤ m ∧ m < h 0 13) → ∀ j, 0 ≤ j → j < i → ¬ sameP h j m) → tX11_twin_4 G (d + 8) K KX m (-1) i h1 := by
    intro f
    induction f with
    | zero =>
      intro i h1 i0 hf im e1 e2 e3 no
      refine bX11_twin_4 hfl (by omega) ⟨zR_m1, fun z => absurd rfl z, fun _ => mach h1 e2 (fun q => ⟨fun z => (by cases z), fun _ => ⟨⟨by omega, by omega⟩, hm, fun z => ⟨zR_m1, fun y => absurd rfl y, fun _ => k2 h1 e1 e2 e3 (fun q j j0 j1 => no q j j0 (by omega))⟩, fun z => absurd hf (by omega)⟩⟩) (fun q => ⟨fun _ => ⟨zR_m1, fun y => absurd rfl y, fun _ => k2 h1 e1 e2 e3 (fun z => absurd z q)⟩, fun z => (by cases z)⟩)⟩
    | succ f ih =>
      intro i h1 i0 hf im e1 e2 e3 no
      refine bX11_twin_4 hfl (by omega) ⟨zR_m1, fun z => absurd rfl z, fun _ => mach h1 e2 (fun q => ⟨fun z => (by cases z), fun _ => ⟨⟨by omega, by omega⟩, hm, fun z => ⟨zR_m1, fun y => absurd rfl y, fun _ => k2 h1 e1 e2 e3 (fun q j j0 j1 => no q j j0 (by omega))⟩, fun z => ⟨by omega, by omega, ?_⟩⟩⟩) (fun q => ⟨fun _ => ⟨zR_m1, fun y => absurd rfl y, fun _ => k2 h1 e1 e2 e3 (fun z => absurd z q)⟩, fun z => (by cases z)⟩)⟩
      rw [e1 3 (by unfold kp; omega)]
      refine q_firstS hI e1 ⟨i0, by omega⟩ q (fun ns h' j f1 f2 f3 j0 j1 => ⟨⟨by omega, by omega⟩, fun _ => ih (i + 1) h' (by omega) (by omega) (by omega) (fun a ka => by rw [f1 a ka, e1 a ka]) (by rw [f2, e2]) (by rw [f3, e3]) (fun q j j0 j1 => ?_), fun z => absurd j0 z⟩) (fun sm h' f1 f2 f3 => ⟨zR_m1, fun z => absurd z (by decide), fun _ => ?_⟩)
      · by_cases e : j = i
        · rw [e]
          exact ns
        · exact no q j j0 (by omega)
      · exact bX11_twin_4 hfl (by omega) ⟨⟨by omega, by omega⟩, fun _ => ⟨⟨by omega, by omega⟩, fun _ => k1 h' i (fun a ka => by rw [f1 a ka, e1 a ka]) (by rw [f2, e2]) (by rw [f3, e3]) q i0 (by omega) sm (no q), fun z => absurd i0 (by omega)⟩, fun z => absurd i0 (by omega)⟩
  exact eX11_twin (bX11_twin_0 hfl (by omega) (go m.toNat 0 h (by omega) (by omega) (Or.inr rfl) (fun _ _ => rfl) rfl rfl (fun q j j0 j1 => absurd j1 (by omega))))
/-- what is left of the model's heap -/
def twF (H h3 : zH) : Prop := mK H h3 ∧ h3 525 = H 525 ∧ ∀ l, l = 1 ∨ l = 2 → h3 466 l = H 466 l
theorem sm_twin {K : Int → zH → Prop} {H : zH} {m : Int} (hI : Inv h) (hH : bK h (zup H 466 0 0)) (hm : zR m) (k1 : ∀ (h' : zH) (i : Int), twF (zup H 466 0 0) h' → h' 466 0 = 0 → 0 ≤ m ∧ m < h 0 13 → 0 ≤ i → i < m → sameP h i m → (∀ j, 0 ≤ j → j < i → ¬ sameP h j m) → K i h') (k2 : ∀ h' : zH, twF (zup H 466 0 0) h' → h' 466 0 = 1 → ((0 ≤ m ∧ m < h 0 13) → ∀ j, 0 ≤ j → j < m → ¬ sameP h j m) → K 0 h') : zCi G (d + 5) mX12_twin [vr 12 466, vi m] H K := by
  obtain ⟨n1, n2, n3⟩ := iM_n hI
  have one : ∀ h1 : zH, twF (zup H 466 0 0) h1 → twF (zup H 466 0 0) (zup h1 466 0 1) := fun h1 t => ⟨⟨fun a ka => by rw [zup_ne (by unfold kp at ka; omega), t.1.1 a ka], by rw [zup_ne (by decide), t.1.2.1], fun j kj => by rw [zup_ns (by unfold kms at kj; omega), t.1.2.2 j kj]⟩, by rw [zup_ne (by decide), t.2.1], fun l hl => by rw [zup_ns (by omega), t.2.2 l hl]⟩
  have go : ∀ (f : Nat) (i : Int) (h1 : zH), 0 ≤ i → m - i ≤ f → (i ≤ m ∨ i = 0) → twF (zup H 466 0 0) h1 → h1 466 0 = 0 → ((0 ≤ m ∧ m < h 0 13) → ∀ j, 0 ≤ j → j < i → ¬ sameP h j m) → tX12_twin_7 G (d + 4) K m i h1 := by
    intro f
    induction f with
    | zero =>
      intro i h1 i0 hf im t t0 no
      refine bX12_twin_7 (q_machB hI (bK_m hH t.1) hm (fun q => ⟨fun z => (by cases z), fun _ => ⟨⟨by omega, by omega⟩, hm, fun z => k2 _ (one h1 t) zup_eq (fun q j j0 j1 => no q j j0 (by omega)), fun z => absurd hf (by omega)⟩⟩) (fun q => ⟨fun _ => k2 _ (one h1 t) zup_eq (fun z => absurd z q), fun z => (by cases z)⟩))
    | succ f ih =>
      intro i h1 i0 hf im t t0 no
      refine bX12_twin_7 (q_machB hI (bK_m hH t.1) hm (fun q => ⟨fun z => (by cases z), fun _ => ⟨⟨by omega, by omega⟩, hm, fun z => k2 _ (one h1 t) zup_eq (fun q j j0 j1 => no q j j0 (by omega)), fun z => ?_⟩⟩) (fun q => ⟨fun _ => k2 _ (one h1 t) zup_eq (fun z => absurd z q), fun z => (by cases z)⟩))
      have tr : ∀ h' : zH, fdF h1 h' → twF (zup H 466 0 0) h' ∧ h' 466 0 = 0 := fun h' f => ⟨⟨mK_tr t.1 (fdF_k f), by rw [f.1 525 (by decide) (by decide) (by decide), t.2.1], fun l hl => by rw [f.2 l (by omega) (by omega), t.2.2 l hl]⟩, by rw [f.2 0 (by decide) (by decide), t0]⟩
      refine q_findsS hI (bK_m hH t.1) ⟨i0, by omega⟩ q (fun ns h' j f j0 j1 => ⟨⟨by omega, by omega⟩, fun _ => ih (i + 1) h' (by omega) (by omega) (by omega) (tr h' f).1 (tr h' f).2 (fun q j j0 j1 => ?_), fun z => absurd j0 (by omega)⟩) (fun sm h' f => ⟨zR_m1, fun z => absurd rfl z, fun _ => k1 h' i (tr h' f).1 (tr h' f).2 q i0 (by omega) sm (no q)⟩)
      by_cases e : j = i
      · rw [e]
        exact ns
      · exact no q j j0 (by omega)
  exact eX12_twin (bX12_twin_0 (go m.toNat 0 _ (by omega) (by omega) (Or.inr rfl) ⟨mK_refl _, rfl, fun _ _ => rfl⟩ zup_eq (fun q j j0 j1 => absurd j1 (by omega))))
end PQ
