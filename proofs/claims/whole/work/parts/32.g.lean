/-! ===== twin: the case ===== -/
theorem Inv_t {h h' : zH} (hI : Inv h) (e : ∀ a, kp a → h' a = h a) (e0 : h' 0 = h 0) (em : ∀ j, kms j ∨ j = 1 ∨ j = 2 → h' 466 j = h 466 j) : Inv h' := by
  have m4 := em 4 (by unfold kms; omega)
  have m10 := em 10 (by unfold kms; omega)
  have m22 := em 22 (by unfold kms; omega)
  have m64 := em 64 (by unfold kms; omega)
  have m65 := em 65 (by unfold kms; omega)
  have m77 := em 77 (by unfold kms; omega)
  have m1 := em 1 (by omega)
  have m2 := em 2 (by omega)
  have w := hI.1
  have x := hI.2.1
  have y := hI.2.2.1
  refine Inv_g hI ?_ ?_ ?_ (fun a ka => e a (by unfold kq at ka; unfold kp; omega)) (by rw [e0]) (by rw [e0]; omega) m22
  · unfold iSc at w ⊢
    rw [e0, m4, m10, m64, m65, m77, m1, m2]
    exact w
  · unfold iWd at x ⊢
    rw [e0, e 2 (by unfold kp; omega), e 514 (by unfold kp; omega)]
    exact x
  · unfold iTp at y ⊢
    rw [e0, e 1 (by unfold kp; omega), e 467 (by unfold kp; omega)]
    exact y
theorem zcmp_0 {x y : Int} (h : x = y) (hx : zRL x) : zcmp x y = 0 := (zcmp_lt hx (h ▸ hx)).2.1.mpr h
theorem k_2407 {G : zG} (hf : (zgl G).stackTraces = false) (hL : zgL G ≤ 3072) : zCase G Inv tL_law_2407 := by
  intro kc ks l4 h hI a b hi hk
  have hR : zRo room_1 (kc + 1) (ks + 6) 1000 := ⟨by show 1000 + 1 ≤ 2048; omega, by show 64 * (1000 + 1) ≤ 84000; omega, by show kc + 1 ≤ 601024; omega, by show ks + 6 ≤ 7293034; omega⟩
  have hm : zR (zsc G (l4 + 1)) := zsc_R _ _
  obtain ⟨m, em⟩ : ∃ m, m = zsc G (l4 + 1) := ⟨_, rfl⟩
  refine bL_law_2407 hR hL hi ?_
  rw [← em] at hm ⊢
  obtain ⟨n1, n2, n3⟩ := iM_n hI
  refine eL_twin (d := 999) (sp_twin (d := 990) hf hI hm (fun h' i e1 e2 e3 q i0 i1 sm no => ⟨⟨by omega, by omega⟩, 0, rfl, ?_⟩) (fun h' e1 e2 e3 no => ⟨1, rfl, ?_⟩))
  · have hH : bK h (zup (zup h' 525 0 i) 466 0 0) := ⟨fun a ka => by rw [zup_ne (by unfold kp at ka; omega), zup_ne (by unfold kp at ka; omega), e1 a ka], fun j kj => by rw [zup_ns (by unfold kms at kj; omega), zup_ne (by decide), e3]⟩
    refine sm_twin (d := 995) hI hH hm (fun h3 i' t t0 _ j0 j1 sm' no' => eX12_thrown (bX12_thrown_0 ?_)) (fun h3 t t0 no' => absurd sm (no' q i i0 i1))
    have ii : i = i' := by
      rcases Int.lt_trichotomy i i' with w | w | w
      · exact absurd sm (no' i i0 w)
      · exact w
      · exact absurd sm' (no i' j0 w)
    have iv : Inv h3 := Inv_t hI (fun a ka => by rw [t.1.1 a ka, hH.1 a ka]) (by rw [t.1.2.1, zup_ne (by decide), zup_ne (by decide), e2]) (fun j kj => by
      rcases kj with kj | kj
      · rw [t.1.2.2 j kj, hH.2 j kj]
      · rw [t.2.2 j kj, zup_ns (by omega), zup_ne (by decide), e3])
    rw [t0]
    refine ⟨⟨by decide, by decide⟩, ⟨by decide, by decide⟩, fun _ => ⟨⟨by decide, by decide⟩, fun z => absurd rfl z, fun _ => ⟨⟨by omega, by omega⟩, fun _ => (hk h3 iv).2, fun z => z ?_⟩⟩, fun z => absurd rfl z⟩
    rw [t.2.1, zup_ne (by decide), zup_eq]
    exact zcmp_0 ii ⟨by omega, by omega⟩
  · have hH : bK h (zup h' 466 0 0) := ⟨fun a ka => by rw [zup_ne (by unfold kp at ka; omega), e1 a ka], fun j kj => by rw [zup_ns (by unfold kms at kj; omega), e3]⟩
    refine sm_twin (d := 995) hI hH hm (fun h3 i' t t0 q j0 j1 sm' no' => absurd sm' (no q i' j0 j1)) (fun h3 t t0 no' => eX12_thrown (bX12_thrown_0 ?_))
    have iv : Inv h3 := Inv_t hI (fun a ka => by rw [t.1.1 a ka, hH.1 a ka]) (by rw [t.1.2.1, zup_ne (by decide), e2]) (fun j kj => by
      rcases kj with kj | kj
      · rw [t.1.2.2 j kj, hH.2 j kj]
      · rw [t.2.2 j kj, zup_ns (by omega), e3])
    rw [t0]
    exact ⟨⟨by decide, by decide⟩, ⟨by decide, by decide⟩, fun _ => ⟨⟨by decide, by decide⟩, fun _ => (hk h3 iv).2, fun z => absurd z (by decide)⟩, fun z => absurd rfl z⟩
