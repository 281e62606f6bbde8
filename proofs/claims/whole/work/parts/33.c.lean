/-! ===== the class settles ===== -/
theorem dfC_fr {h h' : zH} {n en E F : Int} {fr to ff ft : Int → Int} {X : Int → Int → Bool} (f : ∀ a, 4 ≤ a → a ≤ 10 → h' a = h a) (k : dfC h n en E fr to X F ff ft) : dfC h' n en E fr to X F ff ft := by
  have e4 := f 4 (by decide) (by decide)
  have e5 := f 5 (by decide) (by decide)
  have e6 := f 6 (by decide) (by decide)
  have e7 := f 7 (by decide) (by decide)
  have e8 := f 8 (by decide) (by decide)
  have e9 := f 9 (by decide) (by decide)
  have e10 := f 10 (by decide) (by decide)
  unfold dfC at k ⊢
  rw [e4, e5, e6, e8, e9, e10, mk_e e7]
  exact k
theorem hEH_D {h : zH} {m e b : Int} : dEH (cD h m) e b = hEH h m e b := rfl
section SV
variable {G : zG} {d : Nat} {h : zH} {m n en E F : Int} {fr to ff ft : Int → Int} {X : Int → Int → Bool}
theorem sp_settle {K : Bool → zH → Prop} (mc : mcell m) (k : dfC h n en E fr to X F ff ft) (ok : dOK n en E fr to F ff ft) (ov : h 4 12 = 0) (k1 : ∀ (h' D : zH), (∀ a, ¬ (m ≤ a ∧ a ≤ m + 18) → h' a = h a) → isD D n en E fr to X F ff ft → mOK D → cRep h' m D → pthOK h' m D → K true h') (k2 : ∀ h' : zH, (∀ a, ¬ (m ≤ a ∧ a ≤ m + 18) → h' a = h a) → chF E X → K false h') (k3 : ∀ (h' D : zH) (B T Pa Vi De : Int → Int) (K0 : Int), (∀ a, ¬ (m ≤ a ∧ a ≤ m + 18) → h' a = h a) → isD D n en E fr to X F ff ft → mOK D → bfs D 40 B T Pa Vi De K0 → gFail D 40 B K0 → ¬ K0 = 40 * 128 → K false h') : zCb G (d + 4) mX4_settle [vr 4 m, vr 2 4] h K := by
  have rg := mcell_rg mc
  unfold mrg at rg
  have ln := mcell_ln mc
  have E0 := ok.2.2.1
  have F0 := ok.2.2.2.1
  obtain ⟨k00, k01, k02, k03⟩ := k.1
  refine eX4_settle (bX4_settle_0 ⟨by rw [ov]; exact ⟨by decide, by decide⟩, fun _ => ?_, fun z => absurd ov z⟩)
  have r4 : ∀ (j x : Int) (g : zH), (zup g m j x) 4 = g 4 := fun j x g => zup_ne (by omega)
  rw [r4, r4, r4, r4, r4, r4, k00, k01, k02, k03]
  obtain ⟨h1, e1⟩ : ∃ h1, h1 = zcp (zcp (zcp (zcp (zup (zup (zup (zup h m 7 n) m 8 en) m 9 E) m 10 F) 5 (m + 1) 160) 6 (m + 2) 160) 8 (m + 4) 64) 9 (m + 5) 64 := ⟨_, rfl⟩
  rw [← e1]
  have f1 : ∀ a, ¬ (m ≤ a ∧ a ≤ m + 5) → h1 a = h a := fun a q => by
    rw [e1, zcp_ne (by omega), zcp_ne (by omega), zcp_ne (by omega), zcp_ne (by omega), zup_ne (by omega), zup_ne (by omega), zup_ne (by omega), zup_ne (by omega)]
  have em : h1 m = (zup (zup (zup (zup h m 7 n) m 8 en) m 9 E) m 10 F) m := by rw [e1, zcp_ne (by omega), zcp_ne (by omega), zcp_ne (by omega), zcp_ne (by omega)]
  have m7 : h1 m 7 = n := by rw [em, zup_ns (by decide), zup_ns (by decide), zup_ns (by decide), zup_eq]
  have m8 : h1 m 8 = en := by rw [em, zup_ns (by decide), zup_ns (by decide), zup_eq]
  have m9 : h1 m 9 = E := by rw [em, zup_ns (by decide), zup_eq]
  have m10 : h1 m 10 = F := by rw [em, zup_eq]
  have q1 : ∀ e, 0 ≤ e → e < E → h1 (m + 1) e = fr e := fun e a b => by
    rw [e1, zcp_ne (by omega), zcp_ne (by omega), zcp_ne (by omega), zcp_eq a (by omega), zup_ne (by omega), zup_ne (by omega), zup_ne (by omega), zup_ne (by omega)]
    exact (k.2.2.1 e a b).1
  have q2 : ∀ e, 0 ≤ e → e < E → h1 (m + 2) e = to e := fun e a b => by
    rw [e1, zcp_ne (by omega), zcp_ne (by omega), zcp_eq a (by omega), zcp_ne (by omega), zup_ne (by omega), zup_ne (by omega), zup_ne (by omega), zup_ne (by omega)]
    exact (k.2.2.1 e a b).2.1
  have q4 : ∀ i, 0 ≤ i → i < F → h1 (m + 4) i = ff i := fun i a b => by
    rw [e1, zcp_ne (by omega), zcp_eq a (by omega), zcp_ne (by omega), zcp_ne (by omega), zup_ne (by omega), zup_ne (by omega), zup_ne (by omega), zup_ne (by omega)]
    exact (k.2.2.2.1 i a b).1
  have q5 : ∀ i, 0 ≤ i → i < F → h1 (m + 5) i = ft i := fun i a b => by
    rw [e1, zcp_eq a (by omega), zcp_ne (by omega), zcp_ne (by omega), zcp_ne (by omega), zup_ne (by omega), zup_ne (by omega), zup_ne (by omega), zup_ne (by omega)]
    exact (k.2.2.2.1 i a b).2
  have kd : dfC h1 n en E fr to X F ff ft := dfC_fr (fun a p q => f1 a (by omega)) k
  have e4 : h1 4 = h 4 := f1 4 (by omega)
  clear e1 em r4
  have hs := kd.2.1
  refine sp_takeBlocks mc kd E0 m9 (fun h2 t tm => ⟨fun z => (by cases z), fun _ => ?_⟩) (fun h2 t c => ⟨fun _ => k2 h2 (fun a q => by rw [t a (by omega) (by omega) (by omega), f1 a (by omega)]) c, fun z => (by cases z)⟩)
  obtain ⟨t1, t2, t3, t4, t5, t6, t7⟩ := t
  have n1 : 1 ≤ h2 m 11 := t3.2.2.2 (by have := hs.1; omega)
  have st : ∀ z, (∃ b, (0 ≤ b ∧ b < h2 m 11) ∧ h2 (m + 6) b = z) ↔ chp E X z := fun z => by
    constructor
    · rintro ⟨b, hb, e⟩
      obtain ⟨c, hc, ec, hcb⟩ := t5 b hb.1 hb.2
      rw [← e, ec]
      exact (bgn_chp kd hc).mp hcb
    · intro hz
      have : ∃ c, (0 ≤ c ∧ c < h1 4 11) ∧ h1 10 c = z := by
        rcases hz with hz | ⟨hz, e, he, hn⟩
        · exact ⟨0, by have := hs.1; omega, by rw [hs.2.1, hz]⟩
        · exact kd.2.2.2.2 e z he.1 he.2 hz.1 hz.2 hn
      obtain ⟨c, hc, ec⟩ := this
      rw [← ec] at hz ⊢
      exact t6 c hc.1 hc.2 ((bgn_chp kd hc).mpr hz)
  have iD : isD (cD h2 m) n en E fr to X F ff ft := by
    refine ⟨⟨(t2 7 (by decide)).trans m7, (t2 8 (by decide)).trans m8, (t2 9 (by decide)).trans m9, (t2 10 (by decide)).trans m10⟩, ⟨n1, t3.2.1⟩, fun e a b => ⟨?_, ?_, t7 (e * 2) (by omega) (by omega), t7 (e * 2 + 1) (by omega) (by omega), fun i i0 i1 => tm e a b i i0 i1⟩, fun i a b => ⟨?_, ?_⟩, ⟨⟨n1, ?_⟩, ?_, ?_, t4⟩, st⟩
    · show h2 (m + 1) e = _
      rw [t1 _ (by omega) (by omega) (by omega), q1 e a b]
    · show h2 (m + 2) e = _
      rw [t1 _ (by omega) (by omega) (by omega), q2 e a b]
    · show h2 (m + 4) i = _
      rw [t1 _ (by omega) (by omega) (by omega), q4 i a b]
    · show h2 (m + 5) i = _
      rw [t1 _ (by omega) (by omega) (by omega), q5 i a b]
    · show h2 m 11 ≤ 256
      omega
    · show h2 (m + 6) 0 = 0
      obtain ⟨b, hb, e⟩ := (st 0).mpr (Or.inl rfl)
      obtain ⟨c, hc, ec, -⟩ := t5 0 (by omega) (by omega)
      have r := hs.2.2.1 c hc.1 hc.2
      by_cases z : b = 0
      · rw [z] at e
        exact e
      · have := t4 0 b (by omega) (by omega) hb.2
        omega
    · intro b b0 b1
      show 0 ≤ h2 (m + 6) b ∧ h2 (m + 6) b < 65536
      obtain ⟨c, hc, ec, -⟩ := t5 b b0 b1
      rw [ec]
      exact hs.2.2.1 c hc.1 hc.2
  have mok := isD_ok iD ok
  obtain ⟨D, eD⟩ : ∃ D, D = cD h2 m := ⟨_, rfl⟩
  have rep : cRep h2 m D := by rw [eD]; exact cD_rep h2 m
  rw [← eD] at iD mok
  clear eD
  have fr2 : ∀ a, ¬ (m ≤ a ∧ a ≤ m + 18) → h2 a = h a := fun a q => by rw [t1 a (by omega) (by omega) (by omega), f1 a (by omega)]
  refine sp_findSheaves rfl mok rep (by rw [show m + 7 + 7 = m + 14 by omega]; exact ln.1) (fun h3 g1 g2 g3 g4 g5 => ⟨fun _ => ?_, fun z => (by cases z)⟩) (fun h3 s b g1 g2 g3 g4 g5 => ⟨fun z => (by cases z), fun _ => k3 h3 D _ _ _ _ _ _ (fun a q => by rw [g1 a (by omega), fr2 a q]) iD mok g2 ⟨rfl, s, b, g3, g4, rfl, g5⟩ ?_⟩)
  · have hB := mO_bl mok
    refine sp_findClasses (n := h3 (m + 7) 0) (nb := D 0 4) (x := h3 (m + 7) 6) (T := h3 (m + 7 + 2)) g4.1 (by omega) (by rw [show m + 7 + 10 = m + 17 by omega]; exact ln.2.1) rfl g3 rfl rfl (fun s b s0 s1 b0 b1 => bfs_T g4 s0 s1 b0 b1 mok) (fun h4 R w1 w2 w3 w4 => ?_)
    refine k1 h4 D (fun a q => by rw [w1 a (by omega) (by omega), g1 a (by omega), fr2 a q]) iD mok (cRep_fr (fun a p q => by rw [w1 a (by omega) (by omega), g1 a (by omega)]) rep) ?_
    have p0 : h4 (m + 7) 0 = h3 (m + 7) 0 := w2 0 (by decide) (by decide)
    have p6 : h4 (m + 7) 6 = h3 (m + 7) 6 := w2 6 (by decide) (by decide)
    have p7 : h4 (m + 7) 7 = h3 (m + 7) 7 := w2 7 (by decide) (by decide)
    have c1 : h4 (m + 8) = h3 (m + 7 + 1) := by rw [show m + 7 + 1 = m + 8 by omega]; exact w1 _ (by omega) (by omega)
    have c2 : h4 (m + 9) = h3 (m + 7 + 2) := by rw [show m + 7 + 2 = m + 9 by omega]; exact w1 _ (by omega) (by omega)
    have c3 : h4 (m + 10) = h3 (m + 7 + 3) := by rw [show m + 7 + 3 = m + 10 by omega]; exact w1 _ (by omega) (by omega)
    have c4 : h4 (m + 11) = h3 (m + 7 + 4) := by rw [show m + 7 + 4 = m + 11 by omega]; exact w1 _ (by omega) (by omega)
    have c5 : h4 (m + 12) = h3 (m + 7 + 5) := by rw [show m + 7 + 5 = m + 12 by omega]; exact w1 _ (by omega) (by omega)
    unfold pthOK
    rw [p0, p6, p7, c1, c2, c3, c4, c5]
    refine ⟨g3, g4, g5, R, w3, ?_⟩
    rw [show m + 15 = m + 7 + 8 by omega, show m + 16 = m + 7 + 9 by omega, show m + 17 = m + 7 + 10 by omega]
    exact w4
  · have hB := mO_bl mok
    omega
theorem sp_settle_over {K : Bool → zH → Prop} (ov : h 4 12 = 1) (k : K false h) : zCb G (d + 4) mX4_settle [vr 4 m, vr 2 4] h K :=
  eX4_settle (bX4_settle_0 ⟨by rw [ov]; exact ⟨by decide, by decide⟩, fun z => absurd (ov.symm.trans z) (by decide), fun _ => k⟩)
end SV
