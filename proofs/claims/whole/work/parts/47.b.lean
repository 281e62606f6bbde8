/-! ===== the class takes the bench; the model keeps it ===== -/
section TB2
variable {G : zG} {d : Nat} {h : zH}
theorem sp_takeBench {Q : zH → Prop} {N : Int} (hN : h 12 6 = N) (N4 : 0 ≤ N ∧ N ≤ 4) (kk : ∀ h' : zH, (∀ a, ¬ a = 0 → ¬ a = 3 → ¬ a = 12 → ¬ a = 81 → h' a = h a) → h' 0 9 = h 12 5 → h' 12 5 = h 0 9 → h' 0 12 = N → h' 0 13 = N → (∀ j, ¬ j = 9 → ¬ j = 12 → ¬ j = 13 → h' 0 j = h 0 j) → (∀ i, 0 ≤ i → h' 3 i = if i < N then h 81 i else h 3 i) → (∀ i, 0 ≤ i → h' 81 i = if i < N then h 3 i else h 81 i) → Q h') : zCv G d mX11_takeBench [vr 11 0] h Q := by
  obtain ⟨h1, e1⟩ : ∃ h1, h1 = zup (zup (zup (zup h 0 9 (h 12 5)) 12 5 (h 0 9)) 0 12 N) 0 13 N := ⟨_, rfl⟩
  have o : ∀ a, ¬ a = 0 → ¬ a = 12 → h1 a = h a := fun a p q => by rw [e1, zup_ne p, zup_ne p, zup_ne q, zup_ne p]
  have go : ∀ (f : Nat) (q : Int) (h2 : zH), 0 ≤ q → q + f = N → (∀ a, ¬ a = 3 → ¬ a = 81 → h2 a = h1 a) → (∀ i, 0 ≤ i → h2 3 i = if i < q then h 81 i else h 3 i) → (∀ i, 0 ≤ i → h2 81 i = if i < q then h 3 i else h 81 i) → tX11_takeBench_45 G d Q q h2 := by
    intro f
    induction f with
    | zero =>
      intro q h2 q0 qf g1 g2 g3
      have eq : q = N := by omega
      rw [eq] at g2 g3
      have K : Q h2 := kk h2 (fun a p q r s => by rw [g1 a q s, o a p r]) (by rw [g1 0 (by decide) (by decide), e1, zup_ns (by decide), zup_ns (by decide), zup_ne (by decide), zup_eq]) (by rw [g1 12 (by decide) (by decide), e1, zup_ne (by decide), zup_ne (by decide), zup_eq]) (by rw [g1 0 (by decide) (by decide), e1, zup_ns (by decide), zup_eq]) (by rw [g1 0 (by decide) (by decide), e1, zup_eq]) (fun j p q r => by rw [g1 0 (by decide) (by decide), e1, zup_ns r, zup_ns q, zup_ne (by decide), zup_ns p]) g2 g3
      refine bX11_takeBench_45 ?_
      rw [g1 0 (by decide) (by decide), show h1 0 12 = N by rw [e1, zup_ns (by decide), zup_eq]]
      exact ⟨⟨by omega, by omega⟩, ⟨by omega, by omega⟩, fun _ => K, fun z => absurd (by omega) z⟩
    | succ f ih =>
      intro q h2 q0 qf g1 g2 g3
      refine bX11_takeBench_45 ?_
      rw [g1 0 (by decide) (by decide), show h1 0 12 = N by rw [e1, zup_ns (by decide), zup_eq], g2 q q0, g3 q q0, if_neg (by omega), if_neg (by omega)]
      refine ⟨⟨by omega, by omega⟩, ⟨by omega, by omega⟩, fun z => absurd z (by omega), fun _ => ⟨⟨by omega, by omega⟩, fun z => absurd z (by omega), fun _ => ⟨by omega, by omega, by omega, by omega, ih (q + 1) _ (by omega) (by omega) (fun a p r => by rw [zup_ne r, zup_ne p, g1 a p r]) (fun i i0 => ?_) (fun i i0 => ?_)⟩⟩⟩
      · rw [zup_ne (by decide)]
        by_cases e : i = q
        · rw [e, zup_eq, if_pos (by omega)]
        · rw [zup_ns e, g2 i i0]
          by_cases w : i < q
          · rw [if_pos w, if_pos (by omega)]
          · rw [if_neg w, if_neg (by omega)]
      · by_cases e : i = q
        · rw [e, zup_eq, if_pos (by omega)]
        · rw [zup_ns e, zup_ne (by decide), g3 i i0]
          by_cases w : i < q
          · rw [if_pos w, if_pos (by omega)]
          · rw [if_neg w, if_neg (by omega)]
  refine eX11_takeBench (bX11_takeBench_0 ?_)
  rw [hN, ← e1]
  exact go N.toNat 0 h1 (by omega) (by omega) (fun _ _ _ => rfl) (fun i i0 => by rw [o 3 (by decide) (by decide), if_neg (by omega)]) (fun i i0 => by rw [o 81 (by decide) (by decide), if_neg (by omega)])
theorem sm_tail {Kb : Int → zH → Prop} {L : List nsT} {N : Int} {P : Int → zH → Prop} (tb : TBm h L) (h35 : h 466 35 = N) (hN : 0 ≤ N ∧ N ≤ 4) (mr : ∀ j : Int, 0 ≤ j → j < N → ∃ D : zH, mOK D ∧ mRep h (10 + j) D ∧ P j D) (kk : ∀ h' : zH, (∀ a, ¬ a = 466 → ¬ (471 ≤ a ∧ a ≤ 473) → ¬ (493 ≤ a ∧ a ≤ 509) → h' a = h a) → (∀ j, ¬ j = 1 → ¬ j = 2 → ¬ j = 22 → ¬ j = 64 → ¬ j = 65 → h' 466 j = h 466 j) → h' 466 22 = L.length → h' 466 64 = N → h' 466 65 = N → h' 466 1 = 0 → h' 466 2 = -1 → (∀ s : Int, 0 ≤ s → s < L.length → 0 ≤ h' 471 s ∧ rgs (fun k => h' 472 (s * 24 + k)) (fun k => h' 473 (s * 24 + k)) 0 (h' 471 s) (gS L s).2) → (∀ j : Int, 0 ≤ j → j < N → ∃ D : zH, mOK D ∧ mRep h' j D ∧ P j D) → Kb N h') : tX12_bench_93 G d Kb 0 (zup h 466 22 (h 466 23)) := by
  obtain ⟨t1, t2, t3⟩ := tb
  obtain ⟨hA, eA⟩ : ∃ hA, hA = zup h 466 22 (L.length : Int) := ⟨_, rfl⟩
  have oA : ∀ a, ¬ a = 466 → hA a = h a := fun a p => by rw [eA, zup_ne p]
  have sA : ∀ j, ¬ j = 22 → hA 466 j = h 466 j := fun j p => by rw [eA, zup_ns p]
  have A22 : hA 466 22 = L.length := by rw [eA, zup_eq]
  -- machines
  have machs : ∀ (f : Nat) (k : Int) (g gB : zH), 0 ≤ k → k + f = N → (∀ a, ¬ a = 466 → ¬ (471 ≤ a ∧ a ≤ 473) → gB a = h a) → (∀ j, ¬ j = 22 → ¬ j = 64 → ¬ j = 65 → gB 466 j = h 466 j) → gB 466 22 = L.length → gB 466 64 = N → gB 466 65 = N → (∀ s : Int, 0 ≤ s → s < L.length → 0 ≤ gB 471 s ∧ rgs (fun k => gB 472 (s * 24 + k)) (fun k => gB 473 (s * 24 + k)) 0 (gB 471 s) (gS L s).2) → (∀ a, ¬ (493 ≤ a ∧ a ≤ 509) → g a = gB a) → (∀ j : Int, 0 ≤ j → j < N → ∃ D : zH, mOK D ∧ mRep g (10 + j) D ∧ P j D) → (∀ j : Int, 0 ≤ j → j < k → ∃ D : zH, mOK D ∧ mRep g j D ∧ P j D) → tX12_bench_130 G d Kb k g := by
    intro f
    induction f with
    | zero =>
      intro k g gB k0 kf b1 b2 b3 b4 b5 b6 g1 g2 g3
      have ek : k = N := by omega
      rw [ek] at g3
      refine bX12_bench_130 ?_
      rw [g1 466 (by decide), b5]
      refine ⟨⟨by omega, by omega⟩, ⟨by omega, by omega⟩, fun _ => sm_good ?_, fun z => absurd (by omega) z⟩
      have o : ∀ a, ¬ a = 466 → (zup (zup g 466 1 0) 466 2 (-1)) a = g a := fun a p => by rw [zup_ne p, zup_ne p]
      have s : ∀ j, ¬ j = 1 → ¬ j = 2 → (zup (zup g 466 1 0) 466 2 (-1)) 466 j = gB 466 j := fun j p q => by rw [zup_ns q, zup_ns p, g1 466 (by decide)]
      refine kk _ (fun a p q r => by rw [o a p, g1 a r, b1 a p q]) (fun j p q r u v => by rw [s j p q, b2 j r u v]) (by rw [s 22 (by decide) (by decide), b3]) (by rw [s 64 (by decide) (by decide), b4]) (by rw [s 65 (by decide) (by decide), b5]) (by rw [zup_ns (by decide), zup_eq]) zup_eq (fun s s0 s1 => ?_) (fun j j0 j1 => ?_)
      · rw [o 471 (by decide), o 472 (by decide), o 473 (by decide), g1 471 (by decide), g1 472 (by decide), g1 473 (by decide)]
        exact b6 s s0 s1
      · obtain ⟨D, x1, x2, x3⟩ := g3 j j0 j1
        exact ⟨D, x1, mRep_fr (fun a p q => o a (by omega)) x2, x3⟩
    | succ f ih =>
      intro k g gB k0 kf b1 b2 b3 b4 b5 b6 g1 g2 g3
      obtain ⟨D, x1, x2, x3⟩ := g2 k k0 (by omega)
      refine bX12_bench_130 ?_
      rw [g1 466 (by decide), b5]
      refine ⟨⟨by omega, by omega⟩, ⟨by omega, by omega⟩, fun z => absurd z (by omega), fun _ => sm_keepsMachine (by omega) (by omega) (by omega) x1 x2 (fun g' ms mk => ?_)⟩
      refine ih (k + 1) g' gB (by omega) (by omega) b1 b2 b3 b4 b5 b6 (fun a p => by rw [ms.1 a p, g1 a p]) (fun j j0 j1 => ?_) (fun j j0 j1 => ?_)
      · obtain ⟨D', y1, y2, y3⟩ := g2 j j0 j1
        exact ⟨D', y1, msF_rep ms (by omega) (by omega) y1 y2, y3⟩
      · by_cases e : j = k
        · rw [e]
          exact ⟨D, x1, mk, x3⟩
        · obtain ⟨D', y1, y2, y3⟩ := g3 j j0 (by omega)
          exact ⟨D', y1, msF_rep ms (by omega) e y1 y2, y3⟩
  -- sets
  have sets : ∀ (f : Nat) (k : Int) (g : zH), 0 ≤ k → k + f = L.length → (∀ a, ¬ (471 ≤ a ∧ a ≤ 473) → g a = hA a) → (∀ j, 12 ≤ j → g 471 j = hA 471 j) → (∀ j, 288 ≤ j → g 472 j = hA 472 j ∧ g 473 j = hA 473 j) → (∀ s : Int, 0 ≤ s → s < k → g 471 s = hA 471 (12 + s) ∧ ∀ q, 0 ≤ q → q < hA 471 (12 + s) → g 472 (s * 24 + q) = hA 472 ((12 + s) * 24 + q) ∧ g 473 (s * 24 + q) = hA 473 ((12 + s) * 24 + q)) → tX12_bench_93 G d Kb k g := by
    intro f
    induction f with
    | zero =>
      intro k g k0 kf g1 g2 g3 g4
      have ek : k = L.length := by omega
      rw [ek] at g4
      refine bX12_bench_93 ?_
      rw [g1 466 (by decide), A22, sA 35 (by decide), h35]
      refine ⟨⟨by omega, by omega⟩, ⟨by omega, by omega⟩, fun _ => ?_, fun z => absurd (by omega) z⟩
      have o : ∀ a, ¬ a = 466 → (zup (zup g 466 65 N) 466 64 N) a = g a := fun a p => by rw [zup_ne p, zup_ne p]
      refine machs N.toNat 0 _ _ (by omega) (by omega) (fun a p q => by rw [o a p, g1 a q, oA a p]) (fun j p q r => by rw [zup_ns q, zup_ns r, g1 466 (by decide), sA j p]) (by rw [zup_ns (by decide), zup_ns (by decide), g1 466 (by decide), A22]) zup_eq (by rw [zup_ns (by decide), zup_eq]) (fun s s0 s1 => ?_) (fun _ _ => rfl) (fun j j0 j1 => ?_) (fun j a b => absurd b (by omega))
      · obtain ⟨-, -, c0, rg⟩ := t3 s s0 s1
        have u := g4 s s0 s1
        rw [oA 471 (by decide), oA 472 (by decide), oA 473 (by decide)] at u
        rw [o 471 (by decide), o 472 (by decide), o 473 (by decide), u.1]
        exact ⟨c0.1, rgs_cg (fun k a b => u.2 k a b) rg⟩
      · obtain ⟨D, x1, x2, x3⟩ := mr j j0 j1
        exact ⟨D, x1, mRep_fr (fun a p q => by rw [o a (by omega), g1 a (by omega), oA a (by omega)]) x2, x3⟩
    | succ f ih =>
      intro k g k0 kf g1 g2 g3 g4
      obtain ⟨-, -, c0, -⟩ := t3 k k0 (by omega)
      have e12 : g 471 (12 + k) = hA 471 (12 + k) := g2 _ (by omega)
      have c0 : 0 ≤ hA 471 (12 + k) ∧ hA 471 (12 + k) ≤ 24 := by rw [oA 471 (by decide)]; exact c0
      refine bX12_bench_93 ?_
      rw [g1 466 (by decide), A22]
      refine ⟨⟨by omega, by omega⟩, ⟨by omega, by omega⟩, fun z => absurd z (by omega), fun _ => sm_keepsSet (by omega) e12 c0 (fun g' y1 y2 y3 y4 => ?_)⟩
      refine ih (k + 1) g' (by omega) (by omega) (fun a p => by rw [y1 a p, g1 a p]) (fun j p => by rw [y2, fup_ne (by omega), g2 j p]) (fun j p => ?_) (fun s s0 s1 => ?_)
      · have := y3 j (by omega)
        rw [this.1, this.2]
        exact g3 j p
      · by_cases e : s = k
        · rw [e, y2, fup_eq]
          refine ⟨rfl, fun q a b => ?_⟩
          rw [(y4 q a b).1, (y4 q a b).2]
          exact g3 _ (by omega)
        · have u := g4 s s0 (by omega)
          have cs := (t3 s s0 (by omega)).2.2.1
          rw [y2, fup_ne e]
          refine ⟨u.1, fun q a b => ?_⟩
          have b' : q < 24 := by rw [oA 471 (by decide)] at b; omega
          have := y3 (s * 24 + q) (by omega)
          rw [this.1, this.2]
          exact u.2 q a b
  rw [t1, ← eA]
  exact sets L.length 0 hA (by omega) (by omega) (fun _ _ => rfl) (fun _ _ => rfl) (fun _ _ => ⟨rfl, rfl⟩) (fun s a b => absurd b (by omega))
end TB2
