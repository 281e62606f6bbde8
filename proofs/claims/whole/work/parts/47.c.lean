/-! ===== bench ===== -/
/-- what the model's reading and building leaves of the bench -/
def mFF (hm h9 : zH) : Prop := (∀ a, ¬ a = 466 → ¬ (468 ≤ a ∧ a ≤ 509) → h9 a = hm a) ∧ (∀ j, j = 22 ∨ j = 64 ∨ j = 65 ∨ j = 77 → h9 466 j = hm 466 j) ∧ (∀ j, j < 12 → h9 471 j = hm 471 j) ∧ (∀ j, j < 288 → h9 472 j = hm 472 j ∧ h9 473 j = hm 473 j) ∧ (∀ j D, 0 ≤ j → j < 10 → mOK D → mRep hm j D → mRep h9 j D) ∧ h9 466 4 = 0
theorem mFF_w {hm h1 h2 h' : zH} (f : mFF hm h1) (w : wF h1 h2) (g1 : ∀ a, ¬ a = 466 → h' a = h2 a) (g2 : ∀ j, ¬ j = 7 → ¬ j = 8 → ¬ j = 10 → h' 466 j = h2 466 j) : mFF hm h' := by
  obtain ⟨f1, f2, f3, f4, f5, f6⟩ := f
  refine ⟨fun a p q => by rw [g1 a p, w.1 a p (by omega), f1 a p q], fun j p => by rw [g2 j (by omega) (by omega) (by omega), w.2.1 j (by omega), f2 j p], fun j p => by rw [g1 471 (by decide), w.1 471 (by decide) (by decide), f3 j p], fun j p => by rw [g1 472 (by decide), g1 473 (by decide), w.1 472 (by decide) (by decide), w.1 473 (by decide) (by decide)]; exact f4 j p, fun j D j0 j1 hD hr => mRep_fr (fun a p q => g1 a (by omega)) (w.2.2 j D j0 j1 hD (f5 j D j0 j1 hD hr)), by rw [g2 4 (by decide) (by decide) (by decide), w.2.1 4 (by decide), f6]⟩
section BE
variable {G : zG} {d : Nat} {h hm : zH} {bs : Int → Int} {K Sp V En : Int → Int} {m a : Int}
theorem sm_bench {Kb : Int → zH → Prop} (ts : tkS bs a K Sp V En m) (ha : 0 ≤ a ∧ a ≤ 900) (h4 : a ≤ hm 466 4 ∧ hm 466 4 ≤ 900) (tp : ∀ i, 0 ≤ i → i < a → (-128 ≤ bs i ∧ bs i < 128) ∧ hm 467 i = bs i) (kF : ¬ (lns K Sp V 902 0 s00).1 = 0 → ∀ h' : zH, mFF hm h' → FS h' (lns K Sp V 902 0 s00).1 (lns K Sp V 902 0 s00).2.1 → Kb (-1) (zup (zup h' 466 1 4) 466 2 (lns K Sp V 902 0 s00).2.1)) (kC : (lns K Sp V 902 0 s00).1 = 0 → ∀ hn h' : zH, MLs bs a K Sp V En m hn h' (lns K Sp V 902 0 s00).2.2.1 (lns K Sp V 902 0 s00).2.2.2 → (lns K Sp V 902 0 s00).2.2.2.2.1 = true → mFF hm h' → tX12_readAll_48 G (d + 62) (fun h6 => zR (h6 466 10) ∧ ((h6 466 10) ≤ 0 → tX12_bench_93 G (d + 63) Kb 0 (zup h6 466 22 (h6 466 23))) ∧ (¬ (h6 466 10) ≤ 0 → Kb (-1) (zup (zup h6 466 1 4) 466 2 (h6 466 8)))) 0 h') : zCi G (d + 64) mX12_bench [vr 12 466, vi a] hm Kb := by
  have tk := tkS_TK ts
  have m9 := tk.1
  refine eX12_bench (bX12_bench_0 ⟨⟨by omega, by omega⟩, fun z => absurd z (by omega), fun _ => ⟨⟨by omega, by omega⟩, ⟨by omega, by omega⟩, fun _ => ?_, fun z => absurd h4.1 z⟩⟩)
  obtain ⟨hn, en⟩ : ∃ hn, hn = zup (zup (zup (zup (zup (zup (zup hm 466 0 0) 466 5 a) 466 4 0) 466 6 0) 466 10 0) 466 23 0) 466 35 0 := ⟨_, rfl⟩
  rw [← en]
  have o : ∀ x, ¬ x = 466 → hn x = hm x := fun x p => by rw [en, zup_ne p, zup_ne p, zup_ne p, zup_ne p, zup_ne p, zup_ne p, zup_ne p]
  have s : ∀ j, ¬ j = 0 → ¬ j = 5 → ¬ j = 4 → ¬ j = 6 → ¬ j = 10 → ¬ j = 23 → ¬ j = 35 → hn 466 j = hm 466 j := fun j p q r t u v w => by rw [en, zup_ns w, zup_ns v, zup_ns u, zup_ns t, zup_ns r, zup_ns q, zup_ns p]
  have n35 : hn 466 35 = 0 := by rw [en, zup_eq]
  have n23 : hn 466 23 = 0 := by rw [en, zup_ns (by decide), zup_eq]
  have n10 : hn 466 10 = 0 := by rw [en, zup_ns (by decide), zup_ns (by decide), zup_eq]
  have n6 : hn 466 6 = 0 := by rw [en, zup_ns (by decide), zup_ns (by decide), zup_ns (by decide), zup_eq]
  have n4 : hn 466 4 = 0 := by rw [en, zup_ns (by decide), zup_ns (by decide), zup_ns (by decide), zup_ns (by decide), zup_eq]
  have n5 : hn 466 5 = a := by rw [en, zup_ns (by decide), zup_ns (by decide), zup_ns (by decide), zup_ns (by decide), zup_ns (by decide), zup_eq]
  have tpn : tpe hn bs a := ⟨n5, ha, fun i i0 i1 => by rw [o 467 (by decide)]; exact tp i i0 i1⟩
  have s0 := ts.2.1 0 (by omega) (by omega)
  -- the frame
  have fr : ∀ h' : zH, fM hn h' → mFF hm h' := fun h' f => ⟨fun x p q => by rw [f.1 x p (by omega), o x p], fun j p => by rw [f.2.1 j (by omega) (by omega) (by omega) (by omega) (by omega) (by omega), s j (by omega) (by omega) (by omega) (by omega) (by omega) (by omega) (by omega)], fun j p => by rw [f.2.2.1 j p, o 471 (by decide)], fun j p => by rw [(f.2.2.2.1 j p).1, (f.2.2.2.1 j p).2, o 472 (by decide), o 473 (by decide)]; exact ⟨rfl, rfl⟩, fun j D j0 j1 hD hr => mRep_fr (fun x p q => by rw [f.1 x (by omega) (by omega), o x (by omega)]) hr, by rw [f.2.1 4 (by decide) (by decide) (by decide) (by decide) (by decide) (by decide), n4]⟩
  refine sm_next (d := d + 61) n10 tpn n6 ⟨by omega, s0.1.1, s0.1.2⟩ (fun x x0 x1 => ts.2.2.2.2 x x0 x1) s0.2.2 s0.2.1 (fun h1 f1 mt => ?_)
  have e10 : h1 466 10 = 0 := by rw [f1.2 10 (by decide) (by decide), n10]
  have c1 : MLs bs a K Sp V En m hn h1 0 s00 := ⟨fM_R (mR_n f1), ⟨e10, tpe_n f1 tpn, mt, by omega, by omega⟩, ⟨by rw [f1.2 23 (by decide) (by decide), n23]; rfl, by show ((0 : Nat) : Int) ≤ 12; decide, fun j p q => absurd q (by show ¬ j < ((0 : Nat) : Int); omega)⟩, by rw [f1.2 35 (by decide) (by decide), n35]; rfl, ⟨fun j p q => absurd q (by show ¬ j < ((0 : Nat) : Int); omega), fun z => (by cases z)⟩, ⟨⟨by show ((0 : Nat) : Int) ≤ 12; decide, fun x hx => absurd hx List.not_mem_nil⟩, fun _ => rfl, by show ((0 : Nat) : Int) ≤ 3; decide, fun x hx => absurd hx List.not_mem_nil, fun z => (by cases z)⟩⟩
  refine eX12_readAll (bX12_readAll_0 (sm_lines ts (by rw [n35]; decide) 902 0 s00 h1 (by omega) c1 _ rfl (fun n0 h' mf => ?_) (fun e0 h' c' k0 bt => kC e0 hn h' c' bt (fr h' c'.1))))
  have hf := FS_n mf.2
  refine ⟨⟨by omega, by omega⟩, fun z => absurd z (by omega), fun _ => ?_⟩
  rw [mf.2.2.1]
  exact kF n0 h' (fr h' mf.1) mf.2
/-- a fault, by both -/
theorem Inv_F {hc h9 : zH} {n s : Int} (hI : Inv h) (fl : FL (h 12 5) (zup h 0 10 0) hc n s) (hs : 0 ≤ s ∧ s ≤ 900) (f : mFF (zup (zup (zup hc 0 15 n) 0 16 s) 0 14 4) h9) (fs : FS h9 n s) : Inv (zup (zup h9 466 1 4) 466 2 s) := by
  obtain ⟨⟨c1, c2⟩, -, -, bd⟩ := fl
  obtain ⟨f1, f2, f3, f4, f5, f6⟩ := f
  have ht := hI.2.2.2.1.1
  obtain ⟨e1, e2, e3, e4, e5, e6⟩ := hI.2.2.2.2.1
  -- rows of the class
  have cc : ∀ a, ¬ a = 0 → a ≤ 465 → (zup (zup h9 466 1 4) 466 2 s) a = hc a := fun a p q => by rw [zup_ne (by omega), zup_ne (by omega), f1 a (by omega) (by omega), zup_ne p, zup_ne p, zup_ne p]
  have z81 : (zup h 0 10 0) 81 = h 81 := zup_ne (by decide)
  have nr : ∀ a, a < 157 ∨ (232 < a ∧ a < 276) ∨ 465 < a → ¬ rowA (zup h 0 10 0) a := fun a p ⟨j, j0, j1⟩ => by
    rw [z81] at j1
    have := mc_rg (e2 j j0.1 j0.2)
    omega
  have cu : ∀ a, ¬ a = 0 → ¬ (4 ≤ a ∧ a ≤ 79) → ¬ (h 12 5 ≤ a ∧ a ≤ h 12 5 + 26 ∧ ¬ a = h 12 5 + 1) → ¬ (109 ≤ a ∧ a ≤ 156) → ¬ rowA (zup h 0 10 0) a → hc a = h a := fun a p q r u v => by rw [c1 a q r u v, zup_ne p]
  have c0 : hc 0 = (zup h 0 10 0) 0 := c1 0 (by decide) (by omega) (by decide) (nr 0 (by decide))
  have c466 : hc 466 = h 466 := cu 466 (by decide) (by decide) (by omega) (by decide) (nr 466 (by decide))
  have q0 : ∀ j, (zup (zup h9 466 1 4) 466 2 s) 0 j = (zup (zup (zup hc 0 15 n) 0 16 s) 0 14 4) 0 j := fun j => by rw [zup_ne (by decide), zup_ne (by decide), f1 0 (by decide) (by decide)]
  have q1 : ∀ j, ¬ j = 15 → ¬ j = 16 → ¬ j = 14 → ¬ j = 10 → (zup (zup h9 466 1 4) 466 2 s) 0 j = h 0 j := fun j p q r t => by rw [q0 j, zup_ns r, zup_ns q, zup_ns p, c0, zup_ns t]
  have m466 : ∀ j, j = 22 ∨ j = 64 ∨ j = 65 ∨ j = 77 → (zup (zup h9 466 1 4) 466 2 s) 466 j = h 466 j := fun j p => by rw [zup_ns (by omega), zup_ns (by omega), f2 j p, zup_ne (by decide), zup_ne (by decide), zup_ne (by decide), c466]
  have cm : ∀ a, 466 < a → hc a = h a := fun a p => cu a (by omega) (by omega) (by omega) (by omega) (nr a (by omega))
  have mm : ∀ a, 466 < a → (zup (zup (zup hc 0 15 n) 0 16 s) 0 14 4) a = h a := fun a p => by rw [zup_ne (by omega), zup_ne (by omega), zup_ne (by omega), cm a p]
  refine Inv_bf hI fs.2.2.2 hs (fun a p => ?_) ?_ (fun a p q => ?_) ?_ (fun i a i0 i1 p q => ?_) (fun j p => ?_) (fun j p => ?_) (fun j D j0 j1 hD hr => ?_) ?_ ⟨?_, ?_, ?_, ?_, ?_, ?_, ?_, ?_⟩ ⟨?_, ?_, ?_, ?_, ?_, ?_, ?_, ?_⟩
  · by_cases w : a ≤ 465
    · rw [cc a (by omega) w, cu a (by omega) (by omega) (by omega) (by omega) (nr a (by omega))]
    · rw [zup_ne (by omega), zup_ne (by omega), f1 a (by omega) (by omega), mm a (by omega)]
  · rw [cc 12 (by decide) (by decide), c2 5 (by decide), zup_ne (by decide)]
  · rw [cc a (by omega) (by omega), cu a (by omega) (by omega) (by omega) (by omega) (nr a (by omega))]
  · rw [cc _ (by omega) (by omega), cu _ (by omega) (by omega) (by omega) (by omega) (nr _ (by omega))]
  · have mr := mc_rg (e1 i i0 i1)
    rw [cc a (by omega) (by omega), cu a (by omega) (by omega) (by omega) (by omega) (fun ⟨j, j0, j1⟩ => ?_)]
    rw [z81] at j1
    exact row_dj (e1 i i0 i1) (e2 j j0.1 j0.2) (e5 i j i0 i1 j0.1 j0.2) ⟨p, q⟩ j1
  · rw [zup_ne (by decide), zup_ne (by decide), f3 j p, mm 471 (by decide)]
  · rw [zup_ne (show ¬ (472 : Int) = 466 by decide), zup_ne (show ¬ (472 : Int) = 466 by decide), zup_ne (show ¬ (473 : Int) = 466 by decide), zup_ne (show ¬ (473 : Int) = 466 by decide), (f4 j p).1, (f4 j p).2, mm 472 (by decide), mm 473 (by decide)]
    exact ⟨rfl, rfl⟩
  · exact mRep_fr (fun a p q => by rw [zup_ne (by omega), zup_ne (by omega)]) (f5 j D j0 j1 hD (mRep_fr (fun a p q => mm a (by omega)) hr))
  · exact bdy_fr (fun j _ _ => by rw [bR_k (h := hc) (by rw [cc 17 (by decide) (by decide)]) (by rw [cc 17 (by decide) (by decide)]) (cc 18 (by decide) (by decide)) (cc 19 (by decide) (by decide))]) bd
  · exact q1 9 (by decide) (by decide) (by decide) (by decide)
  · rw [q0, zup_ns (by decide), zup_ns (by decide), zup_ns (by decide), c0, zup_eq]
  · exact q1 11 (by decide) (by decide) (by decide) (by decide)
  · exact q1 12 (by decide) (by decide) (by decide) (by decide)
  · exact q1 13 (by decide) (by decide) (by decide) (by decide)
  · rw [q0, zup_eq]
  · rw [q0, zup_ns (by decide), zup_ns (by decide), zup_eq]
  · rw [q0, zup_ns (by decide), zup_eq]
  · rw [zup_ns (by decide), zup_ns (by decide), f6]
  · rw [zup_ns (by decide), zup_ns (by decide), fs.1]
  · rw [zup_ns (by decide), zup_eq]
  · exact zup_eq
  · exact m466 22 (by decide)
  · exact m466 64 (by decide)
  · exact m466 65 (by decide)
  · exact m466 77 (by decide)
end BE
