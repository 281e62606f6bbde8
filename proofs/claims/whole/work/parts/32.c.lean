/-! ===== the model's pairs ===== -/
theorem cl_cong {n : Int} {T : Int → Int} {nb : Int} {E : Int → Bool} {R : Nat} {C : Int} {Ki He Ap : Int → Int} (h : clOK n T nb E R C Ki He Ap) (hT : ∀ s b, 0 ≤ s → s < n → 0 ≤ b → b < nb → 0 ≤ T (s * 128 + b) ∧ T (s * 128 + b) < n) {s t : Int} (hs : 0 ≤ s ∧ s < n) (ht : 0 ≤ t ∧ t < n) (e : Ki s = Ki t) : E s = E t ∧ ∀ b, 0 ≤ b → b < nb → Ki (T (s * 128 + b)) = Ki (T (t * 128 + b)) := by
  have ne := (h.2.2.1.2 s t hs.1 hs.2 ht.1 ht.2).mpr e
  constructor
  · by_cases c : E s = E t
    · exact c
    · exact absurd (pd_mono (r := 0) (Nat.zero_le _) c) ne
  · intro b b0 b1
    have a1 := hT s b hs.1 hs.2 b0 b1
    have a2 := hT t b ht.1 ht.2 b0 b1
    refine (h.2.2.1.2 _ _ a1.1 a1.2 a2.1 a2.2).mp (fun q => ne ?_)
    exact h.1 s t hs.1 hs.2 ht.1 ht.2 (Or.inr ⟨b, b0, b1, q⟩)
theorem cl_head {n : Int} {T : Int → Int} {nb : Int} {E : Int → Bool} {R : Nat} {C : Int} {Ki He Ap : Int → Int} (h : clOK n T nb E R C Ki He Ap) {s : Int} (hs : 0 ≤ s ∧ s < n) : (0 ≤ He (Ki s) ∧ He (Ki s) < n) ∧ Ki (He (Ki s)) = Ki s := by
  have k := cl_Ki h hs.1 hs.2
  have a := h.2.2.1.1.2.2.1 (Ki s) k.1 k.2
  exact ⟨a.1, a.2⟩
theorem cl_0 {n : Int} {T : Int → Int} {nb : Int} {E : Int → Bool} {R : Nat} {C : Int} {Ki He Ap : Int → Int} (h : clOK n T nb E R C Ki He Ap) (hn : 1 ≤ n) : Ki 0 = 0 := by
  have k := cl_Ki h (s := 0) (by omega) (by omega)
  have a := (h.2.2.1.1.2.1 0 (by omega) (by omega)).2.2
  have b := cl_He h k.1 k.2
  by_cases z : Ki 0 = 0
  · exact z
  · have := h.2.2.1.1.2.2.2 0 (Ki 0) (by omega) (by omega) k.2
    have := cl_He h (c := 0) (by omega) (by omega)
    omega
/-- runs over sheaves are runs over classes -/
theorem bis {h : zH} {l : Int} {D : zH} {S S' : Int → Int} {n : Int} (hD : mOK D) (hp : pthP h (l + 7) D) (hS : dS S n) (e : ∀ b, 0 ≤ b → b < n → S b = S' b) : ∀ v : List Int, wIn n v → (0 ≤ wRun (fun a b => h (l + 7 + 2) (a * 128 + dB D (S' b))) v ∧ wRun (fun a b => h (l + 7 + 2) (a * 128 + dB D (S' b))) v < h (l + 7) 0) ∧ wRun (pST h l D S) v = h (l + 7 + 8) (wRun (fun a b => h (l + 7 + 2) (a * 128 + dB D (S' b))) v)
  | [], _ => by
    have pn := pP_n hp
    exact ⟨⟨Int.le_refl _, by show (0 : Int) < _; omega⟩, (cl_0 hp.2.2.2.choose_spec.2 (by omega)).symm⟩
  | b :: u, hv => by
    obtain ⟨a1, a2⟩ := bis hD hp hS e u (fun c hc => hv c (List.mem_cons_of_mem _ hc))
    have hb := hv b List.mem_cons_self
    have hs := hS.2.2.1 b hb.1 hb.2
    have bb := (dB_ok hD hs.1).1
    have cl := hp.2.2.2.choose_spec.2
    have hT := fun s b s0 s1 b0 b1 => bfs_T hp.2.1 (s := s) (b := b) s0 s1 b0 b1 hD
    obtain ⟨x, ex⟩ : ∃ x, x = wRun (fun a b => h (l + 7 + 2) (a * 128 + dB D (S' b))) u := ⟨_, rfl⟩
    rw [← ex] at a1 a2
    have hd := cl_head cl a1
    have st := (cl_cong cl hT hd.1 a1 hd.2).2 _ bb.1 bb.2
    show (0 ≤ h (l + 7 + 2) (wRun _ u * 128 + dB D (S' b)) ∧ h (l + 7 + 2) (wRun _ u * 128 + dB D (S' b)) < h (l + 7) 0) ∧ pST h l D S (wRun (pST h l D S) u) b = h (l + 7 + 8) (h (l + 7 + 2) (wRun _ u * 128 + dB D (S' b)))
    rw [← ex, ← e b hb.1 hb.2, a2]
    exact ⟨hT x _ a1.1 a1.2 bb.1 bb.2, st⟩
theorem bisT {h : zH} {l : Int} {D : zH} {s : Int} (hD : mOK D) (hp : pthP h (l + 7) D) (hs : 0 ≤ s ∧ s < h (l + 7) 0) : pTk h l (h (l + 7 + 8) s) = tb (h (l + 7) 6) s := by
  have cl := hp.2.2.2.choose_spec.2
  have hT := fun s b s0 s1 b0 b1 => bfs_T hp.2.1 (s := s) (b := b) s0 s1 b0 b1 hD
  have hd := cl_head cl hs
  exact (cl_cong cl hT hd.1 hs hd.2).1
theorem fup_div {f : Int → Int} {U a c : Int} (hc : 0 ≤ c ∧ c < 40) : (fun j => fup f U (a * 40 + c) j / 40) = fup (fun j => f j / 40) U a := by
  funext j
  unfold fup
  by_cases e : j = U
  · rw [if_pos e, if_pos e]
    omega
  · rw [if_neg e, if_neg e]
theorem fup_mod {f : Int → Int} {U a c : Int} (hc : 0 ≤ c ∧ c < 40) : (fun j => fup f U (a * 40 + c) j % 40) = fup (fun j => f j % 40) U c := by
  funext j
  unfold fup
  by_cases e : j = U
  · rw [if_pos e, if_pos e]
    omega
  · rw [if_neg e, if_neg e]
theorem mGt_k {D h h' : zH} {n : Int} {B T Pa Vi : Int → Int} (hn : n ≤ 40) (hB : D 0 4 ≤ 128) (f : mFr 1 h h') (g : mGt D h 0 n B T Pa Vi) : mGt D h' 0 n B T Pa Vi := by
  obtain ⟨g1, g2, g3, g4, g5⟩ := g
  refine ⟨by rw [f.2.2.1 0 (by decide), g1], fun s s0 s1 => ?_, fun s b s0 s1 b0 b1 => ?_, fun s s0 s1 => ?_, fun s s0 s1 => ?_⟩
  · rw [(f.2.1 _ (by omega)).1]
    exact g2 s s0 s1
  · rw [f.2.2.2 _ (by omega)]
    exact g3 s b s0 s1 b0 b1
  · rw [(f.2.1 _ (by omega)).2.1]
    exact g4 s s0 s1
  · rw [(f.2.1 _ (by omega)).2.2]
    exact g5 s s0 s1
/-- what the model knows of its pairs -/
def mP (h1 : zH) (n C1 C2 : Int) (f g : Int → Int → Int) (S Vi De : Int → Int) (k0 : Int) : Prop := pbf n C1 C2 f g (h1 466 88) (h1 520) (fun j => h1 519 j / 40) (fun j => h1 519 j % 40) (h1 521) Vi De k0 ∧ (∀ j, 0 < j → j < h1 466 88 → h1 522 j = S (Vi j)) ∧ ∀ j, 0 ≤ j → j < h1 466 88 → 0 ≤ h1 519 j ∧ h1 519 j < 1600
def fdF (h h' : zH) : Prop := (∀ a, ¬ a = 466 → ¬ (505 ≤ a ∧ a ≤ 509) → ¬ (516 ≤ a ∧ a ≤ 522) → h' a = h a) ∧ ∀ l, ¬ l = 87 → ¬ l = 88 → h' 466 l = h 466 l
theorem fdF_k {h h' : zH} (f : fdF h h') : mK h h' := ⟨fun a ka => f.1 a (by unfold kp at ka; omega) (by unfold kp at ka; omega) (by unfold kp at ka; omega), f.1 0 (by decide) (by decide) (by decide), fun l kl => f.2 l (by unfold kms at kl; omega) (by unfold kms at kl; omega)⟩
section PM
variable {G : zG} {d : Nat} {h h1 D E : zH} {i j n : Int} {S : Int → Int}
theorem sm_pairsBegin {K : zH → Prop} (k : ∀ h' : zH, (∀ a, ¬ a = 520 → ¬ a = 466 → h' a = h a) → (∀ l, ¬ l = 88 → h' 466 l = h 466 l) → h' 466 88 = 0 → (∀ j, 0 ≤ j → j < 1600 → h' 520 j = -1) → K h') : zCv G d mX12_pairsBegin [vr 12 466] h K := by
  have go : ∀ (f : Nat) (t : Int) (h2 : zH), 0 ≤ t ∧ t ≤ 1600 → 1600 - t ≤ f → (∀ a, ¬ a = 520 → h2 a = h a) → (∀ j, 0 ≤ j → j < t → h2 520 j = -1) → tX12_pairsBegin_2 G d K t h2 := by
    intro f
    induction f with
    | zero =>
      intro t h2 t0 hf g1 g2
      refine bX12_pairsBegin_2 ⟨⟨by omega, by omega⟩, fun _ => k _ (fun a p q => by rw [zup_ne q, g1 a p]) (fun l q => by rw [zup_ns q, g1 466 (by decide)]) zup_eq (fun j j0 j1 => by rw [zup_ne (by decide)]; exact g2 j j0 (by omega)), fun z => absurd hf (by omega)⟩
    | succ f ih =>
      intro t h2 t0 hf g1 g2
      refine bX12_pairsBegin_2 ⟨⟨by omega, by omega⟩, fun z => k _ (fun a p q => by rw [zup_ne q, g1 a p]) (fun l q => by rw [zup_ns q, g1 466 (by decide)]) zup_eq (fun j j0 j1 => by rw [zup_ne (by decide)]; exact g2 j j0 (by omega)), fun z => ⟨by omega, ih (t + 1) _ (by omega) (by omega) (fun a p => by rw [zup_ne p, g1 a p]) (fun j j0 j1 => ?_)⟩⟩
      rw [zup_r]
      by_cases w : j = t
      · rw [w, fup_eq]
      · rw [fup_ne w]
        exact g2 j j0 (by omega)
  exact eX12_pairsBegin (bX12_pairsBegin_0 (go 1600 0 h (by omega) (by omega) (fun _ _ => rfl) (fun j j0 j1 => absurd j1 (by omega))))
/-- the number of a pair -/
theorem sm_pairOf {K : Int → zH → Prop} {x y fr lt : Int} (hx : 0 ≤ x ∧ x < 40) (hy : 0 ≤ y ∧ y < 40) (hU : 0 ≤ h 466 88) (hr : zR (h 520 (x * 40 + y))) (k1 : ¬ h 520 (x * 40 + y) = -1 → K (h 520 (x * 40 + y)) h) (k2 : h 520 (x * 40 + y) = -1 → h 466 88 < 1600 ∧ ∀ h' : zH, (∀ a, ¬ (519 ≤ a ∧ a ≤ 522) → ¬ a = 466 → h' a = h a) → (∀ l, ¬ l = 88 → h' 466 l = h 466 l) → h' 466 88 = h 466 88 + 1 → h' 520 = fup (h 520) (x * 40 + y) (h 466 88) → h' 519 = fup (h 519) (h 466 88) (x * 40 + y) → h' 521 = fup (h 521) (h 466 88) fr → h' 522 = fup (h 522) (h 466 88) lt → K (h 466 88) h') : zCi G d mX12_pairOf [vr 12 466, vi x, vi y, vi fr, vi lt] h K := by
  refine eX12_pairOf (bX12_pairOf_0 ⟨by omega, hr, fun z => ?_, fun z => ⟨by omega, k1 z⟩⟩)
  obtain ⟨r, q⟩ := k2 z
  refine ⟨by omega, by omega, by omega, by omega, ?_⟩
  rw [show h 466 88 + 1 - 1 = h 466 88 by omega]
  refine q _ (fun a p1 p2 => ?_) (fun l p => ?_) zup_eq ?_ ?_ ?_ ?_
  · rw [zup_ne p2, zup_ne (by omega), zup_ne (by omega), zup_ne (by omega), zup_ne (by omega)]
  · rw [zup_ns p, zup_ne (by decide), zup_ne (by decide), zup_ne (by decide), zup_ne (by decide)]
  · rw [zup_ne (by decide), zup_ne (by decide), zup_ne (by decide), zup_ne (by decide), zup_r]
  · rw [zup_ne (by decide), zup_ne (by decide), zup_ne (by decide), zup_r, zup_ne (by decide)]
  · rw [zup_ne (by decide), zup_ne (by decide), zup_r, zup_ne (by decide), zup_ne (by decide)]
  · rw [zup_ne (by decide), zup_r, zup_ne (by decide), zup_ne (by decide), zup_ne (by decide)]
/-- one place looked at by the model -/
theorem sm_pairOf2 {K : Int → zH → Prop} {C1 C2 t b : Int} {f g : Int → Int → Int} {Vi De : Int → Int} (hn : n ≤ 256) (hC : C1 ≤ 40 ∧ C2 ≤ 40) (p : mP h n C1 C2 f g S Vi De (t * 256 + b)) (ht : 0 ≤ t ∧ t < h 466 88) (hb : 0 ≤ b ∧ b < n) (fr : (0 ≤ f (h 519 t / 40) b ∧ f (h 519 t / 40) b < C1) ∧ (0 ≤ g (h 519 t % 40) b ∧ g (h 519 t % 40) b < C2)) {x y z : Int} (ex : x = f (h 519 t / 40) b) (ey : y = g (h 519 t % 40) b) (ez : z = S b) (k : ∀ (h' : zH) (Vi' De' : Int → Int), (∀ a, ¬ (519 ≤ a ∧ a ≤ 522) → ¬ a = 466 → h' a = h a) → (∀ l, ¬ l = 88 → h' 466 l = h 466 l) → mP h' n C1 C2 f g S Vi' De' (t * 256 + (b + 1)) → h 466 88 ≤ h' 466 88 → (∀ i, 0 ≤ i → i < h 466 88 → h' 519 i = h 519 i) → K (h' 520 (x * 40 + y)) h') : zCi G d mX12_pairOf [vr 12 466, vi x, vi y, vi t, vi z] h K := by
  obtain ⟨pb, lk, rg⟩ := p
  have uu := pbf_U hC pb
  subst ex ey ez
  refine sm_pairOf (by omega) (by omega) (by omega) ?_ (fun w => ?_) (fun w => ⟨pbf_room hC fr.1 fr.2 w pb, fun h' f1 f2 f3 f4 f5 f6 f7 => ?_⟩)
  · rcases pb.2.2.1 _ _ fr.1.1 (by omega) fr.2.1 (by omega) with w | w
    · rw [w]
      exact zR_m1
    · exact ⟨by omega, by omega⟩
  · exact k h Vi De (fun _ _ _ => rfl) (fun _ _ => rfl) ⟨pbf_old hn ht hb (by omega) w pb, lk, rg⟩ (Int.le_refl _) (fun _ _ _ => rfl)
  · have nw := pbf_new hn hC ht hb fr w pb
    have e : h 466 88 = h' 520 (f (h 519 t / 40) b * 40 + g (h 519 t % 40) b) := by rw [f4, fup_eq]
    rw [e]
    refine k h' (fup Vi (h 466 88) b) (fup De (h 466 88) (De t + 1)) f1 f2 ⟨?_, fun j j0 j1 => ?_, fun j j0 j1 => ?_⟩ (by omega) (fun i i0 i1 => ?_)
    · rw [f3, f4, f5, f6, fup_div (by omega), fup_mod (by omega)]
      exact nw
    · rw [f7]
      by_cases q : j = h 466 88
      · rw [q, fup_eq, fup_eq]
      · rw [fup_ne q, fup_ne q]
        exact lk j j0 (by omega)
    · rw [f5]
      by_cases q : j = h 466 88
      · rw [q, fup_eq]
        omega
      · rw [fup_ne q]
        exact rg j j0 (by omega)
    · rw [f5, fup_ne (by omega)]
/-- the first pair (0, 0) -/
theorem sm_pairOf0 {K : Int → zH → Prop} {C1 C2 : Int} {f g : Int → Int → Int} (hC : 1 ≤ C1 ∧ 1 ≤ C2) (h0 : h 466 88 = 0) (hN : ∀ j, 0 ≤ j → j < 1600 → h 520 j = -1) (k : ∀ (h' : zH), (∀ a, ¬ (519 ≤ a ∧ a ≤ 522) → ¬ a = 466 → h' a = h a) → (∀ l, ¬ l = 88 → h' 466 l = h 466 l) → h' 466 88 = 1 → mP h' n C1 C2 f g S (fun _ => 0) (fun _ => 0) 0 → K 0 h') : zCi G d mX12_pairOf [vr 12 466, vi 0, vi 0, vi (-1), vi 0] h K := by
  have e0 : h 520 (0 * 40 + 0) = -1 := hN 0 (by omega) (by omega)
  refine sm_pairOf (by omega) (by omega) (by omega) (by rw [e0]; exact zR_m1) (fun w => absurd e0 w) (fun w => ⟨by omega, fun h' f1 f2 f3 f4 f5 f6 f7 => ?_⟩)
  rw [h0] at f3 f4 f5 f6 ⊢
  refine k h' f1 f2 f3 ⟨?_, fun j j0 j1 => by omega, fun j j0 j1 => ?_⟩
  · rw [f3]
    refine pbf_0 hC ?_ ?_ ?_ rfl ?_ (fun i i0 i1 => ?_)
    · rw [f5, fup_eq]
      decide
    · rw [f5, fup_eq]
      decide
    · rw [f6, fup_eq]
    · rw [f4]
      exact fup_eq
    · rw [f4, fup_ne (by omega)]
      exact hN i (by omega) i1
  · rw [f5, show j = 0 by omega, fup_eq]
    decide
theorem sm_finds {K : Int → zH → Prop} {F n1 n2 x1 x2 : Int} {B1 T1 P1 V1 D1 B2 T2 P2 V2 D2 : Int → Int} (hD : mOK D) (hE : mOK E) (hi : 0 ≤ i ∧ i < 14) (hj : 0 ≤ j ∧ j < 14) (ri : mRep h i D) (rj : mRep h j E) (b1 : bfs D n1 B1 T1 P1 V1 D1 (n1 * 128)) (t1 : tkOK D n1 B1 x1) (b2 : bfs E n2 B2 T2 P2 V2 D2 (n2 * 128)) (t2 : tkOK E n2 B2 x2)
    (k1 : ∀ (h' : zH) (k : Int) (w : List Int) (Vi De : Int → Int), fdF h h' → jC D E (h' 516) (h' 466 87) → mP h' (h' 466 87) n1 n2 (fun a b => T1 (a * 128 + dB D (h' 516 b))) (fun a b => T2 (a * 128 + dB E (h' 516 b))) (h' 516) Vi De (k * 256) → 0 ≤ k → k < h' 466 88 → k < 1600 → isW (h' 521) Vi k w → fO (h' 466 87) (fun a b => T1 (a * 128 + dB D (h' 516 b))) (fun a b => T2 (a * 128 + dB E (h' 516 b))) (fun a c => ztr F (tb x1 a) (tb x2 c)) w → K k h')
    (k2 : ∀ h' : zH, fdF h h' → jC D E (h' 516) (h' 466 87) → fN (h' 466 87) (fun a b => T1 (a * 128 + dB D (h' 516 b))) (fun a b => T2 (a * 128 + dB E (h' 516 b))) (fun a c => ztr F (tb x1 a) (tb x2 c)) → K (-1) h') : zCi G (d + 4) mX12_finds [vr 12 466, vi i, vi j, vi F] h K := by
  have hB := mO_bl hD
  have hC := mO_bl hE
  have nn1 := b1.1
  have nn2 := b2.1
  refine eX12_finds (bX12_finds_0 (sm_gathers hD hi ri (Or.inl rfl) b1 (Or.inl rfl) (fun _ h2 f2 g2 => sm_gathers hE hj (mRep_fr (fun a p q => f2.1 a (by omega)) rj) (Or.inr rfl) b2 (Or.inl rfl) (fun _ h3 f3 g3 => ?_) (fun z => absurd rfl z)) (fun z => absurd rfl z)))
  have g2' := mGt_k nn1.2 hB.2 f3 g2
  have mr3 : mRep h3 i D ∧ mRep h3 j E := ⟨mRep_fr (fun a p q => by rw [f3.1 a (by omega), f2.1 a (by omega)]) ri, mRep_fr (fun a p q => by rw [f3.1 a (by omega), f2.1 a (by omega)]) rj⟩
  refine sm_cutsBoth hD hE hi hj mr3.1 mr3.2 (fun h4 f4 f5 jc lr => sm_pairsBegin (fun h5 y1 y2 y3 y4 => ?_))
  obtain ⟨S, eS⟩ : ∃ S, S = h4 516 := ⟨_, rfl⟩
  obtain ⟨n, en⟩ : ∃ n, n = h4 466 87 := ⟨_, rfl⟩
  rw [← eS, ← en] at jc lr
  have hS := jc.1
  have n256 := hS.1
  have T1r := fun s b s0 s1 q0 q1 => bfs_T b1 (s := s) (b := b) s0 s1 q0 q1 hD
  have T2r := fun s b s0 s1 q0 q1 => bfs_T b2 (s := s) (b := b) s0 s1 q0 q1 hE
  -- what stays in the loop
  have fix : ∀ h6 : zH, (∀ a, ¬ (519 ≤ a ∧ a ≤ 522) → ¬ a = 466 → h6 a = h5 a) → (∀ l, ¬ l = 88 → h6 466 l = h5 466 l) → fdF h h6 ∧ h6 516 = S ∧ h6 466 87 = n ∧ (∀ b, 0 ≤ b → b < n → h6 517 b = dB D (S b) ∧ h6 518 b = dB E (S b)) ∧ h6 502 i = D 0 1 ∧ h6 502 j = E 0 1 ∧ (∀ s, 0 ≤ s → s < n1 → h6 505 (0 * 40 + s) = B1 s) ∧ (∀ s, 0 ≤ s → s < n2 → h6 505 (1 * 40 + s) = B2 s) ∧ (∀ s b, 0 ≤ s → s < n1 → 0 ≤ b → b < D 0 4 → h6 507 ((0 * 40 + s) * 128 + b) = T1 (s * 128 + b)) ∧ (∀ s b, 0 ≤ s → s < n2 → 0 ≤ b → b < E 0 4 → h6 507 ((1 * 40 + s) * 128 + b) = T2 (s * 128 + b)) := by
    intro h6 z1 z2
    have far : ∀ a, ¬ (516 ≤ a ∧ a ≤ 522) → ¬ a = 466 → h6 a = h3 a := fun a p q => by rw [z1 a (by omega) q, y1 a (by omega) q, f4 a q (by omega)]
    have sc : ∀ l, ¬ l = 87 → ¬ l = 88 → h6 466 l = h3 466 l := fun l p q => by rw [z2 l q, y2 l q, f5 l p]
    have e5 : ∀ a, 516 ≤ a → a ≤ 518 → h6 a = h4 a := fun a p q => by rw [z1 a (by omega) (by omega), y1 a (by omega) (by omega)]
    have k13 : ∀ a, ¬ (505 ≤ a ∧ a ≤ 509) → h3 a = h a := fun a p => by rw [f3.1 a p, f2.1 a p]
    refine ⟨⟨fun a p q r => by rw [far a r p, k13 a q], fun l p q => by rw [sc l p q, k13 466 (by decide)]⟩, by rw [e5 516 (by decide) (by decide), eS], by rw [z2 87 (by decide), y2 87 (by decide), en], fun b q0 q1 => by rw [e5 517 (by decide) (by decide), e5 518 (by decide) (by decide)]; exact lr b q0 q1, ?_, ?_, ?_, ?_, ?_, ?_⟩
    · rw [far 502 (by decide) (by decide), mr3.1.1.2.1]
    · rw [far 502 (by decide) (by decide), mr3.2.1.2.1]
    · rw [far 505 (by decide) (by decide)]
      exact g2'.2.1
    · rw [far 505 (by decide) (by decide)]
      exact g3.2.1
    · rw [far 507 (by decide) (by decide)]
      exact g2'.2.2.1
    · rw [far 507 (by decide) (by decide)]
      exact g3.2.2.1
  have go : ∀ (f : Nat) (t : Int) (h6 : zH) (Vi De : Int → Int), 0 ≤ t ∧ t ≤ h6 466 88 → 1600 - t ≤ f → (∀ a, ¬ (519 ≤ a ∧ a ≤ 522) → ¬ a = 466 → h6 a = h5 a) → (∀ l, ¬ l = 88 → h6 466 l = h5 466 l) → mP h6 n n1 n2 (fun a b => T1 (a * 128 + dB D (S b))) (fun a b => T2 (a * 128 + dB E (S b))) S Vi De (t * 256) → (∀ i, 0 ≤ i → i < t → ztr F (tb x1 (h6 519 i / 40)) (tb x2 (h6 519 i % 40)) = false) → tX12_finds_36 G (d + 3) K i j F t h6 := by
    intro f
    have fin : ∀ (t : Int) (h6 : zH) (Vi De : Int → Int), 0 ≤ t ∧ t ≤ h6 466 88 → h6 466 88 ≤ t → (∀ a, ¬ (519 ≤ a ∧ a ≤ 522) → ¬ a = 466 → h6 a = h5 a) → (∀ l, ¬ l = 88 → h6 466 l = h5 466 l) → mP h6 n n1 n2 (fun a b => T1 (a * 128 + dB D (S b))) (fun a b => T2 (a * 128 + dB E (S b))) S Vi De (t * 256) → (∀ i, 0 ≤ i → i < t → ztr F (tb x1 (h6 519 i / 40)) (tb x2 (h6 519 i % 40)) = false) → K (-1) h6 := by
      intro t h6 Vi De t0 t1 z1 z2 p6 no
      obtain ⟨m1, m2, m3, -⟩ := fix h6 z1 z2
      refine k2 h6 m1 (by rw [m2, m3]; exact jc) ?_
      rw [m2, m3]
      intro v hv
      have e3 : t = h6 466 88 := by omega
      rw [e3] at p6
      obtain ⟨i, i1, i2, i3⟩ := W_all p6.1 n256.2 v hv
      have := no i i1.1 (by omega)
      rw [i2, i3] at this
      exact this
    induction f with
    | zero =>
      intro t h6 Vi De t0 hf z1 z2 p6 no
      have uu := pbf_U (by omega) p6.1
      refine bX12_finds_36 ⟨⟨by omega, by omega⟩, ⟨by omega, by omega⟩, fun z => fin t h6 Vi De t0 z z1 z2 p6 no, fun z => absurd hf (by omega)⟩
    | succ f ih =>
      intro t h6 Vi De t0 hf z1 z2 p6 no
      have uu := pbf_U (by omega) p6.1
      refine bX12_finds_36 ⟨⟨by omega, by omega⟩, ⟨by omega, by omega⟩, fun z => fin t h6 Vi De t0 z z1 z2 p6 no, fun z => ?_⟩
      obtain ⟨m1, m2, m3, m4, m5, m6, m7, m8, m9, m10⟩ := fix h6 z1 z2
      have q : (0 ≤ h6 519 t / 40 ∧ h6 519 t / 40 < n1) ∧ (0 ≤ h6 519 t % 40 ∧ h6 519 t % 40 < n2) := by
        have := p6.1.2.1 t t0.1 (by omega)
        exact ⟨this.1, this.2.1⟩
      have rg := p6.2.2 t t0.1 (by omega)
      refine ⟨by omega, by omega, by omega, by omega, sm_sheafEnds (n := n1) (B := B1) (x := x1) hi (Or.inl rfl) nn1.2 m5 (m7 _ q.1.1 q.1.2) t1 q.1 (sm_sheafEnds (n := n2) (B := B2) (x := x2) hj (Or.inr rfl) nn2.2 m6 (m8 _ q.2.1 q.2.2) t2 q.2 (sm_holds ⟨fun w => ?_, fun w => ?_⟩))⟩
      · -- the inner loop
        have inner : ∀ (f2 : Nat) (b : Int) (h7 : zH) (Vi De : Int → Int), 0 ≤ b ∧ b ≤ n → n - b ≤ f2 → (∀ a, ¬ (519 ≤ a ∧ a ≤ 522) → ¬ a = 466 → h7 a = h5 a) → (∀ l, ¬ l = 88 → h7 466 l = h5 466 l) → mP h7 n n1 n2 (fun a b => T1 (a * 128 + dB D (S b))) (fun a b => T2 (a * 128 + dB E (S b))) S Vi De (t * 256 + b) → h6 466 88 ≤ h7 466 88 → (∀ i, 0 ≤ i → i < h6 466 88 → h7 519 i = h6 519 i) → tX12_finds_98 G (d + 3) K i j F t (h6 519 t / 40) (h6 519 t % 40) b h7 := by
          have nxt : ∀ (h7 : zH) (Vi De : Int → Int), (∀ a, ¬ (519 ≤ a ∧ a ≤ 522) → ¬ a = 466 → h7 a = h5 a) → (∀ l, ¬ l = 88 → h7 466 l = h5 466 l) → mP h7 n n1 n2 (fun a b => T1 (a * 128 + dB D (S b))) (fun a b => T2 (a * 128 + dB E (S b))) S Vi De (t * 256 + n) → h6 466 88 ≤ h7 466 88 → (∀ i, 0 ≤ i → i < h6 466 88 → h7 519 i = h6 519 i) → tX12_finds_36 G (d + 3) K i j F (t + 1) h7 := by
            intro h7 Vi De y1 y2 p7 u7 v7
            refine ih (t + 1) h7 Vi De (by omega) (by omega) y1 y2 ⟨pbf_skip n256.2 p7.1, p7.2⟩ (fun i i0 i1 => ?_)
            rw [v7 i i0 (by omega)]
            by_cases e : i = t
            · rw [e]
              exact w
            · exact no i i0 (by omega)
          intro f2
          induction f2 with
          | zero =>
            intro b h7 Vi De b0 hf2 y1 y2 p7 u7 v7
            refine bX12_finds_98 ?_
            rw [(fix h7 y1 y2).2.2.1]
            refine ⟨⟨by omega, by omega⟩, ⟨by omega, by omega⟩, fun _ => nxt h7 Vi De y1 y2 ?_ u7 v7, fun z => absurd hf2 (by omega)⟩
            rw [show n = b by omega] at p7 ⊢
            exact p7
          | succ f2 ih2 =>
            intro b h7 Vi De b0 hf2 y1 y2 p7 u7 v7
            refine bX12_finds_98 ?_
            obtain ⟨m1, m2, m3, m4, m5, m6, m7, m8, m9, m10⟩ := fix h7 y1 y2
            rw [m3]
            refine ⟨⟨by omega, by omega⟩, ⟨by omega, by omega⟩, fun z => nxt h7 Vi De y1 y2 ?_ u7 v7, fun z => ?_⟩
            · rw [show n = b by omega] at p7 ⊢
              exact p7
            · have l := m4 b b0.1 (by omega)
              have sb := hS.2.2.1 b b0.1 (by omega)
              have d1 := (dB_ok hD sb.1).1
              have d2 := (dB_ok hE sb.1).1
              have r1 := T1r _ _ q.1.1 q.1.2 d1.1 d1.2
              have r2 := T2r _ _ q.2.1 q.2.2 d2.1 d2.2
              have et := v7 t t0.1 (by omega)
              rw [l.1]
              refine ⟨by omega, sm_goesTo (Or.inl rfl) (by omega) (by omega) ⟨by omega, ?_⟩⟩
              rw [l.2]
              refine sm_goesTo (Or.inr rfl) (by omega) (by omega) ⟨by omega, ?_⟩
              rw [m9 _ _ q.1.1 q.1.2 d1.1 d1.2, m10 _ _ q.2.1 q.2.2 d2.1 d2.2, m2]
              refine sm_pairOf2 n256.2 (by omega) p7 (by omega) (by omega) (by rw [et]; exact ⟨r1, r2⟩) (by rw [et]) (by rw [et]) rfl (fun h8 Vi' De' w1 w2 w3 w4 w5 => ih2 (b + 1) h8 Vi' De' (by omega) (by omega) (fun a p q => by rw [w1 a p q, y1 a p q]) (fun l p => by rw [w2 l p, y2 l p]) w3 (by omega) (fun i i0 i1 => by rw [w5 i i0 (by omega), v7 i i0 i1]))
        exact inner n.toNat 0 h6 Vi De (by omega) (by omega) z1 z2 (by rw [Int.add_zero]; exact p6) (Int.le_refl _) (fun _ _ _ => rfl)
      · obtain ⟨wt, hw⟩ := W_ex p6.1 t.toNat t t0.1 (by omega) (by omega)
        have wr := W_run p6.1 t0.1 (by omega) hw
        refine k1 h6 t wt Vi De m1 (by rw [m2, m3]; exact jc) (by rw [m2, m3]; exact p6) t0.1 (by omega) (by omega) hw ?_
        rw [m2, m3]
        refine ⟨wr.2.2.2, by rw [wr.1, wr.2.1]; exact w, fun v hv l => ?_⟩
        obtain ⟨i, wi, i1, i2, i3, i4, i5⟩ := W_min n256.2 p6.1 (by omega) hw v hv l
        have := no i i1.1 i1.2
        rw [i3, i4] at this
        exact this
  refine sm_pairOf0 (n := n) (S := S) (C1 := n1) (C2 := n2) (f := fun a b => T1 (a * 128 + dB D (S b))) (g := fun a b => T2 (a * 128 + dB E (S b))) (by omega) y3 y4 (fun h6 w1 w2 w3 w4 => go 1600 0 h6 _ _ (by omega) (by omega) w1 w2 w4 (fun i i0 i1 => absurd i1 (by omega)))
end PM
