/-! ===== how many words ===== -/
def wid (D : zH) (b : Int) : Int := dEnd D b - D 7 b
/-- how many words of n letters are taken from a sheaf on -/
def wy (D : zH) (T : Int → Int) (x : Int) : Nat → Int → Int
  | 0, s => if tb x s = true then 1 else 0
  | n + 1, s => zsum (fun b => wid D b * wy D T x n (T (s * 128 + b))) (D 0 4).toNat
theorem wid_ok {D : zH} (hD : mOK D) {b : Int} (h0 : 0 ≤ b) (h1 : b < D 0 4) : 0 < wid D b ∧ wid D b ≤ 65536 := by
  have a := dEnd_ok hD h0 h1
  have c := mO_s hD h0 h1
  unfold wid
  omega
/-- sums over blocks -/
theorem wsum_le {D : zH} (hD : mOK D) {f : Int → Int} {W : Int} (hW : 0 ≤ W) (hf : ∀ b, 0 ≤ b → b < D 0 4 → 0 ≤ f b ∧ f b ≤ W) : ∀ n : Nat, (n : Int) ≤ D 0 4 → 0 ≤ zsum (fun b => wid D b * f b) n ∧ (0 < n → zsum (fun b => wid D b * f b) n ≤ dEnd D ((n : Int) - 1) * W)
  | 0, _ => ⟨Int.le_refl _, fun z => absurd z (by omega)⟩
  | n + 1, hn => by
    obtain ⟨a, b⟩ := wsum_le hD hW hf n (by omega)
    obtain ⟨w1, w2⟩ := wid_ok hD (b := n) (by omega) (by omega)
    obtain ⟨f1, f2⟩ := hf n (by omega) (by omega)
    have s7 := mO_s hD (b := n) (by omega) (by omega)
    have p1 : 0 ≤ wid D n * f n := Int.mul_nonneg (by omega) f1
    have p2 : wid D n * f n ≤ wid D n * W := Int.mul_le_mul_of_nonneg_left f2 (by omega)
    show 0 ≤ zsum (fun b => wid D b * f b) n + wid D n * f n ∧ (0 < n + 1 → zsum (fun b => wid D b * f b) n + wid D n * f n ≤ dEnd D (((n + 1 : Nat) : Int) - 1) * W)
    rw [show ((n + 1 : Nat) : Int) - 1 = (n : Int) by omega]
    refine ⟨by omega, fun _ => ?_⟩
    have le : zsum (fun b => wid D b * f b) n ≤ D 7 n * W := by
      by_cases z : 0 < n
      · have e : dEnd D ((n : Int) - 1) = D 7 n := by
          unfold dEnd
          rw [if_pos (by omega), show (n : Int) - 1 + 1 = n by omega]
        have := b z
        rw [e] at this
        exact this
      · have z : n = 0 := by omega
        subst z
        show (0 : Int) ≤ _
        exact Int.mul_nonneg s7.1 hW
    have e : dEnd D n * W = D 7 n * W + wid D n * W := by
      rw [← Int.add_mul]
      unfold wid
      rw [show D 7 ↑n + (dEnd D ↑n - D 7 ↑n) = dEnd D ↑n by omega]
    omega
theorem wsum_all {D : zH} (hD : mOK D) {f : Int → Int} {W : Int} (hW : 0 ≤ W) (hf : ∀ b, 0 ≤ b → b < D 0 4 → 0 ≤ f b ∧ f b ≤ W) {n : Nat} (hn : (n : Int) ≤ D 0 4) : 0 ≤ zsum (fun b => wid D b * f b) n ∧ zsum (fun b => wid D b * f b) n ≤ 65536 * W := by
  obtain ⟨a, b⟩ := wsum_le hD hW hf n hn
  refine ⟨a, ?_⟩
  by_cases z : 0 < n
  · have c := b z
    have e := dEnd_ok hD (b := (n : Int) - 1) (by omega) (by omega)
    have := Int.mul_le_mul_of_nonneg_right e.2 hW
    omega
  · have z : n = 0 := by omega
    subst z
    show (0 : Int) ≤ _
    omega
theorem wy_rg {D : zH} (hD : mOK D) {T : Int → Int} {x n : Int} (hT : ∀ s b, 0 ≤ s → s < n → 0 ≤ b → b < D 0 4 → 0 ≤ T (s * 128 + b) ∧ T (s * 128 + b) < n) : ∀ (k : Nat) (s : Int), 0 ≤ s → s < n → 0 ≤ wy D T x k s ∧ wy D T x k s ≤ 65536 ^ k
  | 0, s, _, _ => by
    unfold wy
    by_cases c : tb x s = true
    · rw [if_pos c]
      decide
    · rw [if_neg c]
      decide
  | k + 1, s, s0, s1 => by
    have hB := mO_bl hD
    have := wsum_all hD (f := fun b => wy D T x k (T (s * 128 + b))) (W := 65536 ^ k) (Int.pow_nonneg (by decide)) (fun b b0 b1 => by
      have t := hT s b s0 s1 b0 b1
      exact wy_rg hD hT k _ t.1 t.2) (n := (D 0 4).toNat) (by omega)
    refine ⟨this.1, ?_⟩
    rw [Int.pow_succ, Int.mul_comm]
    exact this.2
theorem wy_3 {D : zH} (hD : mOK D) {T : Int → Int} {x n : Int} (hT : ∀ s b, 0 ≤ s → s < n → 0 ≤ b → b < D 0 4 → 0 ≤ T (s * 128 + b) ∧ T (s * 128 + b) < n) {k : Nat} (hk : k ≤ 3) {s : Int} (s0 : 0 ≤ s) (s1 : s < n) : 0 ≤ wy D T x k s ∧ wy D T x k s ≤ 281474976710656 := by
  have a := wy_rg hD hT (x := x) k s s0 s1
  have e : ∀ k : Nat, k ≤ 3 → (65536 : Int) ^ k ≤ 281474976710656 := by decide
  have := e k hk
  omega
section CU
variable {G : zG} {d : Nat} {h D : zH}
theorem sp_behindSheaf {K : Int → zH → Prop} {n s : Int} (hn : 0 ≤ n ∧ n ≤ 3) (hs : 0 ≤ s ∧ s < 40) (k : K (h 243 (n * 40 + s)) h) : zCl G d mX1_behindSheaf [vr 1 242, vi n, vi s] h K := eX1_behindSheaf (bX1_behindSheaf_0 ⟨⟨by omega, by omega⟩, k⟩)
theorem sp_fill {K : zH → Prop} {m most : Int} (hm : ¬ m = 243 ∧ m + 18 < 243 ∨ 243 < m) (hD : mOK D) (hr : cRep h m D) (hp : pthP h (m + 7) D) (hmo : 0 ≤ most ∧ most ≤ 3) (k : ∀ h' : zH, (∀ a, ¬ a = 243 → h' a = h a) → (∀ (n : Nat) (s : Int), (n : Int) ≤ most → 0 ≤ s → s < h (m + 7) 0 → h' 243 ((n : Int) * 40 + s) = wy D (h (m + 7 + 2)) (h (m + 7) 6) n s) → K h') : zCv G (d + 2) mX1_fill [vr 1 242, vr 4 m, vi most] h K := by
  have nn := pP_n hp
  have hB := mO_bl hD
  have hT : ∀ s b, 0 ≤ s → s < h (m + 7) 0 → 0 ≤ b → b < D 0 4 → 0 ≤ h (m + 7 + 2) (s * 128 + b) ∧ h (m + 7 + 2) (s * 128 + b) < h (m + 7) 0 := hS_s hp hD
  have cr : ∀ h1 : zH, (∀ a, ¬ a = 243 → h1 a = h a) → cRep h1 m D := fun h1 e => cRep_fr (fun a x y => e a (by omega)) hr
  have l43 : ∀ (f n : Nat) (h1 : zH), (n : Int) + f = most + 1 → 1 ≤ n → (∀ a, ¬ a = 243 → h1 a = h a) → (∀ (n' : Nat) (s : Int), n' < n → 0 ≤ s → s < h (m + 7) 0 → h1 243 ((n' : Int) * 40 + s) = wy D (h (m + 7 + 2)) (h (m + 7) 6) n' s) → tX1_fill_43 G (d + 1) K m most n h1 := by
    intro f
    induction f with
    | zero =>
      intro n h1 nf n1 g1 g2
      exact bX1_fill_43 ⟨⟨by omega, by omega⟩, ⟨by omega, by omega⟩, fun _ => k h1 g1 (fun n' s a b c => g2 n' s (by omega) b c), fun z => absurd (show most < (n : Int) by omega) z⟩
    | succ f ih =>
      intro n h1 nf n1 g1 g2
      have l56 : ∀ (f2 : Nat) (s : Int) (h2 : zH), 0 ≤ s → s + f2 = h (m + 7) 0 → (∀ a, ¬ a = 243 → h2 a = h a) → (∀ (n' : Nat) (s' : Int), (n' < n ∨ n' = n ∧ s' < s) → 0 ≤ s' → s' < h (m + 7) 0 → h2 243 ((n' : Int) * 40 + s') = wy D (h (m + 7 + 2)) (h (m + 7) 6) n' s') → tX1_fill_56 G (d + 1) K m most n s h2 := by
        intro f2
        induction f2 with
        | zero =>
          intro s h2 s0 sf e1 e2
          refine bX1_fill_56 ?_
          rw [e1 (m + 7) (by omega)]
          refine ⟨⟨by omega, by omega⟩, ⟨by omega, by omega⟩, fun _ => ?_, fun z => absurd z (by omega)⟩
          have := ih (n + 1) h2 (by omega) (by omega) e1 (fun n' s' a b c => e2 n' s' (by omega) b c)
          rw [show ((n + 1 : Nat) : Int) = (n : Int) + 1 by omega] at this
          exact this
        | succ f2 ih2 =>
          intro s h2 s0 sf e1 e2
          have l74 : ∀ (f3 b : Nat), (b : Int) + f3 = D 0 4 → tX1_fill_74 G (d + 1) K m most n s (zsum (fun b => wid D b * wy D (h (m + 7 + 2)) (h (m + 7) 6) (n - 1) (h (m + 7 + 2) (s * 128 + b))) b) b h2 := by
            intro f3
            induction f3 with
            | zero =>
              intro b hb
              refine bX1_fill_74 ?_
              rw [(cr h2 e1).1.2.2.2.2]
              refine ⟨⟨by omega, by omega⟩, ⟨by omega, by omega⟩, fun _ => ⟨⟨by omega, by omega⟩, ih2 (s + 1) _ (by omega) (by omega) (fun a z => by rw [zup_ne z, e1 a z]) (fun n' s' a b' c => ?_)⟩, fun z => absurd z (by omega)⟩
              by_cases y : n' = n ∧ s' = s
              · obtain ⟨y1, y2⟩ := y
                subst y1 y2
                rw [zup_eq]
                obtain ⟨r, er⟩ : ∃ r : Nat, n' = r + 1 := ⟨n' - 1, by omega⟩
                subst er
                show _ = zsum (fun b => wid D b * wy D (h (m + 7 + 2)) (h (m + 7) 6) r (h (m + 7 + 2) (s' * 128 + b))) (D 0 4).toNat
                rw [show (D 0 4).toNat = b by omega, show r + 1 - 1 = r by omega]
              · rw [zup_ns (by omega)]
                exact e2 n' s' (by omega) b' c
            | succ f3 ih3 =>
              intro b hb
              have st := hT s b s0 (by omega) (by omega) (by omega)
              have wd := wid_ok hD (b := b) (by omega) (by omega)
              unfold wid at wd
              refine bX1_fill_74 ?_
              rw [(cr h2 e1).1.2.2.2.2]
              refine ⟨⟨by omega, by omega⟩, ⟨by omega, by omega⟩, fun z => absurd z (by omega), fun _ => sp_lengthOf hD (cr h2 e1) (by omega) ⟨⟨by omega, by omega⟩, sp_sheafStep (by omega) (by omega) ?_⟩⟩
              rw [e1 (m + 7 + 2) (by omega)]
              refine sp_behindSheaf (by omega) (by omega) ?_
              have := e2 (n - 1) (h (m + 7 + 2) (s * 128 + b)) (by omega) st.1 st.2
              rw [show (((n - 1 : Nat) : Int)) = (n : Int) - 1 by omega] at this
              rw [this]
              have := ih3 (b + 1) (by omega)
              rw [show ((b + 1 : Nat) : Int) = (b : Int) + 1 by omega] at this
              exact this
          refine bX1_fill_56 ?_
          rw [e1 (m + 7) (by omega)]
          exact ⟨⟨by omega, by omega⟩, ⟨by omega, by omega⟩, fun z => absurd z (by omega), fun _ => l74 (D 0 4).toNat 0 (by omega)⟩
      refine bX1_fill_43 ⟨⟨by omega, by omega⟩, ⟨by omega, by omega⟩, fun z => absurd z (by omega), fun _ => ⟨⟨by omega, by omega⟩, fun z => absurd z (by omega), fun _ => l56 (h (m + 7) 0).toNat 0 h1 (by omega) (by omega) g1 (fun n' s' a b c => g2 n' s' (by omega) b c)⟩⟩
  have l2 : ∀ (f : Nat) (s : Int) (h1 : zH), 0 ≤ s → s + f = h (m + 7) 0 → (∀ a, ¬ a = 243 → h1 a = h a) → (∀ s', 0 ≤ s' → s' < s → h1 243 s' = wy D (h (m + 7 + 2)) (h (m + 7) 6) 0 s') → tX1_fill_2 G (d + 1) K m most s h1 := by
    intro f
    induction f with
    | zero =>
      intro s h1 s0 sf g1 g2
      refine bX1_fill_2 ?_
      rw [g1 (m + 7) (by omega)]
      refine ⟨⟨by omega, by omega⟩, ⟨by omega, by omega⟩, fun _ => ?_, fun z => absurd z (by omega)⟩
      refine l43 most.toNat 1 h1 (by omega) (by omega) g1 (fun n' s' a b c => ?_)
      have : n' = 0 := by omega
      subst this
      rw [show ((0 : Nat) : Int) * 40 + s' = s' by omega]
      exact g2 s' b (by omega)
    | succ f ih =>
      intro s h1 s0 sf g1 g2
      have nx : ∀ v, v = wy D (h (m + 7 + 2)) (h (m + 7) 6) 0 s → tX1_fill_2 G (d + 1) K m most (s + 1) (zup h1 243 s v) := fun v ev => ih (s + 1) _ (by omega) (by omega) (fun a z => by rw [zup_ne z, g1 a z]) (fun s' a b => by
        by_cases y : s' = s
        · rw [y, zup_eq, ev]
        · rw [zup_ns y]
          exact g2 s' a (by omega))
      refine bX1_fill_2 ?_
      rw [g1 (m + 7) (by omega)]
      refine ⟨⟨by omega, by omega⟩, ⟨by omega, by omega⟩, fun z => absurd z (by omega), fun _ => sp_sheafTakes (by omega) ?_⟩
      rw [g1 (m + 7) (by omega)]
      refine ⟨fun z => ⟨⟨by omega, by omega⟩, nx 0 ?_⟩, fun z => ⟨⟨by omega, by omega⟩, nx 1 ?_⟩⟩
      · unfold wy
        rw [if_neg (by rw [z]; decide)]
      · unfold wy
        rw [if_pos z]
  exact eX1_fill (bX1_fill_0 (l2 (h (m + 7) 0).toNat 0 h (by omega) (by omega) (fun _ _ => rfl) (fun s' a b => absurd b (by omega))))
/-- the model's table of ways -/
theorem sm_waysBy {K : Int → zH → Prop} {i n s b N : Int} {T : Int → Int} (hD : mOK D) (hi : 0 ≤ i ∧ i < 14) (hr : mRep h i D) (hN : N ≤ 40) (e07 : ∀ s b, 0 ≤ s → s < N → 0 ≤ b → b < D 0 4 → h 507 (s * 128 + b) = T (s * 128 + b)) (hT : ∀ s b, 0 ≤ s → s < N → 0 ≤ b → b < D 0 4 → 0 ≤ T (s * 128 + b) ∧ T (s * 128 + b) < N) (hn : 1 ≤ n ∧ n ≤ 3) (hs : 0 ≤ s ∧ s < N) (hb : 0 ≤ b ∧ b < D 0 4) (k : K (wid D b * h 515 ((n - 1) * 40 + T (s * 128 + b))) h) : zCl G (d + 2) mX12_waysBy [vr 12 466, vi i, vi n, vi s, vi b] h K := by
  have hB := mO_bl hD
  have wd := wid_ok hD hb.1 hb.2
  have st := hT s b hs.1 hs.2 hb.1 hb.2
  unfold wid at wd
  refine eX12_waysBy (bX12_waysBy_0 (sm_width hD hi hr hb ⟨⟨by omega, by omega⟩, sm_goesTo (Or.inl rfl) (by omega) (by omega) ?_⟩))
  rw [show ((0 : Int) * 40 + s) * 128 + b = s * 128 + b by omega, e07 s b hs.1 hs.2 hb.1 hb.2]
  exact ⟨⟨by omega, by omega⟩, k⟩
theorem sm_counts {K : zH → Prop} {i N x : Int} {B T Pa Vi De : Int → Int} (hD : mOK D) (hi : 0 ≤ i ∧ i < 14) (hr : mRep h i D) (pb : bfs D N B T Pa Vi De (N * 128)) (pt : tkOK D N B x) (k : ∀ h' : zH, mK h h' → mGt D h' 0 N B T Pa Vi → (∀ (n : Nat) (s : Int), n ≤ 3 → 0 ≤ s → s < N → h' 515 ((n : Int) * 40 + s) = wy D T x n s) → K h') : zCv G (d + 5) mX12_counts [vr 12 466, vi i] h K := by
  have nn := pb.1
  have hB := mO_bl hD
  have hT : ∀ s b, 0 ≤ s → s < N → 0 ≤ b → b < D 0 4 → 0 ≤ T (s * 128 + b) ∧ T (s * 128 + b) < N := fun s b a1 a2 a3 a4 => bfs_T pb a1 a2 a3 a4 hD
  refine eX12_counts (bX12_counts_0 (sm_gathers hD hi hr (Or.inl rfl) pb (Or.inl rfl) (fun _ h2 f g => ?_) (fun z => absurd rfl z)))
  have mr : ∀ h1 : zH, (∀ a, ¬ a = 515 → h1 a = h2 a) → mRep h1 i D := fun h1 e => mRep_fr (fun a x y => by rw [e a (by omega), f.1 a (by omega)]) hr
  have g7 := (mG0 g).2.2.1
  have l9 : ∀ (fu n : Nat) (h1 : zH), n + fu = 4 → (∀ a, ¬ a = 515 → h1 a = h2 a) → (∀ (n' : Nat) (s : Int), n' < n → 0 ≤ s → s < N → h1 515 ((n' : Int) * 40 + s) = wy D T x n' s) → tX12_counts_9 G (d + 4) K i n h1 := by
    intro fu
    induction fu with
    | zero =>
      intro n h1 nf g1 g2
      refine bX12_counts_9 ⟨⟨by omega, by omega⟩, fun _ => k h1 (mK_tr (mK_r f) ⟨fun a ka => g1 a (by unfold kp at ka; omega), g1 0 (by decide), fun j _ => by rw [g1 466 (by decide)]⟩) ?_ (fun n' s a b c => g2 n' s (by omega) b c), fun z => absurd (show (3 : Int) < n by omega) z⟩
      unfold mGt
      rw [g1 506 (by decide), g1 505 (by decide), g1 507 (by decide), g1 508 (by decide), g1 509 (by decide)]
      exact g
    | succ fu ih =>
      intro n h1 nf g1 g2
      have l16 : ∀ (f2 : Nat) (s : Int) (h3 : zH), 0 ≤ s → s + f2 = N → (∀ a, ¬ a = 515 → h3 a = h2 a) → (∀ (n' : Nat) (s' : Int), (n' < n ∨ n' = n ∧ s' < s) → 0 ≤ s' → s' < N → h3 515 ((n' : Int) * 40 + s') = wy D T x n' s') → tX12_counts_16 G (d + 4) K i n s h3 := by
        intro f2
        induction f2 with
        | zero =>
          intro s h3 s0 sf e1 e2
          refine bX12_counts_16 ?_
          rw [e1 506 (by decide), g.1]
          refine ⟨⟨by omega, by omega⟩, ⟨by omega, by omega⟩, fun _ => ?_, fun z => absurd z (by omega)⟩
          have := ih (n + 1) h3 (by omega) e1 (fun n' s' a b c => e2 n' s' (by omega) b c)
          rw [show ((n + 1 : Nat) : Int) = (n : Int) + 1 by omega] at this
          exact this
        | succ f2 ih2 =>
          intro s h3 s0 sf e1 e2
          have nx : ∀ v, v = wy D T x n s → (0 ≤ (n : Int) * 40 + s ∧ (n : Int) * 40 + s < 160) ∧ tX12_counts_16 G (d + 4) K i n (s + 1) (zup h3 515 ((n : Int) * 40 + s) v) := fun v ev => ⟨⟨by omega, by omega⟩, ih2 (s + 1) _ (by omega) (by omega) (fun a z => by rw [zup_ne z, e1 a z]) (fun n' s' a b c => by
            by_cases y : n' = n ∧ s' = s
            · obtain ⟨y1, y2⟩ := y
              subst y1 y2
              rw [zup_eq, ev]
            · rw [zup_ns (by omega)]
              exact e2 n' s' (by omega) b c)⟩
          refine bX12_counts_16 ?_
          rw [e1 506 (by decide), g.1]
          refine ⟨⟨by omega, by omega⟩, ⟨by omega, by omega⟩, fun z => absurd z (by omega), fun _ => ⟨⟨by omega, by omega⟩, fun nz => ?_, fun nz => ?_⟩⟩
          · obtain ⟨r, er⟩ : ∃ r : Nat, n = r + 1 := ⟨n - 1, by omega⟩
            have wf : ∀ (f3 b : Nat), (b : Int) + f3 = D 0 4 → tX12_waysFrom_6 G (d + 3) (fun x1 h2 => (0 ≤ (n : Int) * 40 + s ∧ (n : Int) * 40 + s < 160) ∧ tX12_counts_16 G (d + 4) K i n (s + 1) (zup h2 515 ((n : Int) * 40 + s) x1)) i n s (zsum (fun b => wid D b * wy D T x r (T (s * 128 + b))) b) b h3 := by
              intro f3
              induction f3 with
              | zero =>
                intro b hb
                refine bX12_waysFrom_6 ⟨hi, ?_⟩
                rw [(mr h3 e1).1.2.2.2.2]
                refine ⟨⟨by omega, by omega⟩, ⟨by omega, by omega⟩, fun _ => nx _ ?_, fun z => absurd z (by omega)⟩
                rw [er]
                show _ = zsum (fun b => wid D b * wy D T x r (T (s * 128 + b))) (D 0 4).toNat
                rw [show (D 0 4).toNat = b by omega]
              | succ f3 ih3 =>
                intro b hb
                have st := hT s b s0 (by omega) (by omega) (by omega)
                refine bX12_waysFrom_6 ⟨hi, ?_⟩
                rw [(mr h3 e1).1.2.2.2.2]
                refine ⟨⟨by omega, by omega⟩, ⟨by omega, by omega⟩, fun z => absurd z (by omega), fun _ => sm_waysBy (N := N) (T := T) hD hi (mr h3 e1) nn.2 (by rw [e1 507 (by decide)]; exact g7) hT (by omega) ⟨s0, by omega⟩ (by omega) ?_⟩
                have := e2 r (T (s * 128 + b)) (by omega) st.1 st.2
                rw [show (r : Int) = (n : Int) - 1 by omega] at this
                rw [this]
                have := ih3 (b + 1) (by omega)
                rw [show ((b + 1 : Nat) : Int) = (b : Int) + 1 by omega] at this
                exact this
            exact eX12_waysFrom (bX12_waysFrom_0 (wf (D 0 4).toNat 0 (by omega)))
          · have en : n = 0 := by omega
            subst en
            refine sm_sheafEnds (n := N) (B := B) (x := x) (D := D) hi (Or.inl rfl) nn.2 (mr h3 e1).1.2.1 (by rw [e1 505 (by decide)]; exact g.2.1 s s0 (by omega)) pt ⟨s0, by omega⟩ ⟨fun z => nx 0 ?_, fun z => nx 1 ?_⟩
            · unfold wy
              rw [if_neg (by rw [z]; decide)]
            · unfold wy
              rw [if_pos z]
      exact bX12_counts_9 ⟨⟨by omega, by omega⟩, fun z => absurd z (by omega), fun _ => l16 N.toNat 0 h1 (by omega) (by omega) g1 (fun n' s' a b c => g2 n' s' (by omega) b c)⟩
  exact l9 4 0 h2 (by omega) (fun _ _ => rfl) (fun n' s a b c => absurd a (by omega))
end CU
