/-! ===== ranges of a set are unique; the class reads a whole body ===== -/
theorem rgs_mo {lo hi : Int → Int} {c : Int} {f : Int → Bool} (h : rgs lo hi 0 c f) {j k : Int} (j0 : 0 ≤ j) (jk : j ≤ k) (kc : k < c) : lo j ≤ lo k := by
  by_cases e : j = k
  · rw [e]
    exact Int.le_refl _
  · have := rgs_m h j0 (k - j - 1).toNat k (by omega) kc
    have := h.1 j j0 (by omega)
    omega
theorem rgs_st {lo hi : Int → Int} {c : Int} {f : Int → Bool} (h : rgs lo hi 0 c f) {z : Int} (hz : 0 ≤ z ∧ z < 65536) (f1 : f z = true) (f0 : z = 0 ∨ f (z - 1) = false) : ∃ k, (0 ≤ k ∧ k < c) ∧ lo k = z := by
  obtain ⟨k, hk, k1, k2⟩ := (h.2.2 z hz.1 hz.2).mp f1
  have := h.1 k hk.1 hk.2
  refine ⟨k, hk, ?_⟩
  by_cases e : lo k = z
  · exact e
  · rcases f0 with f0 | f0
    · omega
    · have := rgs_in h (z := z - 1) (by omega) hk (by omega) (by omega)
      rw [this] at f0
      cases f0
theorem rgs_ge {lo hi : Int → Int} {c : Int} {f : Int → Bool} (h : rgs lo hi 0 c f) {m : Nat} {s : Int → Int} (a : ∀ i : Int, 0 ≤ i → i < m → (0 ≤ s i ∧ s i < 65536) ∧ f (s i) = true ∧ (s i = 0 ∨ f (s i - 1) = false)) (b : ∀ i j : Int, 0 ≤ i → i < j → j < m → s i < s j) : ∀ n : Nat, n < m → ∃ k : Int, ((n : Int) ≤ k ∧ k < c) ∧ lo k = s n
  | 0, h0 => by
    obtain ⟨a1, a2, a3⟩ := a 0 (by omega) (by omega)
    obtain ⟨k, hk, e⟩ := rgs_st h a1 a2 a3
    exact ⟨k, ⟨by omega, hk.2⟩, e⟩
  | n + 1, h0 => by
    obtain ⟨k, hk, e⟩ := rgs_ge h a b n (by omega)
    obtain ⟨a1, a2, a3⟩ := a (n + 1 : Nat) (by omega) (by omega)
    obtain ⟨k', hk', e'⟩ := rgs_st h a1 a2 a3
    have lt := b n (n + 1 : Nat) (by omega) (by omega) (by omega)
    refine ⟨k', ⟨?_, hk'.2⟩, e'⟩
    by_cases w : k' ≤ k
    · have := rgs_mo h hk'.1 w hk.2
      omega
    · omega
theorem rgs_rcn {lo hi : Int → Int} {c : Int} {f : Int → Bool} {M : Nat} (h : rgs lo hi 0 c f) (cM : c ≤ M) : rcn f M := by
  intro m s a b
  by_cases w : m = 0
  · omega
  · obtain ⟨k, hk, -⟩ := rgs_ge h a b (m - 1) (by omega)
    omega
theorem rgs_sts {lo hi : Int → Int} {c : Int} {f : Int → Bool} (h : rgs lo hi 0 c f) : (∀ i : Int, 0 ≤ i → i < (c.toNat : Nat) → (0 ≤ lo i ∧ lo i < 65536) ∧ f (lo i) = true ∧ (lo i = 0 ∨ f (lo i - 1) = false)) ∧ ∀ i j : Int, 0 ≤ i → i < j → j < (c.toNat : Nat) → lo i < lo j := by
  refine ⟨fun i i0 i1 => ?_, fun i j i0 ij jc => ?_⟩
  · have q := h.1 i i0 (by omega)
    have t := rgs_in h (z := lo i) (by omega) (k := i) (by omega) (Int.le_refl _) q.2.1
    refine ⟨by omega, t, ?_⟩
    by_cases z : lo i = 0
    · exact Or.inl z
    · refine Or.inr ?_
      have := rgs_lo h (k := i) (by omega) (by omega)
      rw [t] at this
      cases e : f (lo i - 1)
      · rfl
      · rw [e] at this
        exact absurd rfl this
  · have := rgs_m h i0 (j - i - 1).toNat j (by omega) (by omega)
    have := h.1 i i0 (by omega)
    omega
theorem rgs_u {lo hi lo' hi' : Int → Int} {c c' : Int} {f : Int → Bool} (h : rgs lo hi 0 c f) (h' : rgs lo' hi' 0 c' f) {i : Int} (i0 : 0 ≤ i) (i1 : i < c) : i < c' ∧ lo i = lo' i ∧ hi i = hi' i := by
  obtain ⟨k, hk, e⟩ := rgs_ge h' (rgs_sts h).1 (rgs_sts h).2 i.toNat (by omega)
  have ic : i < c' := by omega
  obtain ⟨k2, hk2, e2⟩ := rgs_ge h (rgs_sts h').1 (rgs_sts h').2 i.toNat (by omega)
  rw [show ((i.toNat : Nat) : Int) = i by omega] at e e2 hk hk2
  have m1 := rgs_mo h' (j := i) (k := k) i0 (by omega) hk.2
  have m2 := rgs_mo h (j := i) (k := k2) i0 (by omega) hk2.2
  have el : lo i = lo' i := by omega
  have q := h.1 i i0 i1
  have q' := h'.1 i i0 ic
  refine ⟨ic, el, ?_⟩
  have one : ∀ (lo hi lo' hi' : Int → Int) (c c' : Int), rgs lo hi 0 c f → rgs lo' hi' 0 c' f → i < c → i < c' → lo i = lo' i → hi i < hi' i → False := by
    intro lo hi lo' hi' c c' h h' i1 ic el lt
    have q := h.1 i i0 i1
    have q' := h'.1 i i0 ic
    have t := rgs_in h (z := hi i) (by omega) (k := i) (by omega) q.2.1 (Int.le_refl _)
    have t2 := rgs_in h' (z := hi i + 1) (by omega) (k := i) (by omega) (by omega) (by omega)
    have := rgs_hi h (k := i) (by omega) (by omega)
    rw [t, t2] at this
    exact this rfl
  rcases Int.lt_trichotomy (hi i) (hi' i) with w | w | w
  · exact absurd (one lo hi lo' hi' c c' h h' i1 ic el w) id
  · exact w
  · exact absurd (one lo' hi' lo hi c' c h' h ic i1 el.symm w) id
/-- a set of the class is its ranges -/
def cLo (h : zH) (r : Int) : Int → Int := fun k => h (r + 1) (2 * k)
def cHi (h : zH) (r : Int) : Int → Int := fun k => h (r + 1) (2 * k + 1) - 1
theorem lsP_rgs {h : zH} {r : Int} {S : Int → Bool} {Dl : List Int} (k : lsP h r S Dl) : rgs (cLo h r) (cHi h r) 0 (h r 1 / 2) S := by
  obtain ⟨⟨⟨n0, n2, c1, c2⟩, -⟩, ii, -⟩ := k
  refine ⟨fun i i0 i1 => ?_, fun i i0 i1 => ?_, fun z z0 z1 => ?_⟩
  · have a := c1 (2 * i) (by omega) (by omega)
    have b := c1 (2 * i + 1) (by omega) (by omega)
    have l := c2 (2 * i) (2 * i + 1) (by omega) (by omega) (by omega)
    show 0 ≤ h (r + 1) (2 * i) ∧ h (r + 1) (2 * i) ≤ h (r + 1) (2 * i + 1) - 1 ∧ h (r + 1) (2 * i + 1) - 1 < 65536
    have a : 0 ≤ h (r + 1) (2 * i) ∧ h (r + 1) (2 * i) ≤ 65536 := a
    have b : 0 ≤ h (r + 1) (2 * i + 1) ∧ h (r + 1) (2 * i + 1) ≤ 65536 := b
    have l : h (r + 1) (2 * i) < h (r + 1) (2 * i + 1) := l
    omega
  · have l := c2 (2 * i + 1) (2 * (i + 1)) (by omega) (by omega) (by omega)
    have l : h (r + 1) (2 * i + 1) < h (r + 1) (2 * (i + 1)) := l
    show h (r + 1) (2 * i + 1) - 1 + 1 < h (r + 1) (2 * (i + 1))
    omega
  · rw [← ii z z0 z1, inn_cIn ⟨n0, n2, c1, c2⟩]
    constructor
    · rintro ⟨i, i0, i1, i2, i3⟩
      refine ⟨i, ⟨i0, by omega⟩, i2, ?_⟩
      have i3 : z < h (r + 1) (2 * i + 1) := i3
      show z ≤ h (r + 1) (2 * i + 1) - 1
      omega
    · rintro ⟨i, ⟨i0, i1⟩, i2, i3⟩
      have i3 : z ≤ h (r + 1) (2 * i + 1) - 1 := i3
      refine ⟨i, i0, by omega, i2, ?_⟩
      show z < h (r + 1) (2 * i + 1)
      omega
section RD
variable {G : zG} {d : Nat} {h : zH} {K Sp V : Int → Int} {m i : Int} {L : List nsT} {Dl : List Int} {t l2 : Int}
theorem sp_readBody {Q : Bool → zH → Prop} {f : Nat} {r : Rs} (tk : TK K V m) (dl : DL K V m Dl) (tb : TB h t L Dl) (bd : bdy h) (tx : TX h K Sp V m i) (mf : m ≤ i + f) (hl2 : 80 ≤ l2 ∧ zln (l2 + 1) = 48) (er : bod K Sp V L f i 0 = r) (kF : ¬ r.1 = 0 → ∀ h' : zH, FT h h' r.1 r.2.1 → Q false h') (kM : r.1 = 0 → ¬ rcn r.2.2.2 24 → ∀ h' : zH, FT h h' 5 (Sp i) → Q false h') (kC : r.1 = 0 → rcn r.2.2.2 24 → ∀ (h1 h' : zH), fB h h1 → (∀ a, ¬ a = l2 → ¬ a = l2 + 1 → h' a = h1 a) → bdy h' → TX h' K Sp V m r.2.2.1 → i < r.2.2.1 → lsP h' l2 r.2.2.2 Dl → h' l2 1 ≤ 48 → Q true h') : zCb G (d + 5) mX0_readBody [vr 0 17, vr 9 t, vr 3 l2] h Q := by
  have dk := dl.1
  have m9 := tk.1
  have i0 := tx.2.2.1
  refine eX0_readBody (bX0_readBody_0 ?_)
  rw [tx.2.2.2.2.2.1]
  obtain ⟨h1, e1⟩ : ∃ h1, h1 = zup (zup h 17 8 0) 17 9 0 := ⟨_, rfl⟩
  rw [← e1]
  have x : ∀ a, ¬ a = 17 → h1 a = h a := fun a p => by rw [e1, zup_ne p, zup_ne p]
  have x17 : ∀ j, ¬ j = 8 → ¬ j = 9 → h1 17 j = h 17 j := fun j p q => by rw [e1, zup_ns q, zup_ns p]
  have eb : bR h1 = bR h := bR_k (x17 6 (by decide) (by decide)) (x17 7 (by decide) (by decide)) (x 18 (by decide)) (x 19 (by decide))
  have bd1 : bdy h1 := bdy_fr (fun j _ _ => by rw [eb]) bd
  refine sp_openLevel (d := d + 2) (l := 0) (o := 0) (F := fun _ => ff) (J := fun _ => 0) (N := fun _ => 0) dk (by rw [e1, zup_ns (by decide), zup_eq]) (by rw [e1, zup_eq]) (by decide) bd1 (fun j hj => absurd hj (by unfold live; omega)) (fun j a b => absurd b (by omega)) (fun h2 g1 g2 g3 => ?_)
  have fb2 : fB h h2 := fB_t ⟨fun a p q => x a (by omega), fun j p => by rw [x 13 (by decide)]⟩ g1
  have tx2 : TX h2 K Sp V m i := TX_fr tx (by rw [g2, x 13 (by decide)]) (by rw [g1.1 14 (by decide) (by decide), x 14 (by decide)]) (by rw [g1.1 15 (by decide) (by decide), x 15 (by decide)]) (by rw [g1.1 16 (by decide) (by decide), x 16 (by decide)])
  obtain ⟨PP, RR⟩ := rb_PR (G := G) (d := d) (Sp := Sp) (l2 := l2) (l3 := Sp i) (Q := Q) tk dl tb f
  obtain ⟨r1, er1⟩ : ∃ r1, pr K Sp V L f false i 0 ff ff = r1 := ⟨_, rfl⟩
  have eq : r = if ¬ r1.1 = 0 then r1 else pr K Sp V L f true r1.2.2.1 0 (fun _ => false) r1.2.2.2 := by
    rw [← er, ← er1]
    rfl
  refine PP i 0 0 0 _ _ _ h2 mf fb2 tx2 g3 (Or.inl fup_eq) (by rw [fup_eq]; decide) (by omega) r1 er1 (fun n0 h' ft => ?_) (fun n0 h3 w2 f2 tx3 ip w20 ss2 => ?_)
  · rw [if_pos n0] at eq
    rw [eq] at kF
    exact kF n0 h' ft
  rw [if_neg (show ¬ ¬ r1.1 = 0 from fun z => z n0)] at eq
  rw [fup_eq, fup_eq, fuS_e, mt_t, show (0 : Int) - 0 = 0 by decide] at ss2
  refine RR r1.2.2.1 0 0 w2 _ _ _ h3 (by omega) f2 tx3 ss2 fup_eq (by decide) w20 r ?_ kF (fun s0 h4 w3 F' J' N' f3 tx4 ip3 kn w30 ss3 n3 eF eJ eS => ?_)
  · rw [eq, fuS_n (show ¬ 2 + (0 : Int) = 15 + 0 by decide), fuS_n (show ¬ 2 + (0 : Int) = 15 + 0 by decide), fuS_e, fuS_e]
  have i4 := tx4.2.2.1
  have k4 := (tk.2 _ i4.1 i4.2).1
  -- the end
  have fin : tX0_readBody_28 G (d + 4) Q t l2 (Sp i) 0 (w3 + 1) h4 := by
    refine bX0_readBody_28 ?_
    rw [ss3.1.1]
    refine ⟨⟨by decide, by decide⟩, fun _ => ⟨⟨by decide, by decide⟩, fun _ => sp_closeMeet (d := d + 2) dk ss3 (fun h5 y1 y2 y3 => ?_), fun z => absurd (by decide) z⟩, fun z => absurd rfl z⟩
    have ls := y3.2.2.2.1 (2 + 0) (Or.inl (by decide))
    rw [fuS_e, eS] at ls
    have rb := y3.2.2.1.1 2 (by decide) (by decide)
    rw [show (2 : Int) + 0 = 2 by decide] at ls
    have lO := ls.1
    have n0 := lO.1.1
    have n2 := lO.1.2.1
    have ln := bdy_ln rb
    have n9 := lO.2
    rw [ln] at n9
    rw [← bR_e (h := h5) (l := 0) (by decide), show (2 : Int) + 0 = 2 by decide]
    have fb5 := fB_t f3 y1
    refine eX3_rangeCount (bX3_rangeCount_0 ⟨by omega, ⟨⟨by omega, by omega⟩, fun le => ?_, fun gt => ?_⟩⟩)
    · rw [← bR_e (h := h5) (l := 0) (by decide), show (2 : Int) + 0 = 2 by decide]
      refine sp_copy (d := d + 3) (by omega) ls (by rw [hl2.2]; omega) (fun h6 u1 u2 u3 u4 u5 => ?_)
      refine kC s0 (rgs_rcn (lsP_rgs ls) (by omega)) h5 h6 fb5 u1 (bdy_fr (fun j _ _ => by rw [bR_k (h := h5) (by rw [u1 17 (by omega) (by omega)]) (by rw [u1 17 (by omega) (by omega)]) (u1 18 (by omega) (by omega)) (u1 19 (by omega) (by omega))]) y3.2.2.1) (TX_fr tx4 (by rw [u1 13 (by omega) (by omega), y2]) (by rw [u1 14 (by omega) (by omega), y1.1 14 (by decide) (by decide)]) (by rw [u1 15 (by omega) (by omega), y1.1 15 (by decide) (by decide)]) (by rw [u1 16 (by omega) (by omega), y1.1 16 (by decide) (by decide)])) (by omega) u5 (by rw [u3]; omega)
    · refine eX10_failAt (bX10_failAt_0 (kM s0 (fun rc => ?_) _ ⟨fB_t fb5 ⟨fun a p q => by rw [zup_ne p, zup_ne p], fun j p => by rw [zup_ns (by omega), zup_ns (by omega)]⟩, by rw [zup_ns (by decide), zup_eq], zup_eq, bdy_fr (fun j _ _ => by rw [bR_k (h := h5) (by rw [zup_ne (by decide), zup_ne (by decide)]) (by rw [zup_ne (by decide), zup_ne (by decide)]) (by rw [zup_ne (by decide), zup_ne (by decide)]) (by rw [zup_ne (by decide), zup_ne (by decide)])]) y3.2.2.1⟩))
      have := rgs_rc (lsP_rgs ls) (by omega) rc
      omega
  refine rb_turn (by omega) (fun z => absurd (ss3.1.2.2.symm.trans z) (by decide)) (fun _ => ?_) (Or.inl ss3.1.2.2)
  refine eX0_readSign (bX0_readSign_0 ?_)
  rw [tx4.2.2.2.2.1, ss3.1.1]
  exact ⟨k4, fun _ => ⟨k4, fun z => absurd z kn.2.1, fun _ => ⟨k4, fun _ => ⟨k4, fun _ => fin, fun _ => ⟨⟨by decide, by decide⟩, fun _ => fin, fun z => absurd (by decide) z⟩⟩, fun z => absurd z kn.2.2⟩⟩, fun z => absurd z kn.1⟩
end RD
