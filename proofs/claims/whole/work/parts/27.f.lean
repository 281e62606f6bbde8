/-! ===== where words of so many letters lead ===== -/
def Rl (S : Int → Int → Int) (nb : Int) : Nat → Int → Int → Prop
  | 0, s, t => s = t
  | k + 1, s, t => ∃ u b, Rl S nb k s u ∧ (0 ≤ b ∧ b < nb) ∧ t = S u b
section RL
variable {S : Int → Int → Int} {nb n : Int}
theorem Rl_add : ∀ {j i : Nat} {s t : Int}, Rl S nb (i + j) s t ↔ ∃ u, Rl S nb i s u ∧ Rl S nb j u t
  | 0, i, s, t => ⟨fun h => ⟨t, h, rfl⟩, fun ⟨u, a, b⟩ => by
    have e : u = t := b
    rw [← e]
    exact a⟩
  | j + 1, i, s, t => by
    constructor
    · rintro ⟨u, b, h, hb, e⟩
      obtain ⟨v, x, y⟩ := (Rl_add (j := j) (i := i)).mp h
      exact ⟨v, x, u, b, y, hb, e⟩
    · rintro ⟨v, x, u, b, y, hb, e⟩
      exact ⟨u, b, (Rl_add (j := j) (i := i)).mpr ⟨v, x, y⟩, hb, e⟩
theorem Rl_rg (hS : ∀ s b, 0 ≤ s → s < n → 0 ≤ b → b < nb → 0 ≤ S s b ∧ S s b < n) : ∀ {k : Nat} {s t : Int}, 0 ≤ s ∧ s < n → Rl S nb k s t → 0 ≤ t ∧ t < n
  | 0, s, t, hs, h => by
    have e : s = t := h
    rw [← e]
    exact hs
  | k + 1, s, t, hs, ⟨u, b, h, hb, e⟩ => by
    have a := Rl_rg hS hs h
    rw [e]
    exact hS u b a.1 a.2 hb.1 hb.2
theorem Rl_pow {d : Nat} {u : Int} (h : Rl S nb d u u) : ∀ m : Nat, Rl S nb (m * d) u u
  | 0 => by
    rw [Nat.zero_mul]
    rfl
  | m + 1 => by
    rw [Nat.succ_mul]
    exact Rl_add.mpr ⟨u, Rl_pow h m, h⟩
theorem Rl_path : ∀ {L : Nat} {s t : Int}, Rl S nb L s t → ∃ q : Nat → Int, q 0 = s ∧ q L = t ∧ ∀ k, k < L → ∃ b, (0 ≤ b ∧ b < nb) ∧ q (k + 1) = S (q k) b
  | 0, s, t, h => ⟨fun _ => s, rfl, h, fun k hk => absurd hk (by omega)⟩
  | L + 1, s, t, ⟨u, b, h, hb, e⟩ => by
    obtain ⟨q, q0, q1, q2⟩ := Rl_path h
    refine ⟨fun k => if k ≤ L then q k else t, ?_, ?_, fun k hk => ?_⟩
    · show (if 0 ≤ L then q 0 else t) = s
      rw [if_pos (by omega), q0]
    · show (if L + 1 ≤ L then q (L + 1) else t) = t
      rw [if_neg (by omega)]
    · show ∃ b, (0 ≤ b ∧ b < nb) ∧ (if k + 1 ≤ L then q (k + 1) else t) = S (if k ≤ L then q k else t) b
      rw [if_pos (show k ≤ L by omega)]
      by_cases z : k = L
      · subst z
        rw [if_neg (by omega), q1]
        exact ⟨b, hb, e⟩
      · rw [if_pos (by omega)]
        exact q2 k (by omega)
theorem Rl_seg {L : Nat} {q : Nat → Int} (hq : ∀ k, k < L → ∃ b, (0 ≤ b ∧ b < nb) ∧ q (k + 1) = S (q k) b) {i : Nat} : ∀ k : Nat, i + k ≤ L → Rl S nb k (q i) (q (i + k))
  | 0, _ => rfl
  | k + 1, h => by
    obtain ⟨b, hb, e⟩ := hq (i + k) (by omega)
    exact ⟨q (i + k), b, Rl_seg hq k (by omega), hb, e⟩
end RL
theorem pigI {f : Nat → Int} : ∀ (n : Nat) (Dl : List Int), (∀ i, i < n → f i ∈ Dl) → (∀ i j, i < j → j < n → ¬ f i = f j) → n ≤ Dl.length
  | 0, _, _, _ => Nat.zero_le _
  | n + 1, Dl, h, hr => by
    have m := h n (by omega)
    have l := List.length_erase_of_mem m
    have p : 0 < Dl.length := List.length_pos_of_mem m
    have := pigI n (Dl.erase (f n)) (fun i a => (List.mem_erase_of_ne (hr i n a (by omega))).mpr (h i (by omega))) (fun i j a b => hr i j a (by omega))
    omega
theorem pigN {f : Nat → Int} {N : Nat} (h : ∀ i, i ≤ N → 0 ≤ f i ∧ f i < N) : ∃ i j, i < j ∧ j ≤ N ∧ f i = f j := by
  refine Classical.byContradiction (fun no => ?_)
  have := pigI (f := f) (N + 1) ((List.range N).map (fun k : Nat => (k : Int))) (fun i hi => by
    have a := h i (by omega)
    refine List.mem_map.mpr ⟨(f i).toNat, List.mem_range.mpr (by omega), by omega⟩) (fun i j a b e => no ⟨i, j, a, by omega, e⟩)
  rw [List.length_map, List.length_range] at this
  omega
section PU
variable {S : Int → Int → Int} {nb n : Int}
theorem pump {N L : Nat} {s t : Int} (hS : ∀ s b, 0 ≤ s → s < (N : Int) → 0 ≤ b → b < nb → 0 ≤ S s b ∧ S s b < (N : Int)) (hs : 0 ≤ s ∧ s < (N : Int)) (hL : N ≤ L) (h : Rl S nb L s t) : ∃ (i d : Nat) (u : Int), 1 ≤ d ∧ i + d ≤ N ∧ Rl S nb i s u ∧ Rl S nb d u u ∧ Rl S nb (L - i - d) u t := by
  obtain ⟨q, q0, q1, q2⟩ := Rl_path h
  have rg : ∀ k, k ≤ L → 0 ≤ q k ∧ q k < (N : Int) := fun k hk => by
    have a := Rl_seg q2 (i := 0) k (by omega)
    rw [q0, Nat.zero_add] at a
    exact Rl_rg hS hs a
  obtain ⟨i, j, a, b, e⟩ := pigN (f := q) (N := N) (fun k hk => rg k (by omega))
  refine ⟨i, j - i, q i, by omega, by omega, ?_, ?_, ?_⟩
  · have x := Rl_seg q2 (i := 0) i (by omega)
    rwa [q0, Nat.zero_add] at x
  · have x := Rl_seg q2 (i := i) (j - i) (by omega)
    rwa [show i + (j - i) = j by omega, ← e] at x
  · have x := Rl_seg q2 (i := j) (L - j) (by omega)
    rwa [show j + (L - j) = L by omega, q1, ← e, show L - j = L - i - (j - i) by omega] at x
/-- if words of n letters or more are taken, one of less than 2 n is -/
theorem pump_down {N : Nat} {s : Int} {P : Int → Prop} (hN : 1 ≤ N) (hS : ∀ s b, 0 ≤ s → s < (N : Int) → 0 ≤ b → b < nb → 0 ≤ S s b ∧ S s b < (N : Int)) (hs : 0 ≤ s ∧ s < (N : Int)) : ∀ (L : Nat) (t : Int), N ≤ L → Rl S nb L s t → P t → ∃ (L' : Nat) (t' : Int), N ≤ L' ∧ L' < 2 * N ∧ Rl S nb L' s t' ∧ P t' := by
  intro L
  induction L using Nat.strongRecOn with
  | _ L ih =>
    intro t hL h hp
    by_cases z : L < 2 * N
    · exact ⟨L, t, hL, z, h, hp⟩
    · obtain ⟨i, d, u, d1, id, r1, r2, r3⟩ := pump hS hs hL h
      have r := Rl_add.mpr ⟨u, r1, r3⟩
      exact ih (i + (L - i - d)) (by omega) t (by omega) r hp
theorem pump_up {N : Nat} {s t c : Int} {e : Nat} {P : Int → Prop} (hS : ∀ s b, 0 ≤ s → s < (N : Int) → 0 ≤ b → b < nb → 0 ≤ S s b ∧ S s b < (N : Int)) (hs : 0 ≤ s ∧ s < (N : Int)) (h : Rl S nb N s c) (h2 : Rl S nb e c t) (hp : P t) (M : Nat) : ∃ (L : Nat) (t' : Int), M ≤ L ∧ Rl S nb L s t' ∧ P t' := by
  obtain ⟨i, d, u, d1, id, r1, r2, r3⟩ := pump hS hs (Nat.le_refl N) h
  refine ⟨i + (M * d + ((N - i - d) + e)), t, ?_, Rl_add.mpr ⟨u, r1, Rl_add.mpr ⟨u, Rl_pow r2 M, Rl_add.mpr ⟨c, r3, h2⟩⟩⟩, hp⟩
  have : M * 1 ≤ M * d := Nat.mul_le_mul_left M d1
  omega
end PU
/-- the greatest length below N of a word that is taken; -2 without one -/
def mxL (A : Nat → Prop) (N : Nat) (v : Int) : Prop := (v = -2 ∧ ∀ k, k < N → ¬ A k) ∨ ∃ k : Nat, v = k ∧ k < N ∧ A k ∧ ∀ k', k < k' → k' < N → ¬ A k'
theorem mxL_s {A : Nat → Prop} {N : Nat} {v w : Int} (h : mxL A N v) (h1 : A N → w = N) (h2 : ¬ A N → w = v) : mxL A (N + 1) w := by
  by_cases z : A N
  · rw [h1 z]
    exact Or.inr ⟨N, rfl, by omega, z, fun k' a b => absurd b (by omega)⟩
  · rw [h2 z]
    rcases h with ⟨e, no⟩ | ⟨k, e, a, b, c⟩
    · refine Or.inl ⟨e, fun k hk => ?_⟩
      by_cases y : k = N
      · rw [y]
        exact z
      · exact no k (by omega)
    · refine Or.inr ⟨k, e, by omega, b, fun k' x y => ?_⟩
      by_cases w2 : k' = N
      · rw [w2]
        exact z
      · exact c k' x (by omega)
theorem mxL_u {A : Nat → Prop} {N M : Nat} {v w : Int} (hNM : N ≤ M) (hA : ∀ k, N ≤ k → ¬ A k) (h : mxL A N v) (h' : mxL A M w) : v = w := by
  rcases h with ⟨e, no⟩ | ⟨k, e, a, b, c⟩
  · rcases h' with ⟨e', -⟩ | ⟨k', e', a', b', -⟩
    · omega
    · by_cases z : k' < N
      · exact absurd b' (no k' z)
      · exact absurd b' (hA k' (by omega))
  · rcases h' with ⟨e', no'⟩ | ⟨k', e', a', b', c'⟩
    · exact absurd b (no' k (by omega))
    · have kn : k' < N := Classical.byContradiction (fun z => hA k' (by omega) b')
      rcases Nat.lt_trichotomy k k' with z | z | z
      · exact absurd b' (c k' z kn)
      · omega
      · exact absurd b (c' k z (by omega))
theorem mxL_rg {A : Nat → Prop} {N : Nat} {v : Int} (h : mxL A N v) : -2 ≤ v ∧ v < N ∨ v = -2 := by
  rcases h with ⟨e, -⟩ | ⟨k, e, a, -⟩
  · exact Or.inr e
  · exact Or.inl (by omega)
/-! ===== classes and sheaves lead alike ===== -/
section HO
variable {h D : zH} {p : Int}
abbrev sS (h : zH) (p s b : Int) : Int := h (p + 2) (s * 128 + b)
theorem hS_s (hp : pthP h p D) (hD : mOK D) : ∀ s b, 0 ≤ s → s < h p 0 → 0 ≤ b → b < D 0 4 → 0 ≤ sS h p s b ∧ sS h p s b < h p 0 := fun s b a1 a2 a3 a4 => by
  obtain ⟨p7, pb, pt, R, pR, pc⟩ := hp
  exact bfs_T pb a1 a2 a3 a4 hD
theorem hS_c (hp : pthP h p D) (hD : mOK D) : ∀ s b, 0 ≤ s → s < h p 10 → 0 ≤ b → b < D 0 4 → 0 ≤ CS h p s b ∧ CS h p s b < h p 10 := fun s b a1 a2 a3 a4 => (pP_step hp hD a1 a2 a3 a4).2.2
theorem ho_step (hp : pthP h p D) (hD : mOK D) {s b : Int} (s0 : 0 ≤ s) (s1 : s < h p 0) (b0 : 0 ≤ b) (b1 : b < D 0 4) : h (p + 8) (sS h p s b) = CS h p (h (p + 8) s) b := by
  obtain ⟨p7, pb, pt, R, pR, pc⟩ := hp
  obtain ⟨k1, k2, k3⟩ := pc.2.2.1.1.2.1 s s0 s1
  have hh := (pc.2.2.1.1.2.2.1 _ k1.1 k1.2).1
  have t1 := bfs_T pb s0 s1 b0 b1 hD
  have t2 := bfs_T pb hh.1 hh.2 b0 b1 hD
  refine (pc.2.2.1.2 _ _ t1.1 t1.2 t2.1 t2.2).mp (fun z => k2 ?_)
  exact pc.1 _ _ s0 s1 hh.1 hh.2 (Or.inr ⟨b, b0, b1, z⟩)
theorem ho_takes (hp : pthP h p D) {s : Int} (s0 : 0 ≤ s) (s1 : s < h p 0) : tb (h p 6) s = tb (h p 6) (h (p + 9) (h (p + 8) s)) := by
  obtain ⟨p7, pb, pt, R, pR, pc⟩ := hp
  obtain ⟨k1, k2, k3⟩ := pc.2.2.1.1.2.1 s s0 s1
  exact Classical.byContradiction (fun z => k2 (pd_mono (Nat.zero_le _) z))
theorem ho_0 (hp : pthP h p D) : h (p + 8) 0 = 0 := by
  have nn := pP_n hp
  obtain ⟨p7, pb, pt, R, pR, pc⟩ := hp
  obtain ⟨k1, k2, k3⟩ := pc.2.2.1.1.2.1 0 (Int.le_refl _) (by omega)
  have hh := (pc.2.2.1.1.2.2.1 _ k1.1 k1.2).1
  rcases Int.lt_or_le 0 (h (p + 8) 0) with z | z
  · have := pc.2.2.1.1.2.2.2 0 (h (p + 8) 0) (Int.le_refl _) z k1.2
    have := (pc.2.2.1.1.2.2.1 0 (Int.le_refl _) (by omega)).1
    omega
  · omega
theorem ho_Rl (hp : pthP h p D) (hD : mOK D) : ∀ {k : Nat} {s t : Int}, 0 ≤ s ∧ s < h p 0 → Rl (sS h p) (D 0 4) k s t → Rl (CS h p) (D 0 4) k (h (p + 8) s) (h (p + 8) t)
  | 0, s, t, _, e => by
    have e : s = t := e
    rw [e]
    rfl
  | k + 1, s, t, hs, ⟨u, b, r, hb, e⟩ => by
    have u1 := Rl_rg (hS_s hp hD) hs r
    refine ⟨h (p + 8) u, b, ho_Rl hp hD hs r, hb, ?_⟩
    rw [e]
    exact ho_step hp hD u1.1 u1.2 hb.1 hb.2
theorem ho_back (hp : pthP h p D) (hD : mOK D) : ∀ {k : Nat} {s e : Int}, 0 ≤ s ∧ s < h p 0 → Rl (CS h p) (D 0 4) k (h (p + 8) s) e → ∃ t, (0 ≤ t ∧ t < h p 0) ∧ Rl (sS h p) (D 0 4) k s t ∧ h (p + 8) t = e
  | 0, s, e, hs, r => ⟨s, hs, rfl, r⟩
  | k + 1, s, e, hs, ⟨u, b, r, hb, x⟩ => by
    obtain ⟨t, t1, t2, t3⟩ := ho_back hp hD hs r
    refine ⟨sS h p t b, hS_s hp hD t b t1.1 t1.2 hb.1 hb.2, ⟨t, b, t2, hb, rfl⟩, ?_⟩
    rw [ho_step hp hD t1.1 t1.2 hb.1 hb.2, t3, x]
/-- a word of k letters is taken -/
def tkA (h : zH) (p : Int) (D : zH) (k : Nat) : Prop := ∃ t, Rl (sS h p) (D 0 4) k 0 t ∧ tb (h p 6) t = true
theorem tkA_c (hp : pthP h p D) (hD : mOK D) {k : Nat} : tkA h p D k ↔ ∃ c, Rl (CS h p) (D 0 4) k 0 c ∧ tb (h p 6) (h (p + 9) c) = true := by
  have nn := pP_n hp
  have z0 := ho_0 hp
  constructor
  · rintro ⟨t, r, e⟩
    have t1 := Rl_rg (hS_s hp hD) (by omega) r
    have r2 := ho_Rl hp hD (by omega) r
    rw [z0] at r2
    exact ⟨_, r2, by rw [← ho_takes hp t1.1 t1.2]; exact e⟩
  · rintro ⟨c, r, e⟩
    have r' : Rl (CS h p) (D 0 4) k (h (p + 8) 0) c := by rw [z0]; exact r
    obtain ⟨t, t1, t2, t3⟩ := ho_back hp hD (by omega) r'
    exact ⟨t, t2, by rw [ho_takes hp t1.1 t1.2, t3]; exact e⟩
/-- nothing is taken from s on -/
theorem none_pd (hp : pthP h p D) (hD : mOK D) : ∀ {r : Nat} {s t : Int}, 0 ≤ s ∧ s < h p 0 → 0 ≤ t ∧ t < h p 0 → (∀ k u, Rl (sS h p) (D 0 4) k s u → tb (h p 6) u = false) → (∀ k u, Rl (sS h p) (D 0 4) k t u → tb (h p 6) u = false) → ¬ pd (h (p + 2)) (D 0 4) (tb (h p 6)) r s t
  | 0, s, t, _, _, a, b => fun z => z ((a 0 s rfl).trans (b 0 t rfl).symm)
  | r + 1, s, t, hs, ht, a, b => by
    rintro (z | ⟨c, c0, c1, z⟩)
    · exact none_pd hp hD hs ht a b z
    · have one : ∀ {s : Int}, (∀ k u, Rl (sS h p) (D 0 4) k s u → tb (h p 6) u = false) → ∀ k u, Rl (sS h p) (D 0 4) k (h (p + 2) (s * 128 + c)) u → tb (h p 6) u = false := fun {s} a k u r => a (1 + k) u (Rl_add.mpr ⟨_, ⟨s, c, rfl, ⟨c0, c1⟩, rfl⟩, r⟩)
      exact none_pd hp hD (hS_s hp hD s c hs.1 hs.2 c0 c1) (hS_s hp hD t c ht.1 ht.2 c0 c1) (one a) (one b) z
theorem dead_none (hp : pthP h p D) (hD : mOK D) {c : Int} (hd : isDd h p D c) {k : Nat} : ∀ {e : Int}, Rl (CS h p) (D 0 4) k c e → e = c := by
  induction k with
  | zero => exact fun {e} r => (show c = e from r).symm
  | succ k ih =>
    rintro e ⟨u, b, r, hb, x⟩
    rw [x, ih r]
    exact hd.2 b hb.1 hb.2
/-- a class from which nothing is taken is dead -/
theorem none_dead (hp : pthP h p D) (hD : mOK D) {c : Int} (c0 : 0 ≤ c) (c1 : c < h p 10) (no : ∀ k e, Rl (CS h p) (D 0 4) k c e → tb (h p 6) (h (p + 9) e) = false) : isDd h p D c := by
  have hp2 := hp
  obtain ⟨p7, pb, pt, R, pR, pc⟩ := hp2
  refine ⟨no 0 c rfl, fun b b0 b1 => ?_⟩
  have sN : ∀ s, 0 ≤ s ∧ s < h p 0 → (∀ k e, Rl (CS h p) (D 0 4) k (h (p + 8) s) e → tb (h p 6) (h (p + 9) e) = false) → ∀ k u, Rl (sS h p) (D 0 4) k s u → tb (h p 6) u = false := fun s hs n2 k u r => by
    have u1 := Rl_rg (hS_s hp hD) hs r
    rw [ho_takes hp u1.1 u1.2]
    exact n2 k _ (ho_Rl hp hD hs r)
  obtain ⟨s1, s2, s3⟩ := pP_step hp hD c0 c1 b0 b1
  have kc := (pc.2.2.1.1.2.2.1 c c0 c1).2
  have nb : ∀ k e, Rl (CS h p) (D 0 4) k (CS h p c b) e → tb (h p 6) (h (p + 9) e) = false := fun k e r => no (1 + k) e (Rl_add.mpr ⟨_, ⟨c, b, rfl, ⟨b0, b1⟩, rfl⟩, r⟩)
  have x := none_pd hp hD (r := R) s2 s1 (sN _ s2 nb) (sN _ s1 (by rw [kc]; exact no))
  have y := (pc.2.2.1.2 _ _ s2.1 s2.2 s1.1 s1.2).mp x
  rw [kc] at y
  exact y
theorem dead_u (hp : pthP h p D) (hD : mOK D) {c e : Int} (c0 : 0 ≤ c) (c1 : c < h p 10) (e0 : 0 ≤ e) (e1 : e < h p 10) (hc : isDd h p D c) (he : isDd h p D e) : c = e := by
  have hp2 := hp
  obtain ⟨p7, pb, pt, R, pR, pc⟩ := hp2
  have sN : ∀ s, 0 ≤ s ∧ s < h p 0 → isDd h p D (h (p + 8) s) → ∀ k u, Rl (sS h p) (D 0 4) k s u → tb (h p 6) u = false := fun s hs hd k u r => by
    have u1 := Rl_rg (hS_s hp hD) hs r
    rw [ho_takes hp u1.1 u1.2, dead_none hp hD hd (ho_Rl hp hD hs r)]
    exact hd.1
  have a := pc.2.2.1.1.2.2.1 c c0 c1
  have b := pc.2.2.1.1.2.2.1 e e0 e1
  have x := none_pd hp hD (r := R) a.1 b.1 (sN _ a.1 (by rw [a.2]; exact hc)) (sN _ b.1 (by rw [b.2]; exact he))
  have y := (pc.2.2.1.2 _ _ a.1.1 a.1.2 b.1.1 b.1.2).mp x
  rw [a.2, b.2] at y
  exact y
/-- words without end are taken: what the class sees at C letters, what the model sees from n on -/
theorem endless (hp : pthP h p D) (hD : mOK D) : ((∃ c, Rl (CS h p) (D 0 4) (h p 10).toNat 0 c ∧ ¬ isDd h p D c) → ∃ L : Nat, (h p 0).toNat ≤ L ∧ L < 2 * (h p 0).toNat ∧ tkA h p D L) ∧ ((∃ L : Nat, (h p 10).toNat ≤ L ∧ tkA h p D L) → ∃ c, Rl (CS h p) (D 0 4) (h p 10).toNat 0 c ∧ ¬ isDd h p D c) := by
  have nn := pP_n hp
  have eC : (((h p 10).toNat : Nat) : Int) = h p 10 := by omega
  have eN : (((h p 0).toNat : Nat) : Int) = h p 0 := by omega
  constructor
  · rintro ⟨c, r, nd⟩
    have c1 := Rl_rg (hS_c hp hD) (show (0 : Int) ≤ 0 ∧ (0 : Int) < h p 10 by omega) r
    have ex : ∃ k e, Rl (CS h p) (D 0 4) k c e ∧ tb (h p 6) (h (p + 9) e) = true := Classical.byContradiction (fun no => nd (none_dead hp hD c1.1 c1.2 (fun k e r2 => by
      cases z : tb (h p 6) (h (p + 9) e)
      · rfl
      · exact absurd ⟨k, e, r2, z⟩ no)))
    obtain ⟨k, e, r2, te⟩ := ex
    obtain ⟨L, t, hL, r3, te2⟩ := pump_up (P := fun e => tb (h p 6) (h (p + 9) e) = true) (N := (h p 10).toNat) (by rw [eC]; exact hS_c hp hD) (by omega) r r2 te (h p 0).toNat
    obtain ⟨t', r4, te3⟩ := (tkA_c hp hD (k := L)).mpr ⟨t, r3, te2⟩
    obtain ⟨L', t2, a1, a2, a3, a4⟩ := pump_down (P := fun e => tb (h p 6) e = true) (N := (h p 0).toNat) (by omega) (by rw [eN]; exact hS_s hp hD) (by omega) L t' hL r4 te3
    exact ⟨L', a1, a2, t2, a3, a4⟩
  · rintro ⟨L, hL, a⟩
    obtain ⟨e, r, te⟩ := (tkA_c hp hD).mp a
    rw [show L = (h p 10).toNat + (L - (h p 10).toNat) by omega] at r
    obtain ⟨c, r1, r2⟩ := Rl_add.mp r
    refine ⟨c, r1, fun hd => ?_⟩
    have := dead_none hp hD hd r2
    rw [this, hd.1] at te
    cases te
end HO
