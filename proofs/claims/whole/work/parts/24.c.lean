/-! ===== cases: word, feed ===== -/
theorem zi2b_rg (x : Int) : -128 ≤ zi2b x ∧ zi2b x < 128 := by
  unfold zi2b
  have h : (Int32.ofInt x).toInt8.toInt32.toInt = (Int32.ofInt x).toInt8.toInt := Int8.toInt_toInt32 _
  rw [h]
  have a := (Int32.ofInt x).toInt8.le_toInt
  have b := (Int32.ofInt x).toInt8.toInt_lt
  constructor <;> omega
section CC
variable {G : zG} {d : Nat} {h : zH}
theorem c_word {n a b c e : Int} (hI : Inv h) (hn : zR n) (ha : zR a) (hb : zR b) (hc : zR c) (he : zR e) : twI G (d + 3) mX11_word mX12_word [vi n, vi a, vi b, vi c, vi e] h := by
  have hs := hI.1
  obtain ⟨a1, a2, a3, a4, a5, a6, a7, a8⟩ := hs
  refine sp_word hn ha hb hc he (fun q1 q2 => ?_) (fun q => sm_word hn ha hb hc he (fun z1 z2 => absurd ⟨z1, z2⟩ q) (fun _ => ⟨⟨by decide, by decide⟩, rfl, Inv_w hI (by omega)⟩))
  refine sm_word hn ha hb hc he (fun _ _ h' w1 w2 => ⟨hn, rfl, ?_⟩) (fun z => absurd ⟨q1, q2⟩ z)
  have o : ∀ x, ¬ x = 514 → h' x = zup (zup (zup (zup (zup (zup (zup h 2 0 a) 2 1 b) 2 2 c) 2 3 e) 0 11 n) 0 14 0) 466 0 0 x := fun x q => by
    funext y
    exact w2 x y q
  have g0 : ∀ j, ¬ j = 11 → ¬ j = 14 → (zup (zup (zup h' 466 77 n) 466 1 0) 466 2 (-1)) 0 j = h 0 j := fun j z1 z2 => by
    rw [zup_ne (by decide), zup_ne (by decide), zup_ne (by decide), o 0 (by decide), zup_ne (by decide), zup_ns z2, zup_ns z1, zup_ne (by decide), zup_ne (by decide), zup_ne (by decide), zup_ne (by decide)]
  have g11 : (zup (zup (zup h' 466 77 n) 466 1 0) 466 2 (-1)) 0 11 = n := by
    rw [zup_ne (by decide), zup_ne (by decide), zup_ne (by decide), o 0 (by decide), zup_ne (by decide), zup_ns (by decide), zup_eq]
  have g14 : (zup (zup (zup h' 466 77 n) 466 1 0) 466 2 (-1)) 0 14 = 0 := by
    rw [zup_ne (by decide), zup_ne (by decide), zup_ne (by decide), o 0 (by decide), zup_ne (by decide), zup_eq]
  have gm : ∀ j, ¬ j = 0 → ¬ j = 1 → ¬ j = 2 → ¬ j = 77 → (zup (zup (zup h' 466 77 n) 466 1 0) 466 2 (-1)) 466 j = h 466 j := fun j z0 z1 z2 z7 => by
    rw [zup_ns z2, zup_ns z1, zup_ns z7, o 466 (by decide), zup_ns z0, zup_ne (by decide), zup_ne (by decide), zup_ne (by decide), zup_ne (by decide), zup_ne (by decide), zup_ne (by decide)]
  have gm1 : (zup (zup (zup h' 466 77 n) 466 1 0) 466 2 (-1)) 466 1 = 0 := by rw [zup_ns (by decide), zup_eq]
  have gm2 : (zup (zup (zup h' 466 77 n) 466 1 0) 466 2 (-1)) 466 2 = -1 := zup_eq
  have gm7 : (zup (zup (zup h' 466 77 n) 466 1 0) 466 2 (-1)) 466 77 = n := by rw [zup_ns (by decide), zup_ns (by decide), zup_eq]
  have gr : ∀ x, ¬ x = 0 → ¬ x = 2 → ¬ x = 466 → ¬ x = 514 → (zup (zup (zup h' 466 77 n) 466 1 0) 466 2 (-1)) x = h x := fun x z0 z2 z4 z5 => by
    rw [zup_ne z4, zup_ne z4, zup_ne z4, o x z5, zup_ne z4, zup_ne z0, zup_ne z0, zup_ne z2, zup_ne z2, zup_ne z2, zup_ne z2]
  have g2 : (zup (zup (zup h' 466 77 n) 466 1 0) 466 2 (-1)) 2 = fup (fup (fup (fup (h 2) 0 a) 1 b) 2 c) 3 e := by
    rw [zup_ne (by decide), zup_ne (by decide), zup_ne (by decide), o 2 (by decide), zup_ne (by decide), zup_ne (by decide), zup_ne (by decide), zup_r, zup_r, zup_r, zup_r]
  have g5 : ∀ j, 0 ≤ j → j < n → (zup (zup (zup h' 466 77 n) 466 1 0) 466 2 (-1)) 514 j = wsel j a b c e := fun j z0 z1 => by
    rw [zup_ne (by decide), zup_ne (by decide), zup_ne (by decide)]
    exact w1 j z0 z1
  generalize (zup (zup (zup h' 466 77 n) 466 1 0) 466 2 (-1)) = h3 at g0 g11 g14 gm gm1 gm2 gm7 gr g2 g5 ⊢
  refine Inv_g hI ?_ ?_ ?_ (fun b kb => gr b (by unfold kq at kb; omega) (by unfold kq at kb; omega) (by unfold kq at kb; omega) (by unfold kq at kb; omega)) (g0 9 (by decide) (by decide)) (by rw [g0 13 (by decide) (by decide)]; exact Int.le_refl _) (gm 22 (by decide) (by decide) (by decide) (by decide))
  · unfold iSc
    rw [g0 10 (by decide) (by decide), g0 12 (by decide) (by decide), g0 13 (by decide) (by decide), g0 15 (by decide) (by decide), g0 16 (by decide) (by decide), g11, g14, gm 4 (by decide) (by decide) (by decide) (by decide), gm 65 (by decide) (by decide) (by decide) (by decide), gm 64 (by decide) (by decide) (by decide) (by decide), gm 10 (by decide) (by decide) (by decide) (by decide), gm1, gm2, gm7]
    exact ⟨a1, by omega, a3, by omega, a5, a6, fun z => absurd z (by decide), fun _ => rfl⟩
  · unfold iWd
    rw [g11, g2]
    intro i i0 i1
    rw [g5 i i0 i1]
    have : fup (fup (fup (fup (h 2) 0 a) 1 b) 2 c) 3 e i = wsel i a b c e := by
      unfold wsel
      rcases (show i = 0 ∨ i = 1 ∨ i = 2 ∨ i = 3 by omega) with z | z | z | z
      · subst z
        rfl
      · subst z
        rfl
      · subst z
        rfl
      · subst z
        rfl
    rw [this]
    exact ⟨q2 i i0 i1, rfl⟩
  · unfold iTp
    rw [g0 10 (by decide) (by decide), gr 1 (by decide) (by decide) (by decide) (by decide), gr 467 (by decide) (by decide) (by decide) (by decide)]
    exact hI.2.2.1
/-- bytes put one behind the other -/
def putL (o j r : Int) (h : zH) : List Int → zH
  | [] => h
  | x :: l => putL o j r (put1 o j r h x) l
def fupL (f : Int → Int) (n : Int) : List Int → Int → Int
  | [] => f
  | x :: l => fupL (fup f n x) (n + 1) l
theorem putL_ne {o j r a : Int} (h1 : ¬ a = o) (h2 : ¬ a = r) : ∀ (l : List Int) (h : zH), putL o j r h l a = h a
  | [], _ => rfl
  | x :: l, h => by
    unfold putL
    rw [putL_ne h1 h2 l]
    unfold put1
    rw [zup_ne h1, zup_ne h2]
theorem putL_o {o j r b : Int} (h1 : ¬ o = r) (h2 : ¬ b = j) : ∀ (l : List Int) (h : zH), putL o j r h l o b = h o b
  | [], _ => rfl
  | x :: l, h => by
    unfold putL
    rw [putL_o h1 h2 l]
    unfold put1
    rw [zup_ns h2, zup_ne h1]
theorem putL_n {o j r : Int} : ∀ (l : List Int) (h : zH), putL o j r h l o j = h o j + l.length
  | [], _ => by
    unfold putL
    rw [List.length_nil]
    omega
  | x :: l, h => by
    unfold putL
    rw [putL_n l, put1_n, List.length_cons]
    omega
theorem putL_r {o j r : Int} (h1 : ¬ o = r) : ∀ (l : List Int) (h : zH), putL o j r h l r = fupL (h r) (h o j) l
  | [], _ => rfl
  | x :: l, h => by
    unfold putL fupL
    rw [putL_r h1 l, put1_n]
    unfold put1
    rw [zup_ne (fun q => h1 q.symm), zup_r]
theorem fupL_rel : ∀ (l : List Int) (f g : Int → Int) (n : Int), (∀ x ∈ l, -128 ≤ x ∧ x < 128) → (∀ i, 0 ≤ i → i < n → (-128 ≤ f i ∧ f i < 128) ∧ g i = f i) → 0 ≤ n → ∀ i, 0 ≤ i → i < n + l.length → (-128 ≤ fupL f n l i ∧ fupL f n l i < 128) ∧ fupL g n l i = fupL f n l i
  | [], f, g, n, _, h, _ => fun i i0 i1 => h i i0 (by rw [List.length_nil] at i1; omega)
  | x :: l, f, g, n, hx, h, hn => fun i i0 i1 => by
    unfold fupL
    refine fupL_rel l _ _ (n + 1) (fun y hy => hx y (List.mem_cons_of_mem _ hy)) (fun k k0 k1 => ?_) (by omega) i i0 (by rw [List.length_cons] at i1; omega)
    by_cases z : k = n
    · rw [z, fup_eq, fup_eq]
      exact ⟨hx x List.mem_cons_self, rfl⟩
    · rw [fup_ne z, fup_ne z]
      exact h k k0 (by omega)
def by4 (v : Int) : List Int := [zby1 v 24, zby1 v 16, zby1 v 8, zby1 v 0]
theorem by4_rg (v : Int) : ∀ x ∈ by4 v, -128 ≤ x ∧ x < 128 := by
  intro x hx
  unfold by4 at hx
  rcases List.mem_cons.mp hx with z | hx
  · rw [z]
    exact zi2b_rg _
  · rcases List.mem_cons.mp hx with z | hx
    · rw [z]
      exact zi2b_rg _
    · rcases List.mem_cons.mp hx with z | hx
      · rw [z]
        exact zi2b_rg _
      · rw [List.mem_singleton.mp hx]
        exact zi2b_rg _
def by20 (a b c e f : Int) : List Int := by4 a ++ (by4 b ++ (by4 c ++ (by4 e ++ by4 f)))
theorem by20_put {o j r : Int} (h : zH) (a b c e f : Int) : put4 o j r (put4 o j r (put4 o j r (put4 o j r (put4 o j r h a) b) c) e) f = putL o j r h (by20 a b c e f) := rfl
theorem by20_len (a b c e f : Int) : (by20 a b c e f).length = 20 := rfl
theorem by20_rg (a b c e f : Int) : ∀ x ∈ by20 a b c e f, -128 ≤ x ∧ x < 128 := by
  intro x hx
  unfold by20 at hx
  rcases List.mem_append.mp hx with z | hx
  · exact by4_rg _ x z
  · rcases List.mem_append.mp hx with z | hx
    · exact by4_rg _ x z
    · rcases List.mem_append.mp hx with z | hx
      · exact by4_rg _ x z
      · rcases List.mem_append.mp hx with z | hx
        · exact by4_rg _ x z
        · exact by4_rg _ x hx
theorem c_feed {a b c e f : Int} (hI : Inv h) : twI G (d + 2) mX11_feed mX12_feed [vi a, vi b, vi c, vi e, vi f] h := by
  have hs := hI.1
  obtain ⟨a1, a2, a3, a4, a5, a6, a7, a8⟩ := hs
  refine sp_feed (by omega) (by omega) (fun q => ?_) (fun q => sm_feed (by omega) (by omega) (fun z => absurd z (by omega)) (fun _ => ⟨⟨by decide, by decide⟩, rfl, Inv_0 hI⟩))
  rw [by20_put]
  have c4 : putL 0 10 1 h (by20 a b c e f) 466 = h 466 := putL_ne (by decide) (by decide) _ h
  refine sm_feed (by rw [c4]; omega) (by rw [c4]; omega) (fun _ => ?_) (fun z => absurd z (by rw [c4]; omega))
  rw [by20_put, c4]
  have l20 := by20_len a b c e f
  have lrg := by20_rg a b c e f
  generalize by20 a b c e f = l at l20 lrg c4 ⊢
  refine ⟨⟨by omega, by omega⟩, by omega, ?_⟩
  have g0 : ∀ j, ¬ j = 10 → putL 466 4 467 (zup (putL 0 10 1 h l) 466 0 0) l 0 j = h 0 j := fun j z => by
    rw [putL_ne (by decide) (by decide), zup_ne (by decide), putL_o (by decide) z]
  have g10 : putL 466 4 467 (zup (putL 0 10 1 h l) 466 0 0) l 0 10 = h 0 10 + 20 := by
    rw [putL_ne (by decide) (by decide), zup_ne (by decide), putL_n, l20]
    rfl
  have gm : ∀ j, ¬ j = 0 → ¬ j = 4 → putL 466 4 467 (zup (putL 0 10 1 h l) 466 0 0) l 466 j = h 466 j := fun j z0 z4 => by
    rw [putL_o (by decide) z4, zup_ns z0, c4]
  have gm4 : putL 466 4 467 (zup (putL 0 10 1 h l) 466 0 0) l 466 4 = h 466 4 + 20 := by
    rw [putL_n, l20, zup_ns (by decide), c4]
    rfl
  have gr : ∀ x, ¬ x = 0 → ¬ x = 1 → ¬ x = 466 → ¬ x = 467 → putL 466 4 467 (zup (putL 0 10 1 h l) 466 0 0) l x = h x := fun x z0 z1 z2 z3 => by
    rw [putL_ne z2 z3, zup_ne z2, putL_ne z0 z1]
  have g1 : putL 466 4 467 (zup (putL 0 10 1 h l) 466 0 0) l 1 = fupL (h 1) (h 0 10) l := by
    rw [putL_ne (by decide) (by decide), zup_ne (by decide), putL_r (by decide)]
  have g7 : putL 466 4 467 (zup (putL 0 10 1 h l) 466 0 0) l 467 = fupL (h 467) (h 0 10) l := by
    rw [putL_r (by decide), zup_ne (by decide), putL_ne (by decide) (by decide), zup_ns (by decide), c4, a1.2.2]
  generalize putL 466 4 467 (zup (putL 0 10 1 h l) 466 0 0) l = h' at g0 g10 gm gm4 gr g1 g7 ⊢
  refine Inv_g hI ?_ ?_ ?_ (fun b kb => gr b (by unfold kq at kb; omega) (by unfold kq at kb; omega) (by unfold kq at kb; omega) (by unfold kq at kb; omega)) (g0 9 (by decide)) (by rw [g0 13 (by decide)]; exact Int.le_refl _) (gm 22 (by decide) (by decide))
  · unfold iSc
    rw [g0 11 (by decide), g0 12 (by decide), g0 13 (by decide), g0 14 (by decide), g0 15 (by decide), g0 16 (by decide), g10, gm4, gm 77 (by decide) (by decide), gm 65 (by decide) (by decide), gm 64 (by decide) (by decide), gm 10 (by decide) (by decide), gm 1 (by decide) (by decide), gm 2 (by decide) (by decide)]
    exact ⟨by omega, a2, a3, a4, a5, a6, a7, a8⟩
  · unfold iWd
    rw [g0 11 (by decide), gr 2 (by decide) (by decide) (by decide) (by decide), gr 514 (by decide) (by decide) (by decide) (by decide)]
    exact hI.2.1
  · unfold iTp
    rw [g10, g1, g7]
    intro j j0 j1
    exact fupL_rel l (h 1) (h 467) (h 0 10) lrg hI.2.2.1 a1.1 j j0 (by rw [l20]; exact j1)
end CC
