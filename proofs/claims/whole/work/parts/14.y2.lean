/-! ===== constructors: arrays, fields, calls ===== -/
section YA
variable {G : zG} {R : Room} {kc ks : Nat} {Z : State → Array Value → List Frame → State → Prop} {M Mc : zM} {pc pc' : Nat} {L L' : List (Option zV)} {st : List zV}
theorem yarr_P {n : Nat} {h : zH} {H H1 : Heap} (P : va_P (zgD G) vwCl (yws G (n, h)) H) (hsz : H.size = zgB G + n) (o1 : ∀ q, q < zgB G + n → H1[q]? = H[q]?) (e1 : va_at (zgD G) vwCl (zgB G + n, ycell G h n) H1) : va_P (zgD G) vwCl (yws G (n + 1, h)) H1 := by
  have hk : ∀ (k : Nat) (x : Nat × va_E), (yws G (n, h))[k]? = some x → H1[x.1]? = H[x.1]? := fun k x hx => o1 x.1 (by rw [← hsz]; exact (P k x hx).lt)
  rw [yws_push]
  refine (P.kept hk).app (fun k x hx => ?_)
  have hz : k < 1 := (List.getElem?_eq_some_iff.mp hx).1
  rw [show k = 0 by omega] at hx
  cases hx
  exact e1
theorem yblank_arr {n : Nat} {h : zH} (o : yok (n, h)) (hk : zkdN n = 13 ∨ zkdN n = 14 ∨ zkdN n = 15) (j : Nat) : h n j = 0 := by
  have e0 : h n j = ybl n j := o.2 n j (Int.le_refl _)
  rw [e0]
  unfold ybl zkd
  rw [Int.toNat_natCast, if_neg (by omega), if_neg (by omega)]
theorem yblank_ref {n : Nat} {h : zH} (o : yok (n, h)) (hk : zkdN n = 16 ∨ zkdN n = 17) (j : Nat) : h n j = -1 := by
  have e0 : h n j = ybl n j := o.2 n j (Int.le_refl _)
  rw [e0]
  unfold ybl zkd
  rw [Int.toNat_natCast, if_neg (by omega), if_pos hk]
theorem y_newI {n : Nat} {h : zH} {x r : Int} (hw : Cond.arrayClass .int ∈ zUU) (hd : decode M.2.1 pc = .ok (.newarray .int, 2)) {N : Nat} (hn : n < 526 ∧ zkdN n = 13 ∧ zlnN n = N ∧ (N : Int) = x) (hR : kc + 1 ≤ R.cells ∧ ks + N ≤ R.slots) (hr : (n : Int) = r) (hp : pc + 2 = pc') (k : yB G R (kc + 1) (ks + N) Z M pc' L (vr 13 r :: st) (n + 1, h)) : yB G R kc ks Z M pc L (vi x :: st) (n, h) := by
  subst hp
  subst hr
  obtain ⟨hn1, hn2, rfl, rfl⟩ := hn
  intro o vs vl p e s m args below meth c H locs ls F P S Lv hs hin T0 hT X
  have hsz : H.size = zgB G + n := ysize F.2.2.2.2.2.2.2.2.2.2.2.2.2.1 P S hs hT X
  have hts := F.2.2.2.2.2.2.1
  have hsm := zln_small n hn1
  have hcv : zcv G (vr 13 (n : Int)) = .ref (zgB G + n) := by rw [zcv_r G 13 n (by omega), Int.toNat_natCast]
  suffices KW : W p (zgl G) e R s m args below meth c H locs kc ks (Z s args below) (F0 m pc ls ((vi (zlnN n : Int) :: st).map (zcv G))) from KW T0 hT X
  refine va_newaK (atype := .int) F.1 F.2.1 (hts _ hw) rfl hd (n := Int32.ofInt (zlnN n : Int)) (N := zlnN n) rfl (by rw [zofInt]; exact nI_pos (by omega)) (by rw [zofInt, nI_clamp (by omega)]) (by show zlnN n * 4 ≤ _; omega) hR.1 hR.2 hsz (fun H1 cA e1 z1 o1 hAr hNm => ?_)
  have ecA : cA = zgC G 13 := Option.some.inj (hNm.symm.trans (F.2.2.2.2.2.2.2.1.2 0 _ rfl).2)
  subst ecA
  have P1 := yarr_P P hsz o1 (by
    unfold ycell
    rw [if_pos hn2]
    show H1[zgB G + n]? = some (arrV (zgC G 13) (zlnN n) (fun j => .int (Int32.ofInt (h n j))))
    rw [e1]
    congr 2
    funext j
    rw [yblank_arr o (Or.inl hn2) j]
    rfl)
  have K := k (yok_new o hn1) (zvs_c (zvok_mk (by omega) hn1 hn2) (zvs_t vs)) vl p e s m args below meth c H1 locs ls F P1 ⟨Nat.le_trans S.1 (by omega), fun x h1 h2 => (o1 x (by have := S.1; omega)).trans (S.2.1 x h1 h2), S.2.2⟩ Lv (by have hs' : s.heap.size + kc = zgB G + n := hs; show s.heap.size + (kc + 1) = zgB G + (n + 1); omega) hin
  rw [List.map_cons, hcv] at K
  exact K
theorem y_newJ {n : Nat} {h : zH} {x r : Int} (hw : Cond.arrayClass .long ∈ zUU) (hd : decode M.2.1 pc = .ok (.newarray .long, 2)) {N : Nat} (hn : n < 526 ∧ zkdN n = 14 ∧ zlnN n = N ∧ (N : Int) = x) (hR : kc + 1 ≤ R.cells ∧ ks + N ≤ R.slots) (hr : (n : Int) = r) (hp : pc + 2 = pc') (k : yB G R (kc + 1) (ks + N) Z M pc' L (vr 14 r :: st) (n + 1, h)) : yB G R kc ks Z M pc L (vi x :: st) (n, h) := by
  subst hp
  subst hr
  obtain ⟨hn1, hn2, rfl, rfl⟩ := hn
  intro o vs vl p e s m args below meth c H locs ls F P S Lv hs hin T0 hT X
  have hsz : H.size = zgB G + n := ysize F.2.2.2.2.2.2.2.2.2.2.2.2.2.1 P S hs hT X
  have hts := F.2.2.2.2.2.2.1
  have hsm := zln_small n hn1
  have hcv : zcv G (vr 14 (n : Int)) = .ref (zgB G + n) := by rw [zcv_r G 14 n (by omega), Int.toNat_natCast]
  suffices KW : W p (zgl G) e R s m args below meth c H locs kc ks (Z s args below) (F0 m pc ls ((vi (zlnN n : Int) :: st).map (zcv G))) from KW T0 hT X
  refine va_newaK (atype := .long) F.1 F.2.1 (hts _ hw) rfl hd (n := Int32.ofInt (zlnN n : Int)) (N := zlnN n) rfl (by rw [zofInt]; exact nI_pos (by omega)) (by rw [zofInt, nI_clamp (by omega)]) (by show zlnN n * 8 ≤ _; omega) hR.1 hR.2 hsz (fun H1 cA e1 z1 o1 hAr hNm => ?_)
  have ecA : cA = zgC G 14 := Option.some.inj (hNm.symm.trans (F.2.2.2.2.2.2.2.1.2 1 _ rfl).2)
  subst ecA
  have P1 := yarr_P P hsz o1 (by
    unfold ycell
    rw [if_neg (by omega), if_pos hn2]
    show H1[zgB G + n]? = some (arrV (zgC G 14) (zlnN n) (fun j => .long (Int64.ofInt (h n j))))
    rw [e1]
    congr 2
    funext j
    rw [yblank_arr o (Or.inr (Or.inl hn2)) j]
    rfl)
  have K := k (yok_new o hn1) (zvs_c (zvok_mk (by omega) hn1 hn2) (zvs_t vs)) vl p e s m args below meth c H1 locs ls F P1 ⟨Nat.le_trans S.1 (by omega), fun x h1 h2 => (o1 x (by have := S.1; omega)).trans (S.2.1 x h1 h2), S.2.2⟩ Lv (by have hs' : s.heap.size + kc = zgB G + n := hs; show s.heap.size + (kc + 1) = zgB G + (n + 1); omega) hin
  rw [List.map_cons, hcv] at K
  exact K
theorem y_newB {n : Nat} {h : zH} {x r : Int} (hw : Cond.arrayClass .byte ∈ zUU) (hd : decode M.2.1 pc = .ok (.newarray .byte, 2)) {N : Nat} (hn : n < 526 ∧ zkdN n = 15 ∧ zlnN n = N ∧ (N : Int) = x) (hR : kc + 1 ≤ R.cells ∧ ks + N ≤ R.slots) (hr : (n : Int) = r) (hp : pc + 2 = pc') (k : yB G R (kc + 1) (ks + N) Z M pc' L (vr 15 r :: st) (n + 1, h)) : yB G R kc ks Z M pc L (vi x :: st) (n, h) := by
  subst hp
  subst hr
  obtain ⟨hn1, hn2, rfl, rfl⟩ := hn
  intro o vs vl p e s m args below meth c H locs ls F P S Lv hs hin T0 hT X
  have hsz : H.size = zgB G + n := ysize F.2.2.2.2.2.2.2.2.2.2.2.2.2.1 P S hs hT X
  have hts := F.2.2.2.2.2.2.1
  have hsm := zln_small n hn1
  have hcv : zcv G (vr 15 (n : Int)) = .ref (zgB G + n) := by rw [zcv_r G 15 n (by omega), Int.toNat_natCast]
  suffices KW : W p (zgl G) e R s m args below meth c H locs kc ks (Z s args below) (F0 m pc ls ((vi (zlnN n : Int) :: st).map (zcv G))) from KW T0 hT X
  refine va_newaK (atype := .byte) F.1 F.2.1 (hts _ hw) rfl hd (n := Int32.ofInt (zlnN n : Int)) (N := zlnN n) rfl (by rw [zofInt]; exact nI_pos (by omega)) (by rw [zofInt, nI_clamp (by omega)]) (by show zlnN n * 1 ≤ _; omega) hR.1 hR.2 hsz (fun H1 cA e1 z1 o1 hAr hNm => ?_)
  have ecA : cA = zgC G 15 := Option.some.inj (hNm.symm.trans (F.2.2.2.2.2.2.2.1.2 2 _ rfl).2)
  subst ecA
  have P1 := yarr_P P hsz o1 (by
    unfold ycell
    rw [if_neg (by omega), if_neg (by omega), if_pos hn2]
    show H1[zgB G + n]? = some (arrV (zgC G 15) (zlnN n) (fun j => .int (Int32.ofInt (h n j))))
    rw [e1]
    congr 2
    funext j
    rw [yblank_arr o (Or.inr (Or.inr hn2)) j]
    rfl)
  have K := k (yok_new o hn1) (zvs_c (zvok_mk (by omega) hn1 hn2) (zvs_t vs)) vl p e s m args below meth c H1 locs ls F P1 ⟨Nat.le_trans S.1 (by omega), fun x h1 h2 => (o1 x (by have := S.1; omega)).trans (S.2.1 x h1 h2), S.2.2⟩ Lv (by have hs' : s.heap.size + kc = zgB G + n := hs; show s.heap.size + (kc + 1) = zgB G + (n + 1); omega) hin
  rw [List.map_cons, hcv] at K
  exact K
/-- an array of references: of kind t, its component C, its place in ztys -/
theorem y_anew {n idx : Nat} {h : zH} {x r : Int} (t : Nat) {C : String} (tp : Nat) (ht : (t = 16 ∧ tp = 3 ∧ C = "RangedMachines$LetterSet") ∨ (t = 17 ∧ tp = 4 ∧ C = "RangedMachines$Machine")) (hcl : Cond.classLink M.1.cls idx C ∈ zUU) (hd : decode M.2.1 pc = .ok (.anewarray idx, 3)) {N : Nat} (hn : n < 526 ∧ zkdN n = t ∧ zlnN n = N ∧ (N : Int) = x) (hR : kc + 1 ≤ R.cells ∧ ks + N ≤ R.slots) (hr : (n : Int) = r) (hp : pc + 3 = pc') (k : yB G R (kc + 1) (ks + N) Z M pc' L (vr t r :: st) (n + 1, h)) : yB G R kc ks Z M pc L (vi x :: st) (n, h) := by
  subst hp
  subst hr
  obtain ⟨hn1, hn2, rfl, rfl⟩ := hn
  intro o vs vl p e s m args below meth c H locs ls F P S Lv hs hin T0 hT X
  have hsz : H.size = zgB G + n := ysize F.2.2.2.2.2.2.2.2.2.2.2.2.2.1 P S hs hT X
  have hts := F.2.2.2.2.2.2.1
  have hsm := zln_small n hn1
  have hcv : zcv G (vr t (n : Int)) = .ref (zgB G + n) := by rw [zcv_r G t n (by omega), Int.toNat_natCast]
  have hcl9 : (Int32.ofInt (zlnN n : Int)).toNatClampNeg = zlnN n := by rw [zofInt, nI_clamp (by omega)]
  suffices KW : W p (zgl G) e R s m args below meth c H locs kc ks (Z s args below) (F0 m pc ls ((vi (zlnN n : Int) :: st).map (zcv G))) from KW T0 hT X
  refine W.anew F.1 F.2.1 F.2.2.2.2.2.1 (hts _ hcl) (va_AO.use (show va_AO C s from by rcases ht with ⟨-, -, rfl⟩ | ⟨-, -, rfl⟩ <;> first | exact hin.2.1 | exact hin.2.2)) rfl hd (n := Int32.ofInt (zlnN n : Int)) rfl (by rw [zofInt]; exact nI_pos (by omega)) (by rw [hcl9]; omega) hR.1 (by rw [hcl9]; exact hR.2) (fun cA kA comp f1 f2 f3 f4 => ?_)
  rw [hcl9]
  have ecA : cA = zgC G t := by
    rcases ht with ⟨rfl, rfl, rfl⟩ | ⟨rfl, rfl, rfl⟩
    · obtain ⟨kA9, comp9, g1, g2, g3, g4⟩ := (F.2.2.2.2.2.2.2.1.2 3 _ rfl).2
      exact Option.some.inj (f1.symm.trans g4)
    · obtain ⟨kA9, comp9, g1, g2, g3, g4⟩ := (F.2.2.2.2.2.2.2.1.2 4 _ rfl).2
      exact Option.some.inj (f1.symm.trans g4)
  subst ecA
  generalize hH1 : H.push ({ cls := zgC G t, slots := Array.replicate (zlnN n) .null, vm := .none } : Cell) = H1
  have z1 : H1.size = H.size + 1 := by rw [← hH1, Array.size_push]
  have e1 : H1[H.size]? = some (arrV (zgC G t) (zlnN n) (fun _ => .null)) := by rw [← hH1, Array.getElem?_push_size, ← arrV_new]
  have o1 : ∀ q : Nat, q < zgB G + n → H1[q]? = H[q]? := fun q hq => by rw [← hH1, Array.getElem?_push, if_neg (by omega)]
  have hrow : yrow G h n = fun _ => none := by
    funext j
    unfold yrow
    rw [yblank_ref o (by omega) j, if_pos (by decide)]
  have P1 := yarr_P P hsz o1 (by
    have hcell : ycell G h n = .inl (zgC G t, zlnN n, .inr (.inr (.inr (.inr (yrow G h n))))) := by
      unfold ycell
      rcases ht with ⟨rfl, -⟩ | ⟨rfl, -⟩
      · rw [if_neg (by omega), if_neg (by omega), if_neg (by omega), if_pos hn2]
      · rw [if_neg (by omega), if_neg (by omega), if_neg (by omega), if_neg (by omega), if_pos hn2]
    rw [hcell, hrow]
    show H1[zgB G + n]? = some (vp_cell _ _)
    rw [vp_cell_q, ← hsz]
    exact e1)
  have K := k (yok_new o hn1) (zvs_c (zvok_mk (by omega) hn1 hn2) (zvs_t vs)) vl p e s m args below meth c H1 locs ls F P1 ⟨Nat.le_trans S.1 (by omega), fun x h1 h2 => (o1 x (by have := S.1; omega)).trans (S.2.1 x h1 h2), S.2.2⟩ Lv (by have hs' : s.heap.size + kc = zgB G + n := hs; show s.heap.size + (kc + 1) = zgB G + (n + 1); omega) hin
  rw [List.map_cons, hcv, ← hsz] at K
  exact K
end YA
