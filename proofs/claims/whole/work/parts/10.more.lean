/-! ===== arraycopy, lookupswitch ===== -/
def zcp (h : zH) (a b n : Int) : zH := fun x y => if x = b ∧ 0 ≤ y ∧ y < n then h a y else h x y
theorem zws_set2 (G : zG) (h h' : zH) (k : Nat) (hh : ∀ a : Int, a ≠ k → h' a = h a) : (zws G h).set k (zgB G + k, zcell G h' k) = zws G h' := by
  apply List.ext_getElem?
  intro j
  rw [List.getElem?_set]
  by_cases hj : j < 526
  · rw [zws_get G h' hj]
    by_cases e : k = j
    · subst e
      rw [if_pos rfl, if_pos (by unfold zws; rw [List.length_map, List.length_range]; exact hj)]
    · rw [if_neg e, zws_get G h hj]
      unfold zcell
      rw [hh j (fun q => e (Int.ofNat.inj q).symm)]
  · have hn : ∀ h' : zH, (zws G h')[j]? = none := fun h' => List.getElem?_eq_none (by unfold zws; rw [List.length_map, List.length_range]; exact Nat.not_lt.mp hj)
    rw [hn, hn]
    by_cases e : k = j
    · rw [if_pos e, if_neg (by unfold zws; rw [List.length_map, List.length_range]; show ¬ k < 526; omega)]
    · rw [if_neg e]
section ZX
variable {G : zG} {R : Room} {kc ks : Nat} {Z : State → Array Value → List Frame → State → Prop} {M : zM} {pc pc' : Nat} {L : List (Option zV)} {st : List zV} {h : zH}
theorem z_copy {idx : Nat} {a b n : Int} (hl : Cond.methodLink M.1.cls idx arraycopyName ∈ zUU) (hnat : Cond.native arraycopyName ∈ zUU) (hst : Cond.static arraycopyName ∈ zUU) (hini : Cond.initialized "java/lang/System" ∈ zUU) (hd : decode M.2.1 pc = .ok (.invokestatic idx, 3)) (hn : 0 ≤ n ∧ n ≤ zln a ∧ n ≤ zln b) (hR : 1 ≤ R.frames ∧ zcat st + (nativeFrameWords "java/lang/System" "arraycopy" 5 + 11) ≤ R.locals) (hp : pc + 3 = pc') (k : zB G R kc ks Z M pc' L st (zcp h a b n)) : zB G R kc ks Z M pc L (vi n :: vi 0 :: vr 13 b :: vi 0 :: vr 13 a :: st) h := by
  subst hp
  intro o vs vl p e s m args below meth c H locs ls F P S Lv
  have hts := F.2.2.2.2.2.2.1
  obtain ⟨x, rfl, hx, hkx⟩ := zvok_r (by omega) (zvs_h (zvs_t (zvs_t (zvs_t (zvs_t vs)))))
  obtain ⟨y, rfl, hy, hky⟩ := zvok_r (by omega) (zvs_h (zvs_t (zvs_t vs)))
  have lx : zln (x : Int) = (zlnN x : Int) := by unfold zln; rw [Int.toNat_natCast]
  have ly : zln (y : Int) = (zlnN y : Int) := by unfold zln; rw [Int.toNat_natCast]
  have sx := zln_small x hx
  obtain ⟨j, rfl⟩ : ∃ j : Nat, n = j := ⟨n.toNat, by omega⟩
  have hj : (Int32.ofInt (j : Int)).toNatClampNeg = j := by rw [zofInt, nI_clamp (by omega)]
  have h0 : (Int32.ofInt (0 : Int)).toNatClampNeg = 0 := rfl
  refine va_copyi F.1 F.2.1 (F.2.2.1.trans Lv.1.1.symm) F.2.2.2.2.2.1 (hts _ hl) (hts _ hnat) (hts _ hst) (hts _ hini) F.2.2.2.2.2.2.2.1 P (zws_D G h) S x y 0 0 (ty := .int) (by rw [zws_get G h hx, zcell_13 G h hkx]; rfl) (by rw [zws_get G h hy, zcell_13 G h hky]; rfl) rfl rfl rfl (by decide) (by decide) (by rw [zofInt]; exact nI_pos (by omega)) (by rw [hj, h0]; omega) (by rw [hj, h0]; omega) (fun _ _ => rfl) hR.1 (by rw [zcat_ok]; exact hR.2) hd (fun H1 locs1 P1 D1 S1 => ?_)
  have hok : zok (zcp h x y j) := by
    intro q hq i hi
    unfold zcp
    by_cases e9 : (q : Int) = y ∧ 0 ≤ (i : Int) ∧ (i : Int) < j
    · have e8 : q = y := Int.ofNat.inj e9.1
      subst e8
      rw [if_pos e9]
      exact ⟨fun z => absurd z (by omega), fun z => absurd z (by omega), fun z => absurd z (by omega), fun z => absurd z (by omega)⟩
    · rw [if_neg e9]
      exact o q hq i hi
  refine k hok (zvs_t (zvs_t (zvs_t (zvs_t (zvs_t vs))))) vl p e s m args below meth c H1 locs1 ls F ?_ S1 Lv
  rw [hj, h0] at P1
  rw [← zws_set2 G h (zcp h x y j) y (fun a ha => by funext i; unfold zcp; rw [if_neg (fun z => ha z.1)]), zcell_13 G _ hky]
  have ef : (fun i : Nat => Int32.ofInt (zcp h x y j y i)) = va_cpy (fun i : Nat => Int32.ofInt (h x i)) (fun i : Nat => Int32.ofInt (h y i)) 0 0 j := by
    funext i
    unfold zcp
    by_cases c : i < j
    · rw [if_pos ⟨rfl, by omega, by omega⟩, pk_cpy_in (by omega) (by omega)]
      congr 2
      omega
    · rw [if_neg (fun z => c (by omega)), pk_cpy_out (Or.inr (by omega))]
  rw [ef]
  exact P1
theorem z_lookup {dflt : Int} {ps : Array (Int × Int)} {len : Nat} {x : Int} {tgt : Nat} (hd : decode M.2.1 pc = .ok (.lookupswitch dflt ps, len)) (hx : zR x) (hs : (ps.toList.zip (ps.toList.drop 1)).all (fun (a, next) => a.1 < next.1) = true) (ht : (pc : Int) + Op.lookupswitch.offset ps.toList dflt x = (tgt : Int))
    (k : zB G R kc ks Z M tgt L st h) : zB G R kc ks Z M pc L (vi x :: st) h := by
  intro o vs vl p e s m args below meth c H locs ls F P S Lv
  exact lv_lookup F.1 F.2.1 hd hs (by rw [zI_toInt hx]) ht (k o (zvs_t vs) vl p e s m args below meth c H locs ls F P S Lv)
theorem z_mmax {idx : Nat} {x y z : Int} (hl : Cond.methodLink M.1.cls idx Lib.Math.max.name ∈ zUU) (hst : Cond.static Lib.Math.max.name ∈ zUU) (hini : Cond.initialized "java/lang/Math" ∈ zUU) (hc : Cond.code Lib.Math.max.name Lib.Math.max.code 2 (some .int) ∈ zUU) (hd : decode M.2.1 pc = .ok (.invokestatic idx, 3)) (hx : zR x) (hy : zR y) (hR : 1 ≤ R.frames ∧ zcat st + 13 ≤ R.locals ∧ kc ≤ R.cells ∧ ks ≤ R.slots) (hz : max x y = z) (hp : pc + 3 = pc') (k : zB G R kc ks Z M pc' L (vi z :: st) h) : zB G R kc ks Z M pc L (vi y :: vi x :: st) h := by
  subst hp
  subst hz
  intro o vs vl p e s m args below meth c H locs ls F P S Lv
  have hts := F.2.2.2.2.2.2.1
  have K := k o (zvs_i _ (zvs_t (zvs_t vs))) vl p e s m args below meth c H locs ls F P S Lv
  have e1 : Int32.ofInt (max x y) = if Int32.ofInt x < Int32.ofInt y then Int32.ofInt y else Int32.ofInt x := by
    by_cases q : x < y
    · rw [if_pos ((zI_lt hx hy).mpr q)]
      congr 1
      omega
    · rw [if_neg (fun z => q ((zI_lt hx hy).mp z))]
      congr 1
      omega
  rw [List.map_cons, zcv_i, e1] at K
  exact va_mmax F.1 F.2.1 (F.2.2.1.trans Lv.1.1.symm) F.2.2.2.2.2.1 (hts _ hl) (hts _ hst) (hts _ hini) (hts _ hc) hR.1 (by rw [zcat_ok]; exact hR.2.1) hR.2.2.1 hR.2.2.2 hd K
theorem z_mmin {idx : Nat} {x y z : Int} (hl : Cond.methodLink M.1.cls idx Lib.Math.min.name ∈ zUU) (hst : Cond.static Lib.Math.min.name ∈ zUU) (hini : Cond.initialized "java/lang/Math" ∈ zUU) (hc : Cond.code Lib.Math.min.name Lib.Math.min.code 2 (some .int) ∈ zUU) (hd : decode M.2.1 pc = .ok (.invokestatic idx, 3)) (hx : zR x) (hy : zR y) (hR : 1 ≤ R.frames ∧ zcat st + 13 ≤ R.locals ∧ kc ≤ R.cells ∧ ks ≤ R.slots) (hz : min x y = z) (hp : pc + 3 = pc') (k : zB G R kc ks Z M pc' L (vi z :: st) h) : zB G R kc ks Z M pc L (vi y :: vi x :: st) h := by
  subst hp
  subst hz
  intro o vs vl p e s m args below meth c H locs ls F P S Lv
  have hts := F.2.2.2.2.2.2.1
  have K := k o (zvs_i _ (zvs_t (zvs_t vs))) vl p e s m args below meth c H locs ls F P S Lv
  have e1 : Int32.ofInt (min x y) = if Int32.ofInt y < Int32.ofInt x then Int32.ofInt y else Int32.ofInt x := by
    by_cases q : y < x
    · rw [if_pos ((zI_lt hy hx).mpr q)]
      congr 1
      omega
    · rw [if_neg (fun z => q ((zI_lt hy hx).mp z))]
      congr 1
      omega
  rw [List.map_cons, zcv_i, e1] at K
  exact va_mmin F.1 F.2.1 (F.2.2.1.trans Lv.1.1.symm) F.2.2.2.2.2.1 (hts _ hl) (hts _ hst) (hts _ hini) (hts _ hc) hR.1 (by rw [zcat_ok]; exact hR.2.1) hR.2.2.1 hR.2.2.2 hd K
end ZX
