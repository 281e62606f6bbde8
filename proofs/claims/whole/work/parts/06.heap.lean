/-! ===== fields, arrays, returns, calls ===== -/
/-- a class of the layout: its name, fields, how many, their types -/
def zCls (ci : Nat) (C : String) (T : u_T) (N : Nat) (ty0 : Nat → FieldType) : Prop := ci < 13 ∧ vwCl[ci]? = some (C, T, N) ∧ (zfs ci).length = N ∧ (∀ w ∈ u_ws C T N, w ∈ zUU) ∧ (∀ k, k < N → parseFieldDescriptor (T k).2.2.1 = some (ty0 k)) ∧ (∀ a, a < N → ∀ b, b < N → a ≠ b → (T a).2.1 ≠ (T b).2.1) ∧ ∀ k, k < N → ((T k).2.2.2 = false → (zft ci k).2 = none) ∧ (ty0 k = .int → (zft ci k).1 = 0) ∧ (ty0 k = .long → (zft ci k).1 = 1) ∧ (ty0 k = .boolean → (zft ci k).1 = 2)
/-- a field by its link -/
def zFL (own : String) (idx ci j : Nat) : Prop := ∃ (C : String) (T : u_T) (N : Nat) (ty0 : Nat → FieldType), zCls ci C T N ty0 ∧ j < N ∧ Cond.fieldLink own idx (T j).1 (T j).2.1 (T j).2.2.1 ∈ zUU
/-- one that can be written, of a type -/
def zFW (own : String) (idx ci j : Nat) (ty : FieldType) : Prop := ∃ (C : String) (T : u_T) (N : Nat) (ty0 : Nat → FieldType), zCls ci C T N ty0 ∧ j < N ∧ Cond.fieldLink own idx (T j).1 (T j).2.1 (T j).2.2.1 ∈ zUU ∧ (T j).2.2.2 = false ∧ ty0 j = ty
theorem zcell_obj (G : zG) (h : zH) {k ci : Nat} (hk : zkdN k = ci) (hci : ci < 13) : zcell G h k = .inr (ci, (List.range (zfs ci).length).map (fun j => zfv G (zft ci j).1 (h k j))) := by
  subst hk
  unfold zcell
  rw [if_neg (by omega), if_neg (by omega), if_neg (by omega), if_neg (by omega), if_neg (by omega)]
theorem zcell_13 (G : zG) (h : zH) {k : Nat} (hk : zkdN k = 13) : zcell G h k = .inl (zgC G 13, zlnN k, .inl (fun j => Int32.ofInt (h k j))) := by
  unfold zcell
  rw [if_pos hk]
theorem zcell_14 (G : zG) (h : zH) {k : Nat} (hk : zkdN k = 14) : zcell G h k = .inl (zgC G 14, zlnN k, .inr (.inl (fun j => Int64.ofInt (h k j)))) := by
  unfold zcell
  rw [if_neg (by omega), if_pos hk]
theorem zcell_15 (G : zG) (h : zH) {k : Nat} (hk : zkdN k = 15) : zcell G h k = .inl (zgC G 15, zlnN k, .inl (fun j => Int32.ofInt (h k j))) := by
  unfold zcell
  rw [if_neg (by omega), if_neg (by omega), if_pos hk]
theorem zcell_16 (G : zG) (h : zH) {k : Nat} (hk : zkdN k = 16) : zcell G h k = .inl (zgC G 16, zlnN k, .inr (.inr (.inr (.inr (fun j => some (zgB G + (h k j).toNat)))))) := by
  unfold zcell
  rw [if_neg (by omega), if_neg (by omega), if_neg (by omega), if_pos hk]
theorem zcell_17 (G : zG) (h : zH) {k : Nat} (hk : zkdN k = 17) : zcell G h k = .inl (zgC G 17, zlnN k, .inr (.inr (.inr (.inr (fun j => some (zgB G + (h k j).toNat)))))) := by
  unfold zcell
  rw [if_neg (by omega), if_neg (by omega), if_neg (by omega), if_neg (by omega), if_pos hk]
theorem zrange_at {α : Type} (f : Nat → α) {n j : Nat} (hj : j < n) : ((List.range n).map f)[j]? = some (f j) := by
  rw [List.getElem?_map, List.getElem?_range hj]
  rfl
theorem zrange_set {α : Type} (f : Nat → α) {n j : Nat} (v : α) : ((List.range n).map f).set j v = (List.range n).map (fun i => if i = j then v else f i) := by
  apply List.ext_getElem?
  intro i
  rw [List.getElem?_set]
  by_cases hi : i < n
  · rw [zrange_at (fun i => if i = j then v else f i) hi]
    by_cases e : j = i
    · rw [if_pos e, if_pos (by rw [List.length_map, List.length_range]; omega), if_pos e.symm]
    · rw [if_neg e, zrange_at f hi, if_neg (fun q => e q.symm)]
  · have hn : ∀ g : Nat → α, ((List.range n).map g)[i]? = none := fun g => List.getElem?_eq_none (by rw [List.length_map, List.length_range]; omega)
    rw [hn, hn]
    by_cases e : j = i
    · rw [if_pos e, if_neg (by rw [List.length_map, List.length_range]; omega)]
    · rw [if_neg e]
section ZH
variable {G : zG} {R : Room} {kc ks : Nat} {Z : State → Array Value → List Frame → State → Prop} {M : zM} {pc pc' : Nat} {L L' : List (Option zV)} {st : List zV} {h : zH}
theorem z_getAny {idx ci j : Nat} {r : Int} {v : zV} (hw : zFL M.1.cls idx ci j) (hd : decode M.2.1 pc = .ok (.getfield idx, 3)) (hv : ∀ k : Nat, r = k → k < 526 → zkdN k = ci → zok h → zvok v ∧ zcv G v = zfv G (zft ci j).1 (h k j)) (hp : pc + 3 = pc') (k : zB G R kc ks Z M pc' L (v :: st) h) : zB G R kc ks Z M pc L (vr ci r :: st) h := by
  subst hp
  intro o vs vl p e s m args below meth c H locs ls F P S Lv
  obtain ⟨C, T, N, ty0, hC, hj, hl⟩ := hw
  obtain ⟨hci, hcl, hN, hin, hty, hnm, -⟩ := hC
  obtain ⟨a, rfl, ha, hka⟩ := zvok_r (by omega) (zvs_h vs)
  obtain ⟨hv1, hv2⟩ := hv a rfl ha hka o
  have K := k o (zvs_c hv1 (zvs_t vs)) vl p e s m args below meth c H locs ls F P S Lv
  rw [List.map_cons, hv2] at K
  rw [List.map_cons, zcv_r G ci a (by omega), Int.toNat_natCast]
  exact va_get F.1 F.2.1 (C := C) (T := T) (N := N) (Ts := zUU) F.2.2.2.2.2.2.1 hin F.2.2.2.2.2.1 F.2.2.2.2.2.2.2.1 P a (by rw [zws_get G h ha, zcell_obj G h hka hci]) hcl j hj (F.2.2.2.2.2.2.1 _ hl) (fun _ q => q) (zrange_at _ (by omega)) hd K
theorem z_getI {idx j : Nat} (ci : Nat) {r x : Int} (hw : zFL M.1.cls idx ci j) (ht : (zft ci j).1 = 0) (hd : decode M.2.1 pc = .ok (.getfield idx, 3)) (hx : h r j = x) (hp : pc + 3 = pc') (k : zB G R kc ks Z M pc' L (vi x :: st) h) : zB G R kc ks Z M pc L (vr ci r :: st) h :=
  z_getAny hw hd (fun a ha _ _ _ => ⟨Or.inl rfl, by subst ha; subst hx; rw [ht]; rfl⟩) hp k
theorem z_getZ {idx j : Nat} (ci : Nat) {r x : Int} (hw : zFL M.1.cls idx ci j) (ht : (zft ci j).1 = 2) (hd : decode M.2.1 pc = .ok (.getfield idx, 3)) (hx : h r j = x) (hp : pc + 3 = pc') (k : zB G R kc ks Z M pc' L (vi x :: st) h) : zB G R kc ks Z M pc L (vr ci r :: st) h :=
  z_getAny hw hd (fun a ha _ _ _ => ⟨Or.inl rfl, by subst ha; subst hx; rw [ht]; rfl⟩) hp k
theorem z_getL {idx j : Nat} (ci : Nat) {r x : Int} (hw : zFL M.1.cls idx ci j) (ht : (zft ci j).1 = 1) (hd : decode M.2.1 pc = .ok (.getfield idx, 3)) (hx : h r j = x) (hp : pc + 3 = pc') (k : zB G R kc ks Z M pc' L (vl x :: st) h) : zB G R kc ks Z M pc L (vr ci r :: st) h :=
  z_getAny hw hd (fun a ha _ _ _ => ⟨Or.inr (Or.inl rfl), by subst ha; subst hx; rw [ht]; rfl⟩) hp k
theorem zfv_r (G : zG) (t : Nat) (x : Int) (ht : t < 30) : zfv G (10 + t) x = zcv G (vr t x) := by
  rw [zcv_r G t x ht]
  unfold zfv
  rw [if_neg (by omega), if_neg (by omega), if_neg (by omega)]
/-- a final reference -/
theorem z_getF {idx j : Nat} (ci t : Nat) {r x o : Int} (hw : zFL M.1.cls idx ci j) (ht : zft ci j = (10 + t, some o)) (hd : decode M.2.1 pc = .ok (.getfield idx, 3)) (hx : r + o = x) (hp : pc + 3 = pc') (k : zB G R kc ks Z M pc' L (vr t x :: st) h) : zB G R kc ks Z M pc L (vr ci r :: st) h := by
  obtain ⟨C, T, N, ty0, hC, hj, hl⟩ := id hw
  have ht1 : t < 18 := by
    have := zft_lt ci hC.1 j (by rw [hC.2.2.1]; exact hj)
    rw [ht] at this
    dsimp only at this
    omega
  refine z_getAny hw hd (fun a ha hk hka hok => ?_) hp k
  subst ha
  have hz := (hok a hk j (by rw [zln_obj a hk (by rw [hka]; exact hC.1), hka, hC.2.2.1]; exact hj))
  rw [zfok, hka, ht] at hz
  have e1 := hz.1 hC.1 o rfl
  have e2 := hz.2.1 hC.1 (by show 10 ≤ 10 + t; omega)
  rw [e1, hx] at e2
  refine ⟨e2, ?_⟩
  rw [ht, e1, hx]
  exact (zfv_r G t x (by omega)).symm
/-- a reference that may change -/
theorem z_getR {idx j : Nat} (ci t : Nat) {r x : Int} (hw : zFL M.1.cls idx ci j) (ht : (zft ci j).1 = 10 + t) (hd : decode M.2.1 pc = .ok (.getfield idx, 3)) (hx : h r j = x) (hp : pc + 3 = pc') (k : zB G R kc ks Z M pc' L (vr t x :: st) h) : zB G R kc ks Z M pc L (vr ci r :: st) h := by
  obtain ⟨C, T, N, ty0, hC, hj, hl⟩ := id hw
  have ht1 : t < 18 := by
    have := zft_lt ci hC.1 j (by rw [hC.2.2.1]; exact hj)
    rw [ht] at this
    omega
  refine z_getAny hw hd (fun a ha hk hka hok => ?_) hp k
  subst ha
  subst hx
  have hz := (hok a hk j (by rw [zln_obj a hk (by rw [hka]; exact hC.1), hka, hC.2.2.1]; exact hj))
  rw [zfok, hka, ht] at hz
  refine ⟨hz.2.1 hC.1 (by omega), ?_⟩
  rw [ht]
  exact (zfv_r G t _ (by omega)).symm
theorem z_putAny {idx ci j : Nat} {ty : FieldType} {r x : Int} {v : zV} (hw : zFW M.1.cls idx ci j ty) (hd : decode M.2.1 pc = .ok (.putfield idx, 3)) (hv : zvok v → zcv G v = zfv G (zft ci j).1 x ∧ narrow ty (zcv G v) = zcv G v ∧ fits ty (zcv G v) = true ∧ (10 ≤ (zft ci j).1 → zvok ((zft ci j).1, x))) (hp : pc + 3 = pc') (k : zB G R kc ks Z M pc' L st (zup h r j x)) : zB G R kc ks Z M pc L (v :: vr ci r :: st) h := by
  subst hp
  intro o vs vl p e s m args below meth c H locs ls F P S Lv
  obtain ⟨C, T, N, ty0, hC, hj, hl, hf, hty9⟩ := hw
  obtain ⟨hci, hcl, hN, hin, hty, hnm, hfin⟩ := hC
  obtain ⟨a, rfl, ha, hka⟩ := zvok_r (by omega) (zvs_h (zvs_t vs))
  obtain ⟨hv1, hv2, hv3, hv4⟩ := hv (zvs_h vs)
  have hok : zok (zup h a j x) := zok_up o a j x (fun i hi => by
    have hi : i = j := (Int.ofNat.inj hi).symm
    subst hi
    refine ⟨fun _ o9 ho9 => ?_, fun _ h10 => ?_, fun q => absurd q (by omega), fun q => absurd q (by omega)⟩
    · rw [hka, (hfin i hj).1 hf] at ho9
      cases ho9
    · rw [hka] at h10 ⊢
      exact hv4 h10)
  rw [List.map_cons, List.map_cons, zcv_r G ci a (by omega), Int.toNat_natCast]
  refine va_put F.1 F.2.1 (C := C) (T := T) (N := N) (Ts := zUU) F.2.2.2.2.2.2.1 hin ty0 hty hnm F.2.2.2.2.2.1 F.2.2.2.2.2.2.2.1 P (zws_D G h) S a (by rw [zws_get G h ha, zcell_obj G h hka hci]) hcl j hj (F.2.2.2.2.2.2.1 _ hl) (fun _ q => q) hf (by rw [hty j hj, hty9]) hv2 hv3 (by rw [List.length_map, List.length_range]; omega) hd (fun H1 locs1 P1 D1 S1 => ?_)
  refine k hok (zvs_t (zvs_t vs)) vl p e s m args below meth c H1 locs1 ls F ?_ S1 Lv
  rw [zws_set G h a j x] at P1
  · exact P1
  · rw [zcell_obj G _ hka hci, zrange_set]
    congr 2
    apply List.map_congr_left
    intro i hi
    unfold zup
    by_cases e9 : i = j
    · subst e9
      rw [if_pos rfl, if_pos ⟨rfl, rfl⟩, hv1]
    · rw [if_neg e9, if_neg (fun q => e9 (Int.ofNat.inj q.2))]
theorem z_putI {idx j : Nat} (ci : Nat) {r x : Int} (hw : zFW M.1.cls idx ci j .int) (hd : decode M.2.1 pc = .ok (.putfield idx, 3)) (hp : pc + 3 = pc') (k : zB G R kc ks Z M pc' L st (zup h r j x)) : zB G R kc ks Z M pc L (vi x :: vr ci r :: st) h := by
  obtain ⟨C, T, N, ty0, hC, hj, hl, hf, hty9⟩ := id hw
  have ht := (hC.2.2.2.2.2.2 j hj).2.1 hty9
  exact z_putAny hw hd (fun _ => ⟨by rw [ht]; rfl, rfl, rfl, fun q => absurd q (by omega)⟩) hp k
theorem z_putZ {idx j : Nat} (ci : Nat) {r x : Int} (hw : zFW M.1.cls idx ci j .boolean) (hx : x = 0 ∨ x = 1) (hd : decode M.2.1 pc = .ok (.putfield idx, 3)) (hp : pc + 3 = pc') (k : zB G R kc ks Z M pc' L st (zup h r j x)) : zB G R kc ks Z M pc L (vi x :: vr ci r :: st) h := by
  obtain ⟨C, T, N, ty0, hC, hj, hl, hf, hty9⟩ := id hw
  have ht := (hC.2.2.2.2.2.2 j hj).2.2.2 hty9
  exact z_putAny hw hd (fun _ => ⟨by rw [ht]; rfl, by rcases hx with rfl | rfl <;> rfl, by rcases hx with rfl | rfl <;> rfl, fun q => absurd q (by omega)⟩) hp k
theorem z_putL {idx j : Nat} (ci : Nat) {r x : Int} (hw : zFW M.1.cls idx ci j .long) (hd : decode M.2.1 pc = .ok (.putfield idx, 3)) (hp : pc + 3 = pc') (k : zB G R kc ks Z M pc' L st (zup h r j x)) : zB G R kc ks Z M pc L (vl x :: vr ci r :: st) h := by
  obtain ⟨C, T, N, ty0, hC, hj, hl, hf, hty9⟩ := id hw
  have ht := (hC.2.2.2.2.2.2 j hj).2.2.1 hty9
  exact z_putAny hw hd (fun _ => ⟨by rw [ht]; rfl, rfl, rfl, fun q => absurd q (by omega)⟩) hp k
theorem z_putR {idx j : Nat} (ci t : Nat) {C9 : String} {r x : Int} (hw : zFW M.1.cls idx ci j (.object C9)) (ht : (zft ci j).1 = 10 + t) (ht9 : t < 18) (hd : decode M.2.1 pc = .ok (.putfield idx, 3)) (hp : pc + 3 = pc') (k : zB G R kc ks Z M pc' L st (zup h r j x)) : zB G R kc ks Z M pc L (vr t x :: vr ci r :: st) h :=
  z_putAny hw hd (fun hv => ⟨by rw [ht, zfv_r G t x (by omega)], by rw [zcv_r G t x (by omega)]; rfl, by rw [zcv_r G t x (by omega)]; rfl, fun _ => by rw [ht]; exact hv⟩) hp k
-- arrays
theorem zidx {k : Nat} {i : Int} (hk : k < 526) (hi : 0 ≤ i ∧ i < zln k) : ∃ j : Nat, i = j ∧ j < zlnN k ∧ vp_in (Int32.ofInt i) (zlnN k) ∧ (Int32.ofInt i).toNatClampNeg = j := by
  have hz : i < (zlnN k : Int) := by
    have := hi.2
    unfold zln at this
    rwa [Int.toNat_natCast] at this
  obtain ⟨h1, h2⟩ := zI_nat hi.1 hz (zln_small k hk)
  exact ⟨i.toNat, by omega, by omega, h1, h2⟩
theorem z_iald {r i x : Int} (hd : decode M.2.1 pc = .ok (.iaload, 1)) (hi : 0 ≤ i ∧ i < zln r) (hx : h r i = x) (hp : pc + 1 = pc') (k : zB G R kc ks Z M pc' L (vi x :: st) h) : zB G R kc ks Z M pc L (vi i :: vr 13 r :: st) h := by
  subst hp
  subst hx
  intro o vs vl p e s m args below meth c H locs ls F P S Lv
  obtain ⟨a, rfl, ha, hka⟩ := zvok_r (by omega) (zvs_h (zvs_t vs))
  obtain ⟨j, rfl, hj, h1, h2⟩ := zidx ha hi
  have K := k o (zvs_i _ (zvs_t (zvs_t vs))) vl p e s m args below meth c H locs ls F P S Lv
  have hP := va_iald F.1 F.2.1 (rest := st.map (zcv G)) F.2.2.2.2.2.2.2.1 P a 0 (by rw [zws_get G h ha, zcell_13 G h hka]) rfl h1 hd (by rw [h2]; exact K)
  exact hP
theorem z_bald {r i x : Int} (hd : decode M.2.1 pc = .ok (.baload, 1)) (hi : 0 ≤ i ∧ i < zln r) (hx : h r i = x) (hp : pc + 1 = pc') (k : zB G R kc ks Z M pc' L (vi x :: st) h) : zB G R kc ks Z M pc L (vi i :: vr 15 r :: st) h := by
  subst hp
  subst hx
  intro o vs vl p e s m args below meth c H locs ls F P S Lv
  obtain ⟨a, rfl, ha, hka⟩ := zvok_r (by omega) (zvs_h (zvs_t vs))
  obtain ⟨j, rfl, hj, h1, h2⟩ := zidx ha hi
  have K := k o (zvs_i _ (zvs_t (zvs_t vs))) vl p e s m args below meth c H locs ls F P S Lv
  have hP := va_bald F.1 F.2.1 (rest := st.map (zcv G)) F.2.2.2.2.2.2.2.1 P a 2 (by rw [zws_get G h ha, zcell_15 G h hka]) rfl h1 hd (by rw [h2]; exact K)
  exact hP
theorem z_lald {r i x : Int} (hd : decode M.2.1 pc = .ok (.laload, 1)) (hi : 0 ≤ i ∧ i < zln r) (hx : h r i = x) (hp : pc + 1 = pc') (k : zB G R kc ks Z M pc' L (vl x :: st) h) : zB G R kc ks Z M pc L (vi i :: vr 14 r :: st) h := by
  subst hp
  subst hx
  intro o vs vl p e s m args below meth c H locs ls F P S Lv
  obtain ⟨a, rfl, ha, hka⟩ := zvok_r (by omega) (zvs_h (zvs_t vs))
  obtain ⟨j, rfl, hj, h1, h2⟩ := zidx ha hi
  have K := k o (zvs_l _ (zvs_t (zvs_t vs))) vl p e s m args below meth c H locs ls F P S Lv
  have hP := va_lald F.1 F.2.1 (rest := st.map (zcv G)) F.2.2.2.2.2.2.2.1 P a 1 (by rw [zws_get G h ha, zcell_14 G h hka]) rfl h1 hd (by rw [h2]; exact K)
  exact hP
theorem zarrok {h : zH} (o : zok h) {a j t : Nat} (ha : a < 526) (hj : j < zlnN a) (hk : (zkdN a = 16 ∧ t = 3) ∨ (zkdN a = 17 ∧ t = 4)) : zvok (vr t (h a j)) := by
  have hz := o a ha j hj
  rcases hk with ⟨h1, rfl⟩ | ⟨h1, rfl⟩
  · exact hz.2.2.1 h1
  · exact hz.2.2.2 h1
theorem z_aald16 {r i x : Int} (hd : decode M.2.1 pc = .ok (.aaload, 1)) (hi : 0 ≤ i ∧ i < zln r) (hx : h r i = x) (hp : pc + 1 = pc') (k : zB G R kc ks Z M pc' L (vr 3 x :: st) h) : zB G R kc ks Z M pc L (vi i :: vr 16 r :: st) h := by
  subst hp
  subst hx
  intro o vs vl p e s m args below meth c H locs ls F P S Lv
  obtain ⟨a, rfl, ha, hka⟩ := zvok_r (by omega) (zvs_h (zvs_t vs))
  obtain ⟨j, rfl, hj, h1, h2⟩ := zidx ha hi
  have K := k o (zvs_c (zarrok o ha hj (Or.inl ⟨hka, rfl⟩)) (zvs_t (zvs_t vs))) vl p e s m args below meth c H locs ls F P S Lv
  have hP := va_aldq F.1 F.2.1 (rest := st.map (zcv G)) F.2.2.2.2.2.2.2.1 P a 3 (by rw [zws_get G h ha, zcell_16 G h hka]) rfl h1 hd (by rw [h2]; exact K)
  exact hP
theorem z_aald17 {r i x : Int} (hd : decode M.2.1 pc = .ok (.aaload, 1)) (hi : 0 ≤ i ∧ i < zln r) (hx : h r i = x) (hp : pc + 1 = pc') (k : zB G R kc ks Z M pc' L (vr 4 x :: st) h) : zB G R kc ks Z M pc L (vi i :: vr 17 r :: st) h := by
  subst hp
  subst hx
  intro o vs vl p e s m args below meth c H locs ls F P S Lv
  obtain ⟨a, rfl, ha, hka⟩ := zvok_r (by omega) (zvs_h (zvs_t vs))
  obtain ⟨j, rfl, hj, h1, h2⟩ := zidx ha hi
  have K := k o (zvs_c (zarrok o ha hj (Or.inr ⟨hka, rfl⟩)) (zvs_t (zvs_t vs))) vl p e s m args below meth c H locs ls F P S Lv
  have hP := va_aldq F.1 F.2.1 (rest := st.map (zcv G)) F.2.2.2.2.2.2.2.1 P a 4 (by rw [zws_get G h ha, zcell_17 G h hka]) rfl h1 hd (by rw [h2]; exact K)
  exact hP
theorem zok_arr {h : zH} (o : zok h) {a : Nat} (i x : Int) (hk : zkdN a = 13 ∨ zkdN a = 14 ∨ zkdN a = 15) : zok (zup h a i x) :=
  zok_up o a i x (fun j _ => ⟨fun q => absurd q (by omega), fun q => absurd q (by omega), fun q => absurd q (by omega), fun q => absurd q (by omega)⟩)
theorem zupd_fn {α : Type} (f : Int → α) (h : zH) (a j : Nat) (x : Int) : (fun i : Nat => f (zup h a j x a i)) = fun i : Nat => if i = j then f x else f (h a i) := by
  funext i
  unfold zup
  by_cases e : i = j
  · subst e
    rw [if_pos ⟨rfl, rfl⟩, if_pos rfl]
  · rw [if_neg (fun q => e (Int.ofNat.inj q.2)), if_neg e]
theorem z_iast {r i x : Int} (hd : decode M.2.1 pc = .ok (.iastore, 1)) (hi : 0 ≤ i ∧ i < zln r) (hp : pc + 1 = pc') (k : zB G R kc ks Z M pc' L st (zup h r i x)) : zB G R kc ks Z M pc L (vi x :: vi i :: vr 13 r :: st) h := by
  subst hp
  intro o vs vl p e s m args below meth c H locs ls F P S Lv
  obtain ⟨a, rfl, ha, hka⟩ := zvok_r (by omega) (zvs_h (zvs_t (zvs_t vs)))
  obtain ⟨j, rfl, hj, h1, h2⟩ := zidx ha hi
  refine va_iast F.1 F.2.1 (rest := st.map (zcv G)) F.2.2.2.2.2.2.2.1 P (zws_D G h) S a 0 (by rw [zws_get G h ha, zcell_13 G h hka]; rfl) rfl h1 hd (fun H1 locs1 P1 D1 S1 => ?_)
  refine k (zok_arr o j x (Or.inl hka)) (zvs_t (zvs_t (zvs_t vs))) vl p e s m args below meth c H1 locs1 ls F ?_ S1 Lv
  rw [h2] at P1
  rw [← zws_set G h a j x _ rfl, zcell_13 G _ hka, zupd_fn Int32.ofInt]
  exact P1
theorem z_last {r i x : Int} (hd : decode M.2.1 pc = .ok (.lastore, 1)) (hi : 0 ≤ i ∧ i < zln r) (hp : pc + 1 = pc') (k : zB G R kc ks Z M pc' L st (zup h r i x)) : zB G R kc ks Z M pc L (vl x :: vi i :: vr 14 r :: st) h := by
  subst hp
  intro o vs vl p e s m args below meth c H locs ls F P S Lv
  obtain ⟨a, rfl, ha, hka⟩ := zvok_r (by omega) (zvs_h (zvs_t (zvs_t vs)))
  obtain ⟨j, rfl, hj, h1, h2⟩ := zidx ha hi
  refine va_last F.1 F.2.1 (rest := st.map (zcv G)) F.2.2.2.2.2.2.2.1 P (zws_D G h) S a 1 (by rw [zws_get G h ha, zcell_14 G h hka]; rfl) rfl h1 hd (fun H1 locs1 P1 D1 S1 => ?_)
  refine k (zok_arr o j x (Or.inr (Or.inl hka))) (zvs_t (zvs_t (zvs_t vs))) vl p e s m args below meth c H1 locs1 ls F ?_ S1 Lv
  rw [h2] at P1
  rw [← zws_set G h a j x _ rfl, zcell_14 G _ hka, zupd_fn Int64.ofInt]
  exact P1
theorem z_bast {r i x : Int} (hd : decode M.2.1 pc = .ok (.bastore, 1)) (hi : 0 ≤ i ∧ i < zln r) (hp : pc + 1 = pc') (k : zB G R kc ks Z M pc' L st (zup h r i (zi2b x))) : zB G R kc ks Z M pc L (vi x :: vi i :: vr 15 r :: st) h := by
  subst hp
  intro o vs vl p e s m args below meth c H locs ls F P S Lv
  obtain ⟨a, rfl, ha, hka⟩ := zvok_r (by omega) (zvs_h (zvs_t (zvs_t vs)))
  obtain ⟨j, rfl, hj, h1, h2⟩ := zidx ha hi
  refine va_bast F.1 F.2.1 (rest := st.map (zcv G)) F.2.2.2.2.2.2.2.1 P (zws_D G h) S a 2 (by rw [zws_get G h ha, zcell_15 G h hka]; rfl) rfl h1 hd (fun H1 locs1 P1 D1 S1 => ?_)
  refine k (zok_arr o j _ (Or.inr (Or.inr hka))) (zvs_t (zvs_t (zvs_t vs))) vl p e s m args below meth c H1 locs1 ls F ?_ S1 Lv
  rw [h2, vp_nar_byte] at P1
  rw [← zws_set G h a j (zi2b x) _ rfl, zcell_15 G _ hka, zupd_fn Int32.ofInt, zi2b, Int32.ofInt_toInt]
  exact P1
theorem z_aast16 {r i x : Int} (hd : decode M.2.1 pc = .ok (.aastore, 1)) (hi : 0 ≤ i ∧ i < zln r) (hp : pc + 1 = pc') (k : zB G R kc ks Z M pc' L st (zup h r i x)) : zB G R kc ks Z M pc L (vr 3 x :: vi i :: vr 16 r :: st) h := by
  subst hp
  intro o vs vl p e s m args below meth c H locs ls F P S Lv
  obtain ⟨a, rfl, ha, hka⟩ := zvok_r (by omega) (zvs_h (zvs_t (zvs_t vs)))
  obtain ⟨b, rfl, hb, hkb⟩ := zvok_r (by omega) (zvs_h vs)
  obtain ⟨j, rfl, hj, h1, h2⟩ := zidx ha hi
  refine va_astq F.1 F.2.1 (rest := st.map (zcv G)) F.2.2.2.2.2.2.2.1 P (zws_D G h) S a 3 b 3 (r := (RX3, TX3, 2)) (by rw [zws_get G h ha, zcell_16 G h hka]; rfl) rfl (by rw [zws_get G h hb, zcell_obj G h hkb (by omega)]; rfl) rfl h1 hd (fun H1 locs1 P1 D1 S1 => ?_)
  refine k (zok_up o a j b (fun i9 _ => ⟨fun q => absurd q (by omega), fun q => absurd q (by omega), fun _ => zvs_h vs, fun q => absurd q (by omega)⟩)) (zvs_t (zvs_t (zvs_t vs))) vl p e s m args below meth c H1 locs1 ls F ?_ S1 Lv
  rw [h2] at P1
  rw [← zws_set G h a j b _ rfl, zcell_16 G _ hka, zupd_fn (fun z => some (zgB G + z.toNat))]
  exact P1
theorem z_aast17 {r i x : Int} (hd : decode M.2.1 pc = .ok (.aastore, 1)) (hi : 0 ≤ i ∧ i < zln r) (hp : pc + 1 = pc') (k : zB G R kc ks Z M pc' L st (zup h r i x)) : zB G R kc ks Z M pc L (vr 4 x :: vi i :: vr 17 r :: st) h := by
  subst hp
  intro o vs vl p e s m args below meth c H locs ls F P S Lv
  obtain ⟨a, rfl, ha, hka⟩ := zvok_r (by omega) (zvs_h (zvs_t (zvs_t vs)))
  obtain ⟨b, rfl, hb, hkb⟩ := zvok_r (by omega) (zvs_h vs)
  obtain ⟨j, rfl, hj, h1, h2⟩ := zidx ha hi
  refine va_astq F.1 F.2.1 (rest := st.map (zcv G)) F.2.2.2.2.2.2.2.1 P (zws_D G h) S a 4 b 4 (r := (RX4, TX4, 12)) (by rw [zws_get G h ha, zcell_17 G h hka]; rfl) rfl (by rw [zws_get G h hb, zcell_obj G h hkb (by omega)]; rfl) rfl h1 hd (fun H1 locs1 P1 D1 S1 => ?_)
  refine k (zok_up o a j b (fun i9 _ => ⟨fun q => absurd q (by omega), fun q => absurd q (by omega), fun q => absurd q (by omega), fun _ => zvs_h vs⟩)) (zvs_t (zvs_t (zvs_t vs))) vl p e s m args below meth c H1 locs1 ls F ?_ S1 Lv
  rw [h2] at P1
  rw [← zws_set G h a j b _ rfl, zcell_17 G _ hka, zupd_fn (fun z => some (zgB G + z.toNat))]
  exact P1
theorem z_alen13 {r : Int} {x : Int} (hd : decode M.2.1 pc = .ok (.arraylength, 1)) (hx : zln r = x) (hp : pc + 1 = pc') (k : zB G R kc ks Z M pc' L (vi x :: st) h) : zB G R kc ks Z M pc L (vr 13 r :: st) h := by
  subst hp
  subst hx
  intro o vs vl p e s m args below meth c H locs ls F P S Lv
  obtain ⟨a, rfl, ha, hka⟩ := zvok_r (by omega) (zvs_h vs)
  have K := k o (zvs_i _ (zvs_t vs)) vl p e s m args below meth c H locs ls F P S Lv
  exact va_alen F.1 F.2.1 (rest := st.map (zcv G)) F.2.2.2.2.2.2.2.1 P a 0 (cA := zgC G 13) (x := (zlnN a, .inl (fun j : Nat => Int32.ofInt (h a j)))) (by rw [zws_get G h ha, zcell_13 G h hka]; rfl) (ty := .int) rfl (v := Int32.ofInt (zln a)) rfl hd K
theorem z_alen14 {r : Int} {x : Int} (hd : decode M.2.1 pc = .ok (.arraylength, 1)) (hx : zln r = x) (hp : pc + 1 = pc') (k : zB G R kc ks Z M pc' L (vi x :: st) h) : zB G R kc ks Z M pc L (vr 14 r :: st) h := by
  subst hp
  subst hx
  intro o vs vl p e s m args below meth c H locs ls F P S Lv
  obtain ⟨a, rfl, ha, hka⟩ := zvok_r (by omega) (zvs_h vs)
  have K := k o (zvs_i _ (zvs_t vs)) vl p e s m args below meth c H locs ls F P S Lv
  exact va_alen F.1 F.2.1 (rest := st.map (zcv G)) F.2.2.2.2.2.2.2.1 P a 1 (cA := zgC G 14) (x := (zlnN a, .inr (.inl (fun j : Nat => Int64.ofInt (h a j))))) (by rw [zws_get G h ha, zcell_14 G h hka]; rfl) (ty := .long) rfl (v := Int32.ofInt (zln a)) rfl hd K
-- the script
theorem z_sld {i x : Int} {q : Int} (hd : decode M.2.1 pc = .ok (.iaload, 1)) (hi : 0 ≤ i ∧ i < zgL G) (hL : zgL G ≤ 30000) (hx : (zgx G i.toNat).toInt = x) (hp : pc + 1 = pc') (k : zB G R kc ks Z M pc' L (vi x :: st) h) : zB G R kc ks Z M pc L (vi i :: (41, q) :: st) h := by
  subst hp
  subst hx
  intro o vs vl p e s m args below meth c H locs ls F P S Lv
  obtain ⟨h1, h2⟩ := zI_nat hi.1 hi.2 hL
  have K := k o (zvs_i _ (zvs_t (zvs_t vs))) vl p e s m args below meth c H locs ls F P S Lv
  rw [List.map_cons, zcv_i, Int32.ofInt_toInt] at K
  obtain ⟨-, -, -, -, hX, hb1, hb2, -⟩ := F.2.2.2.2.2.2.2
  exact va_sld F.1 F.2.1 (rest := st.map (zcv G)) hX (by omega) (show ¬ zgB G ≤ zgb G by omega) S h1 hd (by rw [h2]; exact K)
theorem z_slen {x q : Int} (hd : decode M.2.1 pc = .ok (.arraylength, 1)) (hx : (zgL G : Int) = x) (hp : pc + 1 = pc') (k : zB G R kc ks Z M pc' L (vi x :: st) h) : zB G R kc ks Z M pc L ((41, q) :: st) h := by
  subst hp
  subst hx
  intro o vs vl p e s m args below meth c H locs ls F P S Lv
  have K := k o (zvs_i _ (zvs_t vs)) vl p e s m args below meth c H locs ls F P S Lv
  obtain ⟨-, -, -, -, hX, hb1, hb2, -⟩ := F.2.2.2.2.2.2.2
  exact va_slen F.1 F.2.1 (rest := st.map (zcv G)) hX (by omega) (show ¬ zgB G ≤ zgb G by omega) S hd K
end ZH
