/-! ===== the machine while cells are being made: a heap has so many cells; what isn't made is blank ===== -/
abbrev yH : Type := Nat × zH
/-- what a new cell holds: -1 stands for null -/
def ybl (a j : Int) : Int := if zkd a < 13 then (if 10 ≤ (zft (zkd a) j.toNat).1 ∧ 0 ≤ j ∧ j < zln a then -1 else 0) else if zkd a = 16 ∨ zkd a = 17 then -1 else 0
def yfv (G : zG) (t : Nat) (x : Int) : Value := if t = 0 then .int (Int32.ofInt x) else if t = 1 then .long (Int64.ofInt x) else if t = 2 then .int (Int32.ofInt x) else if x < 0 then .null else .ref (zgB G + x.toNat)
def yrow (G : zG) (h : zH) (k : Nat) : Nat → Option Nat := fun j => if h k j < 0 then none else some (zgB G + (h k j).toNat)
def ycell (G : zG) (h : zH) (k : Nat) : va_E :=
  if zkdN k = 13 then .inl (zgC G 13, zlnN k, .inl (fun j => Int32.ofInt (h k j)))
  else if zkdN k = 14 then .inl (zgC G 14, zlnN k, .inr (.inl (fun j => Int64.ofInt (h k j))))
  else if zkdN k = 15 then .inl (zgC G 15, zlnN k, .inl (fun j => Int32.ofInt (h k j)))
  else if zkdN k = 16 then .inl (zgC G 16, zlnN k, .inr (.inr (.inr (.inr (yrow G h k)))))
  else if zkdN k = 17 then .inl (zgC G 17, zlnN k, .inr (.inr (.inr (.inr (yrow G h k)))))
  else .inr (zkdN k, (List.range (zfs (zkdN k)).length).map (fun j => yfv G (zft (zkdN k) j).1 (h k j)))
def yws (G : zG) (h : yH) : va_W := (List.range h.1).map (fun k => (zgB G + k, ycell G h.2 k))
def yok (h : yH) : Prop := h.1 ≤ 526 ∧ ∀ a j : Int, (h.1 : Int) ≤ a → h.2 a j = ybl a j
def yAO (s : State) : Prop := va_AO "RangedMachines$LetterSet" s ∧ va_AO "RangedMachines$Machine" s
def yB (G : zG) (R : Room) (kc ks : Nat) (Z : State → Array Value → List Frame → State → Prop) (M : zM) (pc : Nat) (L : List (Option zV)) (st : List zV) (h : yH) : Prop :=
  yok h → zvs st → zls L → ∀ (p : Program) (e : Env) (s : State) (m : MethodId) (args : Array Value) (below : List Frame) (meth : Method) (c : Code) (H : Heap) (locs : List Loc) (ls : Array Slot),
    zFx G M p s m args meth c → va_P (zgD G) vwCl (yws G h) H → va_S (zA G) s.heap H locs → zlv G ls M.2.2.1 L → s.heap.size + kc = zgB G + h.1 → ((M.1.name = "<init>" → meth.name = "<init>") ∧ yAO s) → W p (zgl G) e R s m args below meth c H locs kc ks (Z s args below) (F0 m pc ls (st.map (zcv G)))
theorem yws_get (G : zG) (h : yH) {k : Nat} (hk : k < h.1) : (yws G h)[k]? = some (zgB G + k, ycell G h.2 k) := by
  unfold yws
  rw [List.getElem?_map, List.getElem?_range hk]
  rfl
theorem yws_none (G : zG) (h : yH) {k : Nat} (hk : h.1 ≤ k) : (yws G h)[k]? = none := List.getElem?_eq_none (by unfold yws; rw [List.length_map, List.length_range]; exact hk)
theorem yws_D (G : zG) (h : yH) : va_D (zA G) (yws G h) := by
  have hh : ∀ (k : Nat) (q : Nat × va_E), (yws G h)[k]? = some q → q.1 = zgB G + k := by
    intro k q hq
    by_cases hk : k < h.1
    · rw [yws_get G h hk] at hq
      cases hq
      rfl
    · rw [yws_none G h (Nat.not_lt.mp hk)] at hq
      cases hq
  refine ⟨fun i j p q hp hq e => ?_, fun k q hq => ?_⟩
  · rw [hh i p hp, hh j q hq] at e
    omega
  · show zgB G ≤ q.1
    rw [hh k q hq]
    omega
theorem ycell_ne (G : zG) (h : zH) (r i x : Int) {k : Nat} (hk : r ≠ k) : ycell G (zup h r i x) k = ycell G h k := by
  have e : zup h r i x k = h k := by
    funext j
    unfold zup
    rw [if_neg (fun q => hk q.1.symm)]
  unfold ycell yrow
  rw [e]
theorem yws_set (G : zG) (n : Nat) (h : zH) (k : Nat) (i x : Int) (e : va_E) (he : ycell G (zup h k i x) k = e) : (yws G (n, h)).set k (zgB G + k, e) = yws G (n, zup h k i x) := by
  subst he
  apply List.ext_getElem?
  intro j
  rw [List.getElem?_set]
  by_cases hj : j < n
  · rw [yws_get G (n, zup h k i x) hj]
    by_cases e : k = j
    · subst e
      rw [if_pos rfl, if_pos (by unfold yws; rw [List.length_map, List.length_range]; exact hj)]
    · rw [if_neg e, yws_get G (n, h) hj, ycell_ne G h k i x (fun q => e (Int.ofNat.inj q))]
  · have hn : ∀ h' : zH, (yws G (n, h'))[j]? = none := fun h' => yws_none G (n, h') (Nat.not_lt.mp hj)
    rw [hn, hn]
    by_cases e : k = j
    · rw [if_pos e, if_neg (by unfold yws; rw [List.length_map, List.length_range]; show ¬ k < n; omega)]
    · rw [if_neg e]
theorem yok_up {n : Nat} {h : zH} (ho : yok (n, h)) {k : Nat} (hk : k < n) (i x : Int) : yok (n, zup h k i x) := by
  refine ⟨ho.1, fun a j ha => ?_⟩
  show zup h k i x a j = _
  unfold zup
  rw [if_neg (fun q => by have := q.1; dsimp only at ha; omega)]
  exact ho.2 a j ha
theorem zft_tags : ∀ ci < 13, ∀ j < (zfs ci).length, (zft ci j).1 < 3 ∨ 10 ≤ (zft ci j).1 := by decide +kernel
section YR
variable {G : zG} {R : Room} {kc ks : Nat} {Z : State → Array Value → List Frame → State → Prop} {M Mc : zM} {pc pc' : Nat} {L L' : List (Option zV)} {st : List zV} {h : yH}
theorem ysize {p : Program} {l : Launch} {e : Env} {s : State} (hb : zgB G ≤ s.heap.size) {m : MethodId} {args : Array Value} {below : List Frame} {meth : Method} {c : Code} {H : Heap} {locs : List Loc} {T : State} (P : va_P (zgD G) vwCl (yws G h) H) (S : va_S (zA G) s.heap H locs) (hs : s.heap.size + kc = zgB G + h.1) (hT : T.heap = H) (X : Stand p l e R s m args below meth c T locs kc ks) : H.size = zgB G + h.1 := by
  have h1 : T.heap.size ≤ s.heap.size + kc := X.same.2.2.1
  rw [hT] at h1
  have h2 : zgB G + h.1 ≤ H.size := by
    by_cases h0 : h.1 = 0
    · have := S.1
      omega
    · have := (P (h.1 - 1) _ (yws_get G h (by omega))).lt
      dsimp only at this
      omega
  omega

theorem y_iconst {n : Int} (hd : decode M.2.1 pc = .ok (.iconst n, 1)) (hp : pc + 1 = pc') (k : yB G R kc ks Z M pc' L (vi n :: st) h) : yB G R kc ks Z M pc L st h := by
  subst hp
  intro o vs vl p e s m args below meth c H locs ls F P S Lv hs hin
  exact lv_iconst F.1 F.2.1 hd rfl (k o (zvs_i _ vs) vl p e s m args below meth c H locs ls F P S Lv hs hin)
theorem y_bipush {n : Int} (hd : decode M.2.1 pc = .ok (.bipush n, 2)) (hn : (Int8.ofInt n).toInt32 = Int32.ofInt n) (hp : pc + 2 = pc') (k : yB G R kc ks Z M pc' L (vi n :: st) h) : yB G R kc ks Z M pc L st h := by
  subst hp
  intro o vs vl p e s m args below meth c H locs ls F P S Lv hs hin
  exact lv_bipush F.1 F.2.1 hd hn (k o (zvs_i _ vs) vl p e s m args below meth c H locs ls F P S Lv hs hin)
theorem y_sipush {n : Int} (hd : decode M.2.1 pc = .ok (.sipush n, 3)) (hn : (Int16.ofInt n).toInt32 = Int32.ofInt n) (hp : pc + 3 = pc') (k : yB G R kc ks Z M pc' L (vi n :: st) h) : yB G R kc ks Z M pc L st h := by
  subst hp
  intro o vs vl p e s m args below meth c H locs ls F P S Lv hs hin
  exact lv_sipush F.1 F.2.1 hd hn (k o (zvs_i _ vs) vl p e s m args below meth c H locs ls F P S Lv hs hin)
theorem y_iload_n {q : Fin 4} (i : Nat) {x : Int} (hd : decode M.2.1 pc = .ok (.iload_n q, 1)) (hi : (q : Nat) = i) (hl : L[i]? = some (some (vi x))) (hp : pc + 1 = pc') (k : yB G R kc ks Z M pc' L (vi x :: st) h) : yB G R kc ks Z M pc L st h := by
  subst hp
  intro o vs vl p e s m args below meth c H locs ls F P S Lv hs hin
  exact lv_iload_n F.1 F.2.1 hd hi (Lv.2 i _ hl) (k o (zvs_i _ vs) vl p e s m args below meth c H locs ls F P S Lv hs hin)
theorem y_aload_n {q : Fin 4} (i : Nat) {v : zV} (hd : decode M.2.1 pc = .ok (.aload_n q, 1)) (hi : (q : Nat) = i) (hl : L[i]? = some (some v)) (hv : 10 ≤ v.1) (hp : pc + 1 = pc') (k : yB G R kc ks Z M pc' L (v :: st) h) : yB G R kc ks Z M pc L st h := by
  subst hp
  intro o vs vl p e s m args below meth c H locs ls F P S Lv hs hin
  have K := k o (zvs_c (vl v (List.mem_of_getElem? hl)) vs) vl p e s m args below meth c H locs ls F P S Lv hs hin
  obtain ⟨a, ha⟩ := zref G v hv
  have hq := Lv.2 i _ hl
  rw [List.map_cons, ha] at K
  rw [ha] at hq
  exact lv_aload_n F.1 F.2.1 hd hi hq K
theorem y_istore_n {q : Fin 4} (i : Nat) {x : Int} (hd : decode M.2.1 pc = .ok (.istore_n q, 1)) (hi : (q : Nat) = i) (hn : i < M.2.2.1) (hL : zst1 L i (vi x) = L') (hp : pc + 1 = pc') (k : yB G R kc ks Z M pc' L' st h) : yB G R kc ks Z M pc L (vi x :: st) h := by
  subst hp
  subst hL
  intro o vs vl p e s m args below meth c H locs ls F P S Lv hs hin
  exact lv_istore_n F.1 F.2.1 hd hi (zlv_has Lv) hn rfl (fun ls' hl' => k o (zvs_t vs) (zls_st1 vl (Or.inl rfl)) p e s m args below meth c H locs ls' F P S (zlv_st1 hl') hs hin)
theorem y_istore {i : Nat} {x : Int} (hd : decode M.2.1 pc = .ok (.istore i, 2)) (hn : i < M.2.2.1) (hL : zst1 L i (vi x) = L') (hp : pc + 2 = pc') (k : yB G R kc ks Z M pc' L' st h) : yB G R kc ks Z M pc L (vi x :: st) h := by
  subst hp
  subst hL
  intro o vs vl p e s m args below meth c H locs ls F P S Lv hs hin
  exact lv_istore F.1 F.2.1 hd (zlv_has Lv) hn rfl (fun ls' hl' => k o (zvs_t vs) (zls_st1 vl (Or.inl rfl)) p e s m args below meth c H locs ls' F P S (zlv_st1 hl') hs hin)
theorem y_astore_n {q : Fin 4} (i : Nat) {v : zV} (hd : decode M.2.1 pc = .ok (.astore_n q, 1)) (hi : (q : Nat) = i) (hn : i < M.2.2.1) (hv : 10 ≤ v.1) (hL : zst1 L i v = L') (hp : pc + 1 = pc') (k : yB G R kc ks Z M pc' L' st h) : yB G R kc ks Z M pc L (v :: st) h := by
  subst hp
  subst hL
  intro o vs vl p e s m args below meth c H locs ls F P S Lv hs hin
  obtain ⟨a, ha⟩ := zref G v hv
  show W _ _ _ _ _ _ _ _ _ _ _ _ _ _ _ (F0 m pc ls (zcv G v :: st.map (zcv G)))
  rw [ha]
  exact lv_astore_n F.1 F.2.1 hd hi (zlv_has Lv) hn rfl (fun ls' hl' => k o (zvs_t vs) (zls_st1 vl (zvs_h vs)) p e s m args below meth c H locs ls' F P S (zlv_st1 (by rw [ha]; exact hl')) hs hin)
theorem y_iinc {i : Nat} {n x : Int} (hd : decode M.2.1 pc = .ok (.iinc i n, 3)) (hl : L[i]? = some (some (vi x))) (hn : i < M.2.2.1) (hL : zst1 L i (vi (x + n)) = L') (hp : pc + 3 = pc') (k : yB G R kc ks Z M pc' L' st h) : yB G R kc ks Z M pc L st h := by
  subst hp
  subst hL
  intro o vs vl p e s m args below meth c H locs ls F P S Lv hs hin
  obtain ⟨q, hq⟩ := List.getElem?_of_mem (zprs_in G hl)
  exact lv_iinc F.1 F.2.1 hd (zlv_has Lv) hq (v := Int32.ofInt (x + n)) (Int32.ofInt_add x n).symm hn rfl (fun ls' hl' => k o vs (zls_st1 vl (Or.inl rfl)) p e s m args below meth c H locs ls' F P S (zlv_st1 hl') hs hin)
theorem y_dup {v : zV} (hd : decode M.2.1 pc = .ok (.dup, 1)) (hv : v.1 ≠ 1) (hp : pc + 1 = pc') (k : yB G R kc ks Z M pc' L (v :: v :: st) h) : yB G R kc ks Z M pc L (v :: st) h := by
  subst hp
  intro o vs vl p e s m args below meth c H locs ls F P S Lv hs hin
  exact lv_dup F.1 F.2.1 hd (zcv_cat1 G v hv) (k o (zvs_c (zvs_h vs) vs) vl p e s m args below meth c H locs ls F P S Lv hs hin)
theorem y_icmp_ge {x y : Int} {off : Int} {tgt : Nat} (hd : decode M.2.1 pc = .ok (.if_icmp .ge off, 3)) (ht : (pc : Int) + off = (tgt : Int)) (hx : zR x) (hy : zR y) (hp : pc + 3 = pc') (k : (y ≤ x → yB G R kc ks Z M tgt L st h) ∧ (¬ y ≤ x → yB G R kc ks Z M pc' L st h)) : yB G R kc ks Z M pc L (vi y :: vi x :: st) h := by
  subst hp
  intro o vs vl p e s m args below meth c H locs ls F P S Lv hs hin
  exact lv_icmp_ge F.1 F.2.1 hd ht (fun q => k.1 ((zI_le hy hx).mp q) o (zvs_t (zvs_t vs)) vl p e s m args below meth c H locs ls F P S Lv hs hin) (fun q => k.2 (fun z => q ((zI_le hy hx).mpr z)) o (zvs_t (zvs_t vs)) vl p e s m args below meth c H locs ls F P S Lv hs hin)
theorem y_goto {off : Int} {tgt : Nat} (hd : decode M.2.1 pc = .ok (.goto off, 3)) (ht : (pc : Int) + off = (tgt : Int)) (k : yB G R kc ks Z M tgt L st h) : yB G R kc ks Z M pc L st h := by
  intro o vs vl p e s m args below meth c H locs ls F P S Lv hs hin
  exact lv_goto F.1 F.2.1 hd ht (k o vs vl p e s m args below meth c H locs ls F P S Lv hs hin)
theorem y_sub (hs : zsub L' L) (k : yB G R kc ks Z M pc L' st h) : yB G R kc ks Z M pc L st h := by
  intro o vs vl p e s m args below meth c H locs ls F P S Lv
  refine k o vs (fun v hv => ?_) p e s m args below meth c H locs ls F P S ⟨Lv.1, fun i v hv => Lv.2 i v (zsub_ok hs i v hv)⟩
  obtain ⟨i, hi⟩ := List.getElem?_of_mem hv
  exact vl v (List.mem_of_getElem? (zsub_ok hs i v hi))
theorem y_know (k : yok h → zvs st → zls L → yB G R kc ks Z M pc L st h) : yB G R kc ks Z M pc L st h := fun o vs vl => k o vs vl o vs vl
/-- Object's constructor -/
theorem y_obj {idx ci : Nat} {r : Int} (hw : Cond.methodLink M.1.cls idx objectInit ∈ zUU ∧ Cond.instanceMethod objectInit ∈ zUU ∧ Cond.code objectInit ⟨#[0xb1]⟩ 1 none ∈ zUU) (hci : ci < 13) (hd : decode M.2.1 pc = .ok (.invokespecial idx, 3)) (hR : 1 ≤ R.frames ∧ zcat st + 12 ≤ R.locals) (hp : pc + 3 = pc') (k : yB G R kc ks Z M pc' L st h) : yB G R kc ks Z M pc L (vr ci r :: st) h := by
  subst hp
  intro o vs vl p e s m args below meth c H locs ls F P S Lv hs hin
  have hts := F.2.2.2.2.2.2.1
  have K := k o (zvs_t vs) vl p e s m args below meth c H locs ls F P S Lv hs hin
  rw [List.map_cons, zcv_r G ci r (by omega)]
  exact W.objInit F.1 F.2.1 F.2.2.2.2.2.1 (hts _ hw.1) (hts _ hw.2.1) (hts _ hw.2.2) rfl (by rw [F.2.2.1]; exact Lv.1.1) rfl hd hR.1 (by rw [zcat_ok]; show 2 * 0 + zcat st + 12 ≤ _; have := hR.2; omega) K
theorem yok_new {n : Nat} {h : zH} (ho : yok (n, h)) (hn : n < 526) : yok (n + 1, h) := ⟨hn, fun a j ha => ho.2 a j (by dsimp only at ha ⊢; omega)⟩
theorem ycell_obj (G : zG) (h : zH) {k ci : Nat} (hk : zkdN k = ci) (hci : ci < 13) : ycell G h k = .inr (ci, (List.range (zfs ci).length).map (fun j => yfv G (zft ci j).1 (h k j))) := by
  subst hk
  unfold ycell
  rw [if_neg (by omega), if_neg (by omega), if_neg (by omega), if_neg (by omega), if_neg (by omega)]
theorem yws_push (G : zG) (n : Nat) (h : zH) : yws G (n + 1, h) = yws G (n, h) ++ [(zgB G + n, ycell G h n)] := by
  unfold yws
  rw [List.range_succ, List.map_append]
  rfl
/-- the default values of a class's fields are the blank -/
def yDef (ci : Nat) (ty0 : Nat → FieldType) : Prop := ∀ j, j < (zfs ci).length → defaultValue (ty0 j) = (if (zft ci j).1 = 0 then .int 0 else if (zft ci j).1 = 1 then .long 0 else if (zft ci j).1 = 2 then .int 0 else .null)
theorem yblank {n ci j : Nat} {h : zH} (G : zG) (o : yok (n, h)) (hn : n < 526) (hk : zkdN n = ci) (hci : ci < 13) (hj : j < (zfs ci).length) : yfv G (zft ci j).1 (h n j) = (if (zft ci j).1 = 0 then .int 0 else if (zft ci j).1 = 1 then .long 0 else if (zft ci j).1 = 2 then .int 0 else .null) := by
  have e0 : h n j = ybl n j := o.2 n j (Int.le_refl _)
  have ekd : zkd (n : Int) = ci := by unfold zkd; rw [Int.toNat_natCast]; exact hk
  have eln : zln (n : Int) = ((zfs ci).length : Int) := by
    have := zln_obj n hn (by rw [hk]; exact hci)
    unfold zln
    rw [Int.toNat_natCast, this, hk]
  have ht := zft_tags ci hci j hj
  rw [e0]
  unfold ybl
  rw [ekd, eln, Int.toNat_natCast, if_pos hci]
  generalize (zft ci j).1 = t at ht ⊢
  unfold yfv
  by_cases c0 : t = 0
  · rw [if_pos c0, if_pos c0, if_neg (by omega)]
    rfl
  · rw [if_neg c0, if_neg c0]
    by_cases c1 : t = 1
    · rw [if_pos c1, if_pos c1, if_neg (by omega)]
      rfl
    · rw [if_neg c1, if_neg c1]
      by_cases c2 : t = 2
      · rw [if_pos c2, if_pos c2, if_neg (by omega)]
        rfl
      · have hx : (if 10 ≤ t ∧ (0 : Int) ≤ (j : Int) ∧ (j : Int) < ((zfs ci).length : Int) then (-1 : Int) else 0) = -1 := if_pos ⟨by omega, by omega, by omega⟩
        rw [if_neg c2, if_neg c2, hx]
        rfl
theorem ynew_P {ci N n : Nat} {C : String} {T : u_T} {ty0 : Nat → FieldType} {h : zH} {s : State} {args : Array Value} {H H1 : Heap} {kC : Class} (hC : zCls ci C T N ty0) (hdef : yDef ci ty0) (hts : ∀ w ∈ zUU, w.before args s = true) (hK : va_K (zgD G) vwCl (ztys G) s) (o : yok (n, h)) (hn : n < 526 ∧ zkdN n = ci) (P : va_P (zgD G) vwCl (yws G (n, h)) H) (hsz : H.size = zgB G + n) (hkC : s.vm.classes[(zgD G).1 ci]? = some kC) (e1 : H1[zgB G + n]? = some (blank ((zgD G).1 ci) kC)) (o1 : ∀ q, q < zgB G + n → H1[q]? = H[q]?) : va_P (zgD G) vwCl (yws G (n + 1, h)) H1 := by
  obtain ⟨hci, hvc, hN, hinn, hty, hnm, hfin⟩ := hC
  have hKn := hK.1 ci _ hvc
  have hk : ∀ (k : Nat) (x : Nat × va_E), (yws G (n, h))[k]? = some x → H1[x.1]? = H[x.1]? := fun k x hx => o1 x.1 (by rw [← hsz]; exact (P k x hx).lt)
  rw [yws_push]
  refine (P.kept hk).app (fun k x hx => ?_)
  have hz : k < 1 := (List.getElem?_eq_some_iff.mp hx).1
  rw [show k = 0 by omega] at hx
  cases hx
  rw [ycell_obj G h hn.2 hci]
  refine ⟨_, hvc, (u_born ty0 hts hinn hKn hkC e1 hty).to (fun j hj => ?_)⟩
  have hj : j < (zfs ci).length := by rw [hN]; exact hj
  rw [hdef j hj, ← yblank G o hn.1 hn.2 hci hj]
  show _ = vp_V ((List.range (zfs ci).length).map (fun j => yfv G (zft ci j).1 (h n j))) j
  unfold vp_V
  rw [List.getD_eq_getElem?_getD, zrange_at _ hj]
  rfl
theorem y_new {idx N : Nat} (ci : Nat) {C : String} {T : u_T} {ty0 : Nat → FieldType} {r : Int} (hC : zCls ci C T N ty0) (hdef : yDef ci ty0) (hcl : Cond.classLink M.1.cls idx C ∈ zUU) (hinst : Cond.instantiable C N ∈ zUU) (hini : Cond.initialized C ∈ zUU) (hd : decode M.2.1 pc = .ok (.new idx, 3)) {n : Nat} {h : zH} (hn : n < 526 ∧ zkdN n = ci) (hR : kc + 1 ≤ R.cells ∧ ks + N ≤ R.slots) (hr : (n : Int) = r) (hp : pc + 3 = pc') (k : yB G R (kc + 1) (ks + N) Z M pc' L (vr ci r :: st) (n + 1, h)) : yB G R kc ks Z M pc L st (n, h) := by
  subst hp
  subst hr
  intro o vs vl p e s m args below meth c H locs ls F P S Lv hs hin T0 hT X
  have hsz : H.size = zgB G + n := ysize F.2.2.2.2.2.2.2.2.2.2.2.2.2.1 P S hs hT X
  have hts := F.2.2.2.2.2.2.1
  have hKn := F.2.2.2.2.2.2.2.1.1 ci _ hC.2.1
  have hcv : zcv G (vr ci (n : Int)) = .ref (zgB G + n) := by rw [zcv_r G ci n (by have := hC.1; omega), Int.toNat_natCast]
  suffices KW : W p (zgl G) e R s m args below meth c H locs kc ks (Z s args below) (F0 m pc ls (st.map (zcv G))) from KW T0 hT X
  refine W.newcK F.1 F.2.1 F.2.2.2.2.2.1 (hts _ hcl) (hts _ hinst) (hts _ hini) rfl hd hR.1 hR.2 hKn.2.1 hsz (fun H1 kC hkC e1 z1 o1 => ?_)
  have P1 := ynew_P hC hdef hts F.2.2.2.2.2.2.2.1 o hn P hsz hkC e1 o1
  have K := k (yok_new o hn.1) (zvs_c (zvok_mk (by have := hC.1; omega) hn.1 hn.2) vs) vl p e s m args below meth c H1 locs ls F P1 ⟨Nat.le_trans S.1 (by omega), fun x h1 h2 => (o1 x (by have := S.1; omega)).trans (S.2.1 x h1 h2), S.2.2⟩ Lv (by have hs' : s.heap.size + kc = zgB G + n := hs; show s.heap.size + (kc + 1) = zgB G + (n + 1); omega) hin
  rw [List.map_cons, hcv] at K
  exact K
end YR
