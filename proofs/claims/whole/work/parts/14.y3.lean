/-! ===== constructors: fields, calls, ends ===== -/
/-- a field of the own class that a constructor sets -/
def zFP (own : String) (idx ci j : Nat) : Prop := ∃ (C : String) (T : u_T) (N : Nat) (ty0 : Nat → FieldType), zCls ci C T N ty0 ∧ j < N ∧ Cond.fieldLink own idx (T j).1 (T j).2.1 (T j).2.2.1 ∈ zUU ∧ (T j).1 = own ∧ (∀ a : Nat, 10 ≤ (zft ci j).1 → narrow (ty0 j) (.ref a) = .ref a ∧ fits (ty0 j) (.ref a) = true) ∧ (∀ x : Int32, (zft ci j).1 = 0 → narrow (ty0 j) (.int x) = .int x ∧ fits (ty0 j) (.int x) = true)
section YC
variable {G : zG} {R : Room} {kc ks : Nat} {Z : State → Array Value → List Frame → State → Prop} {M Mc : zM} {pc pc' : Nat} {L L' : List (Option zV)} {st : List zV}
theorem y_putAny {idx ci j n : Nat} {h : zH} {r x : Int} {v : zV} (hw : zFP M.1.cls idx ci j) (hM : M.1.name = "<init>") (hd : decode M.2.1 pc = .ok (.putfield idx, 3)) (hr : r < n) (hv : zvok v → zcv G v = yfv G (zft ci j).1 x ∧ ∀ ty0 : Nat → FieldType, (∀ a : Nat, 10 ≤ (zft ci j).1 → narrow (ty0 j) (.ref a) = .ref a ∧ fits (ty0 j) (.ref a) = true) → (∀ x : Int32, (zft ci j).1 = 0 → narrow (ty0 j) (.int x) = .int x ∧ fits (ty0 j) (.int x) = true) → narrow (ty0 j) (zcv G v) = zcv G v ∧ fits (ty0 j) (zcv G v) = true) (hp : pc + 3 = pc') (k : yB G R kc ks Z M pc' L st (n, zup h r j x)) : yB G R kc ks Z M pc L (v :: vr ci r :: st) (n, h) := by
  subst hp
  intro o vs vl p e s m args below meth c H locs ls F P S Lv hs hin
  obtain ⟨C, T, N, ty0, hC, hj, hl, hown9, hn1, hn2⟩ := hw
  obtain ⟨hci, hcl, hN, hinn, hty, hnm, hfin⟩ := hC
  obtain ⟨a, rfl, ha, hka⟩ := zvok_r (by omega) (zvs_h (zvs_t vs))
  obtain ⟨hv1, hv2⟩ := hv (zvs_h vs)
  obtain ⟨hv3, hv4⟩ := hv2 ty0 hn1 hn2
  have ha9 : a < n := by omega
  have hts := F.2.2.2.2.2.2.1
  have K : ∀ (H1 : Heap) (locs1 : List Loc), va_P (zgD G) vwCl ((yws G (n, h)).set a (zgB G + a, .inr (ci, ((List.range (zfs ci).length).map (fun j => yfv G (zft ci j).1 (h a j))).set j (zcv G v)))) H1 → va_D (zA G) ((yws G (n, h)).set a (zgB G + a, .inr (ci, ((List.range (zfs ci).length).map (fun j => yfv G (zft ci j).1 (h a j))).set j (zcv G v)))) → va_S (zA G) s.heap H1 locs1 → W p (zgl G) e R s m args below meth c H1 locs1 kc ks (Z s args below) (F0 m (pc + 3) ls (st.map (zcv G))) := by
    intro H1 locs1 P1 D1 S1
    refine k (yok_up o ha9 j x) (zvs_t (zvs_t vs)) vl p e s m args below meth c H1 locs1 ls F ?_ S1 Lv hs hin
    rw [yws_set G n h a j x] at P1
    · exact P1
    · rw [ycell_obj G _ hka hci, zrange_set]
      congr 2
      apply List.map_congr_left
      intro i hi
      unfold zup
      by_cases e9 : i = j
      · subst e9
        rw [if_pos rfl, if_pos ⟨rfl, rfl⟩, hv1]
      · rw [if_neg e9, if_neg (fun q => e9 (Int.ofNat.inj q.2))]
  rw [List.map_cons, List.map_cons, zcv_r G ci a (by omega), Int.toNat_natCast]
  cases hff : (T j).2.2.2 with
  | true => exact va_putF F.1 F.2.1 (C := C) (T := T) (N := N) (Ts := zUU) hts hinn ty0 hty hnm F.2.2.2.2.2.1 F.2.2.2.2.2.2.2.1 P (yws_D G (n, h)) S a (by rw [yws_get G (n, h) ha9, ycell_obj G h hka hci]) hcl j hj (hts _ hl) (fun _ q => q) hff (hin.1 hM) hown9 (hty j hj) hv3 hv4 (by rw [List.length_map, List.length_range]; omega) hd K
  | false => exact va_put F.1 F.2.1 (C := C) (T := T) (N := N) (Ts := zUU) hts hinn ty0 hty hnm F.2.2.2.2.2.1 F.2.2.2.2.2.2.2.1 P (yws_D G (n, h)) S a (by rw [yws_get G (n, h) ha9, ycell_obj G h hka hci]) hcl j hj (hts _ hl) (fun _ q => q) hff (hty j hj) hv3 hv4 (by rw [List.length_map, List.length_range]; omega) hd K
theorem y_putR {idx j n : Nat} (ci t : Nat) {h : zH} {r x : Int} (hw : zFP M.1.cls idx ci j) (hM : M.1.name = "<init>") (ht : (zft ci j).1 = 10 + t) (ht9 : t < 18) (hd : decode M.2.1 pc = .ok (.putfield idx, 3)) (hr : r < n) (hp : pc + 3 = pc') (k : yB G R kc ks Z M pc' L st (n, zup h r j x)) : yB G R kc ks Z M pc L (vr t x :: vr ci r :: st) (n, h) :=
  y_putAny hw hM hd hr (fun hv => by
    obtain ⟨a, rfl, -, -⟩ := zvok_r (by omega) hv
    rw [zcv_r G t a (by omega)]
    refine ⟨?_, fun ty0 h1 h2 => h1 _ (by omega)⟩
    rw [ht]
    unfold yfv
    rw [if_neg (by omega), if_neg (by omega), if_neg (by omega), if_neg (by omega)]) hp k
theorem y_putI {idx j n : Nat} (ci : Nat) {h : zH} {r x : Int} (hw : zFP M.1.cls idx ci j) (hM : M.1.name = "<init>") (ht : (zft ci j).1 = 0) (hd : decode M.2.1 pc = .ok (.putfield idx, 3)) (hr : r < n) (hp : pc + 3 = pc') (k : yB G R kc ks Z M pc' L st (n, zup h r j x)) : yB G R kc ks Z M pc L (vi x :: vr ci r :: st) (n, h) :=
  y_putAny hw hM hd hr (fun hv => ⟨by rw [ht]; rfl, fun ty0 h1 h2 => h2 _ ht⟩) hp k
/-- a reference that has been set -/
theorem y_get {idx j n : Nat} (ci t : Nat) {h : zH} {r x : Int} (hw : zFL M.1.cls idx ci j) (ht : (zft ci j).1 = 10 + t) (ht9 : t < 18) (hd : decode M.2.1 pc = .ok (.getfield idx, 3)) (hr : r < n) (hx : h r j = x) (hv : zvok (vr t x)) (hp : pc + 3 = pc') (k : yB G R kc ks Z M pc' L (vr t x :: st) (n, h)) : yB G R kc ks Z M pc L (vr ci r :: st) (n, h) := by
  subst hp
  intro o vs vl p e s m args below meth c H locs ls F P S Lv hs hin
  obtain ⟨C, T, N, ty0, hC, hj, hl⟩ := hw
  obtain ⟨hci, hcl, hN, hinn, hty, hnm, -⟩ := hC
  obtain ⟨a, rfl, ha, hka⟩ := zvok_r (by omega) (zvs_h vs)
  obtain ⟨b, rfl, hb, hkb⟩ := zvok_r (by omega) hv
  have K := k o (zvs_c hv (zvs_t vs)) vl p e s m args below meth c H locs ls F P S Lv hs hin
  have e1 : zcv G (vr t (b : Int)) = yfv G (zft ci j).1 (h a j) := by
    rw [zcv_r G t b (by omega), ht, hx]
    unfold yfv
    rw [if_neg (by omega), if_neg (by omega), if_neg (by omega), if_neg (by omega)]
  rw [List.map_cons, e1] at K
  rw [List.map_cons, zcv_r G ci a (by omega), Int.toNat_natCast]
  exact va_get F.1 F.2.1 (C := C) (T := T) (N := N) (Ts := zUU) F.2.2.2.2.2.2.1 hinn F.2.2.2.2.2.1 F.2.2.2.2.2.2.2.1 P a (by rw [yws_get G (n, h) (by omega), ycell_obj G h hka hci]) hcl j hj (F.2.2.2.2.2.2.1 _ hl) (fun _ q => q) (zrange_at _ (by omega)) hd K
/-- a reference comes into a row: rows of kind t, things of kind u -/
theorem y_aast {n : Nat} (t u tp : Nat) {h : zH} {r i x : Int} (ht : (t = 16 ∧ u = 3 ∧ tp = 3) ∨ (t = 17 ∧ u = 4 ∧ tp = 4)) (hd : decode M.2.1 pc = .ok (.aastore, 1)) (hr : r < n) (hx : x < n) (hi : 0 ≤ i ∧ i < zln r) (hp : pc + 1 = pc') (k : yB G R kc ks Z M pc' L st (n, zup h r i x)) : yB G R kc ks Z M pc L (vr u x :: vi i :: vr t r :: st) (n, h) := by
  subst hp
  intro o vs vl p e s m args below meth c H locs ls F P S Lv hs hin
  obtain ⟨a, rfl, ha, hka⟩ := zvok_r (by omega) (zvs_h (zvs_t (zvs_t vs)))
  obtain ⟨b, rfl, hb, hkb⟩ := zvok_r (by omega) (zvs_h vs)
  obtain ⟨j, rfl, hj, h1, h2⟩ := zidx ha hi
  have hcell : ∀ g : zH, ycell G g a = .inl (zgC G t, zlnN a, .inr (.inr (.inr (.inr (yrow G g a))))) := by
    intro g
    unfold ycell
    rcases ht with ⟨rfl, -, -⟩ | ⟨rfl, -, -⟩
    · rw [if_neg (by omega), if_neg (by omega), if_neg (by omega), if_pos hka]
    · rw [if_neg (by omega), if_neg (by omega), if_neg (by omega), if_neg (by omega), if_pos hka]
  have K : ∀ (H1 : Heap) (locs1 : List Loc), va_P (zgD G) vwCl ((yws G (n, h)).set a (zgB G + a, .inl (zgC G t, zlnN a, .inr (.inr (.inr (.inr (va_up (yrow G h a) (Int32.ofInt (j : Int)).toNatClampNeg (some (zgB G + b))))))))) H1 → va_D (zA G) ((yws G (n, h)).set a (zgB G + a, .inl (zgC G t, zlnN a, .inr (.inr (.inr (.inr (va_up (yrow G h a) (Int32.ofInt (j : Int)).toNatClampNeg (some (zgB G + b))))))))) → va_S (zA G) s.heap H1 locs1 → W p (zgl G) e R s m args below meth c H1 locs1 kc ks (Z s args below) (F0 m (pc + 1) ls (st.map (zcv G))) := by
    intro H1 locs1 P1 D1 S1
    refine k (yok_up o (by omega) j b) (zvs_t (zvs_t (zvs_t vs))) vl p e s m args below meth c H1 locs1 ls F ?_ S1 Lv hs hin
    rw [h2, yws_set G n h a j b] at P1
    · exact P1
    · rw [hcell]
      congr 7
      funext i
      by_cases e9 : i = j
      · subst e9
        have hz : zup h a i b a i = b := if_pos ⟨rfl, rfl⟩
        unfold yrow va_up
        rw [hz, if_pos rfl, if_neg (by omega), Int.toNat_natCast]
      · have hz : zup h a j b a i = h a i := if_neg (fun q => e9 (Int.ofNat.inj q.2))
        unfold yrow va_up
        rw [hz, if_neg e9]
  have ecv1 : zcv G (vr t (a : Int)) = .ref (zgB G + a) := by rw [zcv_r G t a (by omega), Int.toNat_natCast]
  have ecv2 : zcv G (vr u (b : Int)) = .ref (zgB G + b) := by rw [zcv_r G u b (by omega), Int.toNat_natCast]
  rw [List.map_cons, List.map_cons, List.map_cons, ecv1, ecv2, zcv_i]
  rcases ht with ⟨rfl, rfl, rfl⟩ | ⟨rfl, rfl, rfl⟩
  · exact va_astq F.1 F.2.1 F.2.2.2.2.2.2.2.1 P (yws_D G (n, h)) S a 3 b 3 (r := (RX3, TX3, 2)) (by rw [yws_get G (n, h) (by omega), hcell]) rfl (by rw [yws_get G (n, h) (by omega), ycell_obj G h hkb (by omega)]) rfl h1 hd K
  · exact va_astq F.1 F.2.1 F.2.2.2.2.2.2.2.1 P (yws_D G (n, h)) S a 4 b 4 (r := (RX4, TX4, 12)) (by rw [yws_get G (n, h) (by omega), hcell]) rfl (by rw [yws_get G (n, h) (by omega), ycell_obj G h hkb (by omega)]) rfl h1 hd K
theorem y_mmax {h : yH} {idx : Nat} {x y z : Int} (hl : Cond.methodLink M.1.cls idx Lib.Math.max.name ∈ zUU) (hst : Cond.static Lib.Math.max.name ∈ zUU) (hini : Cond.initialized "java/lang/Math" ∈ zUU) (hc : Cond.code Lib.Math.max.name Lib.Math.max.code 2 (some .int) ∈ zUU) (hd : decode M.2.1 pc = .ok (.invokestatic idx, 3)) (hx : zR x) (hy : zR y) (hR : 1 ≤ R.frames ∧ zcat st + 13 ≤ R.locals ∧ kc ≤ R.cells ∧ ks ≤ R.slots) (hz : max x y = z) (hp : pc + 3 = pc') (k : yB G R kc ks Z M pc' L (vi z :: st) h) : yB G R kc ks Z M pc L (vi y :: vi x :: st) h := by
  subst hp
  subst hz
  intro o vs vl p e s m args below meth c H locs ls F P S Lv hs hin
  have hts := F.2.2.2.2.2.2.1
  have K := k o (zvs_i _ (zvs_t (zvs_t vs))) vl p e s m args below meth c H locs ls F P S Lv hs hin
  have e1 : Int32.ofInt (max x y) = if Int32.ofInt x < Int32.ofInt y then Int32.ofInt y else Int32.ofInt x := by
    by_cases q : x < y
    · rw [if_pos ((zI_lt hx hy).mpr q)]
      congr 1
      omega
    · rw [if_neg (fun z => q ((zI_lt hx hy).mp z))]
      congr 1
      omega
  rw [List.map_cons, zcv_i, e1] at K
  exact va_mmax F.1 F.2.1 (F.2.2.1.trans Lv.1.1.symm) F.2.2.2.2.2.1 (hts _ hl) (hts _ hst) (hts _ hini) (hts _ hc) hR.1 (by rw [zcat_ok]; exact hR.2.1) hR.2.2.1 hR.2.2.2 hd K
-- contracts
def yrm (d mc ms : Nat) : Room := { frames := d, cells := mc, slots := ms, locals := 64 * d }
def yQc (G : zG) (Q : yH → Prop) : Array Value → State → Outcome → State → Prop := fun _ st oc t =>
  (∃ h' : yH, oc = .returned none ∧ yok h' ∧ Q h' ∧ va_P (zgD G) vwCl (yws G h') t.heap) ∧ va_F (zA G) st t
def yZ (G : zG) (mc ms : Nat) (Q : yH → Prop) : State → Array Value → List Frame → State → Prop := fun s args below => MQ below (yQc G Q) args s mc ms (zA G)
abbrev yT (G : zG) (d mc ms kc ks : Nat) (M : zM) (Q : yH → Prop) (pc : Nat) (L : List (Option zV)) (st : List zV) (h : yH) : Prop := yB G (yrm d mc ms) kc ks (yZ G mc ms Q) M pc L st h
def yPc (G : zG) (as : List zV) (h : yH) : Array Value → State → Prop := va_Pc (as.map (zcv G)) (fun U => yok h ∧ zvs as ∧ va_P (zgD G) vwCl (yws G h) U.heap ∧ zKK G U ∧ U.heap.size = zgB G + h.1 ∧ yAO U)
/-- a constructor's contract: it makes mc cells of ms slots -/
def yC (G : zG) (d mc ms : Nat) (M : zM) (as : List zV) (h : yH) (Q : yH → Prop) : Prop := Met (zgl G) M.1 (zwm M) (yrm d mc ms) (yPc G as h) (yQc G Q) mc ms (zA G)
theorem y_return {d mc ms : Nat} {h : yH} {Q : yH → Prop} (hr : M.2.2.2 = none) (hd : decode M.2.1 pc = .ok (.return_, 1)) (k : Q h) : yT G d mc ms mc ms M Q pc L [] h := by
  intro o vs vl p e s m args below meth c H locs ls F P S Lv hs hin
  have hlocks : meth.locks = false := F.2.2.2.2.1
  exact W.vret F.1 F.2.1 (F.2.2.2.1.trans hr) (fun t ht hW => ⟨⟨h, rfl, o, k, by rw [ht]; exact P⟩, S.F ht⟩) S.2.2 hd
theorem y_entry {d mc ms : Nat} {h : yH} {Q : yH → Prop} {as : List zV} (hy : plainName M.1.cls = true) (hl : (zent as).length ≤ M.2.2.1) (hL : zent as ++ List.replicate (M.2.2.1 - (zent as).length) none = L) (k : yT G d mc ms 0 0 M Q 0 L [] h) : yC G d mc ms M as h Q := by
  refine Met.ofW (cc := M.2.1) (maxL := M.2.2.1) (ret := M.2.2.2) hy rfl ?_
  intro p e s m args below meth c s₁ B hml hv
  obtain ⟨rfl, ho, hvs, hP, hK, hsz, hAO⟩ := hv
  have hts := atoms_spec (ws := zwm M) B.pre
  have hnm := (name_of_methodNamed B.named B.method).1
  rw [lg_entry_eq]
  have hlv := lv_entry (as.map (zcv G)) (n := M.2.2.1) (by rw [zent_len]; exact hl)
  subst hL
  refine k ho (fun v hv => by cases hv) (fun v hv => ?_) p e s m _ below meth c s.heap [] _ ⟨B.exec, B.bytes, hml, B.returns, B.notSynchronized, findClass_of_methodNamed B.named, fun w hw => hts w (List.mem_cons_of_mem _ hw), hK⟩ hP va_S.rf ⟨⟨hlv.1, hlv.2.1, fun q hq => by cases hq⟩, fun i v hv => ?_⟩ hsz ⟨fun q => hnm.trans q, hAO⟩
  · rcases List.mem_append.mp hv with h1 | h1
    · exact hvs v (zent_mem h1)
    · have := (List.mem_replicate.mp h1).2
      cases this
  · have := zent_at G _ as 0 i v hv
    rw [Nat.zero_add] at this
    exact hlv.2.2 _ this
theorem yPc_blind (as : List zV) (h : yH) : FrameBlind (yPc G as h) := by
  intro a U g mk hq
  obtain ⟨h1, h2, h3, h4, h5, h6, h7⟩ := hq
  exact ⟨h1, h2, h3, h4, zKK_calling h5 g mk a, h6, va_AO.moved (u := U) (U := U.calling g mk a) (Vm.Alike.refl U.vm) h7.1, va_AO.moved (u := U) (U := U.calling g mk a) (Vm.Alike.refl U.vm) h7.2⟩
theorem yC_mono {d mc ms : Nat} {h : yH} {as : List zV} {Q Q' : yH → Prop} (hq : ∀ h', Q h' → Q' h') (k : yC G d mc ms M as h Q) : yC G d mc ms M as h Q' := by
  unfold yC Met at k ⊢
  intro p e ha hc hk s m args below hf happ hP hT
  obtain ⟨n, o, h1, h2, h3, ⟨⟨⟨h', q1, q2, q3, q4⟩, q5⟩, h5⟩⟩ := k p e ha hc hk s m args below hf happ hP hT
  exact ⟨n, o, h1, h2, h3, ⟨⟨⟨h', q1, q2, hq h' q3, q4⟩, q5⟩, h5⟩⟩
/-- room for a constructor -/
def yRo (R : Room) (kc ks d mc ms : Nat) : Prop := d + 1 ≤ R.frames ∧ 64 * (d + 1) ≤ R.locals ∧ kc + mc ≤ R.cells ∧ ks + ms ≤ R.slots
/-- a constructor's words -/
def yMi (Mc : zM) (n : Nat) : Prop := Cond.code Mc.1 Mc.2.1 Mc.2.2.1 none ∈ zUU ∧ Mc.2.2.2 = none ∧ Cond.initialized Mc.1.cls ∈ zUU ∧ Cond.instanceMethod Mc.1 ∈ zUU ∧ Mc.1.name = "<init>" ∧ (Mc.1.cls ≠ "java/lang/invoke/MethodHandle" ∧ Mc.1.cls ≠ "java/lang/invoke/VarHandle") ∧ (parseMethodDescriptor Mc.1.desc).map (fun d => d.parameters.length) = some n ∧ Mc.2.2.1 ≤ 40
theorem y_goes {p : Program} {e : Env} {s : State} {m : MethodId} {args : Array Value} {below : List Frame} {meth : Method} {c : Code} {H : Heap} {locs : List Loc} {ls : Array Slot} {st0 : List Value} {rest : List zV} {a : Array Value} {mc ms : Nat} {h : yH}
    (F : zFx G M p s m args meth c) (S : va_S (zA G) s.heap H locs) (Lv : zlv G ls M.2.2.1 L) (vl : zls L) (vs : zvs rest) (hs : s.heap.size + kc = zgB G + h.1) (hin : (M.1.name = "<init>" → meth.name = "<init>") ∧ yAO s)
    (hr : va_Run p (zgl G) e R s m args below meth c H locs kc ks mc ms (F0 m pc ls st0) (rest.map (zcv G)) (yQc G (fun h' => h'.1 = h.1 + mc ∧ yB G R (kc + mc) (ks + ms) Z M (pc + 3) L rest h') a) (zA G)) : W p (zgl G) e R s m args below meth c H locs kc ks (Z s args below) (F0 m pc ls st0) := by
  intro T hT X
  obtain ⟨v, st₀, t, T', L9, h0, X', hL, e1, e2, ⟨⟨h', hv, hok, ⟨hq1, hq⟩, hP⟩, hz, hk⟩, go⟩ := hr T hT X
  cases hv
  rw [h0] at hz hk
  have S' : va_S (zA G) s.heap T'.heap (locs ++ L9) := ⟨Nat.le_trans S.1 (by rw [e1]; exact hz), fun q h1 h2 => by rw [e1, hk q (Nat.lt_of_lt_of_le h1 S.1) h2]; exact S.2.1 q h1 h2, fun q hq => by
    rcases List.mem_append.mp hq with h | h
    · exact S.2.2 q h
    · exact hL q h⟩
  have K := hq hok vs vl p e s m args below meth c T'.heap (locs ++ L9) ls F (by rw [e1]; exact hP) S' Lv (by omega) hin
  obtain ⟨t2, a1, b1⟩ := K T' rfl X'
  exact ⟨t2, go t2 a1, b1⟩
theorem y_pre {as : List zV} {s : State} {H : Heap} {locs : List Loc} {h : yH} (ho : yok h) (hvs : zvs as) (hP : va_P (zgD G) vwCl (yws G h) H) (hK : zKK G s) (hS : va_S (zA G) s.heap H locs) (hsz : H.size = zgB G + h.1) (hAO : yAO s) : ∀ U : State, U.heap = H → s.WarmedH U.vm → yPc G as h (as.map (zcv G)).toArray U :=
  fun U hU hW => ⟨rfl, ho, hvs, by rw [hU]; exact hP, zKK_warm hK hS hU hW, by rw [hU]; exact hsz, va_AO.moved hW.alike hAO.1, va_AO.moved hW.alike hAO.2⟩
theorem y_callI {ci n idx d mc ms : Nat} {h : yH} {r : Int} {as rest stk : List zV} (hM : yMi Mc n) (hci : ci < 13) (hl : Cond.methodLink M.1.cls idx Mc.1 ∈ zUU) (hd : decode M.2.1 pc = .ok (.invokespecial idx, 3)) (hn : as.length = n) (hR : yRo R kc ks d mc ms) (hcat : zcat rest ≤ 8) (hs9 : as.reverse ++ vr ci r :: rest = stk) (hp : pc + 3 = pc') (k : yC G d mc ms Mc (vr ci r :: as) h (fun h' => h'.1 = h.1 + mc ∧ yB G R (kc + mc) (ks + ms) Z M pc' L rest h')) : yB G R kc ks Z M pc L stk h := by
  subst hp
  subst hs9
  intro o vs vl p e s m args below meth c H locs ls F P S Lv hs hin T0 hT X
  have hsz : H.size = zgB G + h.1 := ysize F.2.2.2.2.2.2.2.2.2.2.2.2.2.1 P S hs hT X
  obtain ⟨hc, hret, hini, hinst, hnm1, hnm, har, hml⟩ := hM
  have hts := F.2.2.2.2.2.2.1
  have hc2 : Cond.code Mc.1 Mc.2.1 Mc.2.2.1 Mc.2.2.2 ∈ zUU := by rw [hret]; exact hc
  have hv1 : zvok (vr ci r) := vs _ (List.mem_append_right _ List.mem_cons_self)
  obtain ⟨a, rfl, ha, hka⟩ := zvok_r (by omega) hv1
  have hva : zvs (vr ci (a : Int) :: as) := fun v hv => by
    rcases List.mem_cons.mp hv with rfl | h
    · exact hv1
    · exact vs v (List.mem_append_left _ (List.mem_reverse.mpr h))
  have hvr : zvs rest := fun v hv => vs v (List.mem_append_right _ (List.mem_cons_of_mem _ hv))
  have ecv : zcv G (vr ci (a : Int)) = .ref (zgB G + a) := by rw [zcv_r G ci a (by omega), Int.toNat_natCast]
  suffices KW : W p (zgl G) e R s m args below meth c H locs kc ks (Z s args below) (F0 m pc ls ((as.reverse ++ vr ci (a : Int) :: rest).map (zcv G))) from KW T0 hT X
  refine y_goes (mc := mc) (ms := ms) F S Lv vl hvr hs hin ?_ (a := (Value.ref (zgB G + a) :: as.map (zcv G)).toArray)
  refine va_runI (b := zgB G + a) (As := as.map (zcv G)) (nL := M.2.2.1) (Ts := zUU) (bytes := Mc.2.1) (maxL := Mc.2.2.1) (n := n) ⟨F.1, F.2.1, F.2.2.1, F.2.2.2.2.2.1, hts⟩ k ⟨⟨rfl, rfl, hR.1, ?_, zwm_pay hts hc2, by rw [← hret]; exact List.mem_cons_self, hts _ hc, hts _ hini, hnm, zarity har, hts _ hl⟩, hnm1, hts _ hinst⟩ ⟨yPc_blind _ _, ?_⟩ rfl (by rw [List.length_map]; exact hn) Lv.1.1 ?_ ?_ hd ⟨hR.2.2.1, hR.2.2.2⟩
  · have := hR.2.1
    show 8 + (Mc.2.2.1 + 11) + 64 * d ≤ R.locals
    omega
  · have := y_pre (as := vr ci (a : Int) :: as) o hva P F.2.2.2.2.2.2.2 S hsz hin.2
    rw [List.map_cons, ecv] at this
    exact this
  · show (as.reverse ++ vr ci (a : Int) :: rest).map (zcv G) = _
    rw [List.map_append, List.map_reverse, List.map_cons, ecv]
  · rw [zcat_ok]
    show 2 * 0 + zcat rest ≤ 8
    omega
theorem y_callIN {ci n idx d mc ms : Nat} {host : String} {h : yH} {r : Int} {as rest stk : List zV} (hM : yMi Mc n) (hci : ci < 13) (hl : (M.1.cls, idx, Mc.1, host) ∈ zNest) (hd : decode M.2.1 pc = .ok (.invokespecial idx, 3)) (hn : as.length = n) (hR : yRo R kc ks d mc ms) (hcat : zcat rest ≤ 8) (hs9 : as.reverse ++ vr ci r :: rest = stk) (hp : pc + 3 = pc') (k : yC G d mc ms Mc (vr ci r :: as) h (fun h' => h'.1 = h.1 + mc ∧ yB G R (kc + mc) (ks + ms) Z M pc' L rest h')) : yB G R kc ks Z M pc L stk h := by
  subst hp
  subst hs9
  intro o vs vl p e s m args below meth c H locs ls F P S Lv hs hin T0 hT X
  have hsz : H.size = zgB G + h.1 := ysize F.2.2.2.2.2.2.2.2.2.2.2.2.2.1 P S hs hT X
  obtain ⟨hc, hret, hini, hinst, hnm1, hnm, har, hml⟩ := hM
  have hts := F.2.2.2.2.2.2.1
  have hc2 : Cond.code Mc.1 Mc.2.1 Mc.2.2.1 Mc.2.2.2 ∈ zUU := by rw [hret]; exact hc
  have hv1 : zvok (vr ci r) := vs _ (List.mem_append_right _ List.mem_cons_self)
  obtain ⟨a, rfl, ha, hka⟩ := zvok_r (by omega) hv1
  have hva : zvs (vr ci (a : Int) :: as) := fun v hv => by
    rcases List.mem_cons.mp hv with rfl | h
    · exact hv1
    · exact vs v (List.mem_append_left _ (List.mem_reverse.mpr h))
  have hvr : zvs rest := fun v hv => vs v (List.mem_append_right _ (List.mem_cons_of_mem _ hv))
  have ecv : zcv G (vr ci (a : Int)) = .ref (zgB G + a) := by rw [zcv_r G ci a (by omega), Int.toNat_natCast]
  suffices KW : W p (zgl G) e R s m args below meth c H locs kc ks (Z s args below) (F0 m pc ls ((as.reverse ++ vr ci (a : Int) :: rest).map (zcv G))) from KW T0 hT X
  refine y_goes (mc := mc) (ms := ms) F S Lv vl hvr hs hin ?_ (a := (Value.ref (zgB G + a) :: as.map (zcv G)).toArray)
  refine va_runIN (host := host) (b := zgB G + a) (As := as.map (zcv G)) (nL := M.2.2.1) (Ts := zUU) (bytes := Mc.2.1) (maxL := Mc.2.2.1) (n := n) ⟨F.1, F.2.1, F.2.2.1, F.2.2.2.2.2.1, hts⟩ k ⟨⟨⟨rfl, rfl, hR.1, ?_, zwm_pay hts hc2, by rw [← hret]; exact List.mem_cons_self⟩, hts _ hc, hts _ hini, hnm, zarity har, va_Nw.use rfl (F.2.2.2.2.2.2.2.2.1 _ hl)⟩, hnm1, hts _ hinst⟩ ⟨yPc_blind _ _, ?_⟩ rfl (by rw [List.length_map]; exact hn) Lv.1.1 ?_ ?_ hd ⟨hR.2.2.1, hR.2.2.2⟩
  · have := hR.2.1
    show 8 + (Mc.2.2.1 + 11) + 64 * d ≤ R.locals
    omega
  · have := y_pre (as := vr ci (a : Int) :: as) o hva P F.2.2.2.2.2.2.2 S hsz hin.2
    rw [List.map_cons, ecv] at this
    exact this
  · show (as.reverse ++ vr ci (a : Int) :: rest).map (zcv G) = _
    rw [List.map_append, List.map_reverse, List.map_cons, ecv]
  · rw [zcat_ok]
    show 2 * 0 + zcat rest ≤ 8
    omega
end YC
