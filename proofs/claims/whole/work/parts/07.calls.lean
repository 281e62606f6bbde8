/-! ===== returns, entries, calls ===== -/
section ZC
variable {G : zG} {R : Room} {kc ks : Nat} {Z : State → Array Value → List Frame → State → Prop} {M Mc : zM} {pc pc' : Nat} {L L' : List (Option zV)} {st : List zV} {h : zH} {d : Nat} {Q : Option zV → zH → Prop}
theorem z_ireturn {x : Int} (hr : M.2.2.2 = some .int) (hd : decode M.2.1 pc = .ok (.ireturn, 1)) (k : Q (some (vi x)) h) : zT G d M Q pc L [vi x] h := by
  intro o vs vl p e s m args below meth c H locs ls F P S Lv
  have hlocks : meth.locks = false := F.2.2.2.2.1
  exact W.iret F.1 F.2.1 (F.2.2.2.1.trans hr) (fun t ht hW => ⟨⟨some (vi x), h, rfl, fun v hv => by cases hv; exact Or.inl rfl, o, k, by rw [ht]; exact P⟩, S.F ht⟩) S.2.2 hd
theorem z_zreturn {x : Int} (hr : M.2.2.2 = some .boolean) (hx : x = 0 ∨ x = 1) (hd : decode M.2.1 pc = .ok (.ireturn, 1)) (k : Q (some (vi x)) h) : zT G d M Q pc L [vi x] h := by
  intro o vs vl p e s m args below meth c H locs ls F P S Lv
  have hlocks : meth.locks = false := F.2.2.2.2.1
  exact W.zret F.1 F.2.1 (F.2.2.2.1.trans hr) (by rcases hx with rfl | rfl <;> rfl) (fun t ht hW => ⟨⟨some (vi x), h, rfl, fun v hv => by cases hv; exact Or.inl rfl, o, k, by rw [ht]; exact P⟩, S.F ht⟩) S.2.2 hd
theorem z_lreturn {x : Int} (hr : M.2.2.2 = some .long) (hd : decode M.2.1 pc = .ok (.lreturn, 1)) (k : Q (some (vl x)) h) : zT G d M Q pc L [vl x] h := by
  intro o vs vl p e s m args below meth c H locs ls F P S Lv
  have hlocks : meth.locks = false := F.2.2.2.2.1
  exact W.lret F.1 F.2.1 (F.2.2.2.1.trans hr) (fun t ht hW => ⟨⟨some ((1, x) : zV), h, rfl, fun v hv => by cases hv; exact Or.inr (Or.inl rfl), o, k, by rw [ht]; exact P⟩, S.F ht⟩) S.2.2 hd
theorem z_return (hr : M.2.2.2 = none) (hd : decode M.2.1 pc = .ok (.return_, 1)) (k : Q none h) : zT G d M Q pc L [] h := by
  intro o vs vl p e s m args below meth c H locs ls F P S Lv
  have hlocks : meth.locks = false := F.2.2.2.2.1
  exact W.vret F.1 F.2.1 (F.2.2.2.1.trans hr) (fun t ht hW => ⟨⟨none, h, rfl, fun v hv => (by cases hv), o, k, by rw [ht]; exact P⟩, S.F ht⟩) S.2.2 hd
/-- the locals at a method's entry -/
def zent : List zV → List (Option zV)
  | [] => []
  | v :: r => if v.1 = 1 then some v :: none :: zent r else some v :: zent r
theorem zent_at (G : zG) (pad : Nat) : ∀ (as : List zV) (b i : Nat) (v : zV), (zent as ++ List.replicate pad none)[i]? = some (some v) → (b + i, zcv G v) ∈ lv_args b (as.map (zcv G))
  | [], b, i, v, h => by
    exfalso
    rw [zent, List.nil_append] at h
    have := List.mem_replicate.mp (List.mem_of_getElem? h)
    cases this.2
  | a :: r, b, i, v, h => by
    rw [List.map_cons, lv_args]
    by_cases e : a.1 = 1
    · rw [zent, if_pos e] at h
      rw [zcv_cat2 G a e, if_pos rfl]
      match i, h with
      | 0, h =>
        cases h
        exact List.mem_cons_self
      | 1, h => cases h
      | i + 2, h =>
        have h2 := zent_at G pad r (b + 2) i v h
        rw [show b + (i + 2) = b + 2 + i by omega]
        exact List.mem_cons_of_mem _ h2
    · rw [zent, if_neg e] at h
      rw [zcv_cat1 G a e, if_neg (by decide)]
      match i, h with
      | 0, h =>
        cases h
        exact List.mem_cons_self
      | i + 1, h =>
        have h2 := zent_at G pad r (b + 1) i v h
        rw [show b + (i + 1) = b + 1 + i by omega]
        exact List.mem_cons_of_mem _ h2
theorem zent_len (G : zG) : ∀ as : List zV, (lg_sl (as.map (zcv G))).length = (zent as).length
  | [] => rfl
  | a :: r => by
    have ih := zent_len G r
    unfold lg_sl at ih ⊢
    rw [List.map_cons, List.flatMap_cons, List.length_append, ih, zent]
    by_cases e : a.1 = 1
    · rw [zcv_cat2 G a e, if_pos rfl, if_pos e]
      simp
      omega
    · rw [zcv_cat1 G a e, if_neg (by decide), if_neg e]
      simp
      omega
theorem zent_mem : ∀ {as : List zV} {v : zV}, some v ∈ zent as → v ∈ as
  | [], v, h => by cases h
  | a :: r, v, h => by
    rw [zent] at h
    by_cases e : a.1 = 1
    · rw [if_pos e] at h
      rcases List.mem_cons.mp h with h | h
      · cases h
        exact List.mem_cons_self
      · rcases List.mem_cons.mp h with h | h
        · cases h
        · exact List.mem_cons_of_mem _ (zent_mem h)
    · rw [if_neg e] at h
      rcases List.mem_cons.mp h with h | h
      · cases h
        exact List.mem_cons_self
      · exact List.mem_cons_of_mem _ (zent_mem h)
theorem z_entry {as : List zV} (hy : plainName M.1.cls = true) (hl : (zent as).length ≤ M.2.2.1) (hL : zent as ++ List.replicate (M.2.2.1 - (zent as).length) none = L) (k : zT G d M Q 0 L [] h) : zC G d M as h Q := by
  refine Met.ofW (cc := M.2.1) (maxL := M.2.2.1) (ret := M.2.2.2) hy rfl ?_
  intro p e s m args below meth c s₁ B hml hv
  obtain ⟨rfl, ho, hvs, hP, hK⟩ := hv
  have hts := atoms_spec (ws := zwm M) B.pre
  rw [lg_entry_eq]
  have hlv := lv_entry (as.map (zcv G)) (n := M.2.2.1) (by rw [zent_len]; exact hl)
  subst hL
  refine k ho (fun v hv => by cases hv) (fun v hv => ?_) p e s m _ below meth c s.heap [] _ ⟨B.exec, B.bytes, hml, B.returns, B.notSynchronized, findClass_of_methodNamed B.named, fun w hw => hts w (List.mem_cons_of_mem _ hw), hK⟩ hP va_S.rf ⟨⟨hlv.1, hlv.2.1, fun q hq => by cases hq⟩, fun i v hv => ?_⟩
  · rcases List.mem_append.mp hv with h1 | h1
    · exact hvs v (zent_mem h1)
    · have := (List.mem_replicate.mp h1).2
      cases this
  · have := zent_at G _ as 0 i v hv
    rw [Nat.zero_add] at this
    exact hlv.2.2 _ this
theorem zKK_calling {s : State} (hK : zKK G s) (g : JFrame) (mk : MethodId) (a : Array Value) : zKK G (s.calling g mk a) := by
  obtain ⟨h1, h2, h3, h4, h5, h6, h7, h8, h9, h10, h11, h12⟩ := hK
  refine ⟨va_K.moved (u := s) (U := s.calling g mk a) (Vm.Alike.refl s.vm) h1, fun q hq => va_Nw.same rfl (u := s) (U := s.calling g mk a) rfl (h2 q hq), vk_S.moved (u := s) (U := s.calling g mk a) (Vm.Alike.refl s.vm) h3, fun q hq => vk_R.same (u := s) (U := s.calling g mk a) rfl (h4 q hq), ?_, h6, h7, va_Z.moved (u := s) (U := s.calling g mk a) (Vm.Alike.refl s.vm) h8, va_Z.moved (u := s) (U := s.calling g mk a) (Vm.Alike.refl s.vm) h9, vx_Zq.moved (u := s) (U := s.calling g mk a) (Vm.Alike.refl s.vm) h10, vx_Zq.moved (u := s) (U := s.calling g mk a) (Vm.Alike.refl s.vm) h11, va_Nw.same rfl (u := s) (U := s.calling g mk a) rfl h12⟩
  obtain ⟨scr, q1, q2, q3, q4, q5⟩ := h5
  exact ⟨scr, q1, State.isArrayOf_alike (Vm.Alike.refl s.vm) q2, q3, q4, q5⟩
theorem zKK_warm {s U : State} {H : Heap} {locs : List Loc} (hK : zKK G s) (hS : va_S (zA G) s.heap H locs) (hH : U.heap = H) (hW : s.WarmedH U.vm) : zKK G U := by
  obtain ⟨h1, h2, h3, h4, h5, h6, h7, h8, h9, h10, h11, h12⟩ := hK
  subst hH
  refine ⟨va_K.moved hW.alike h1, fun q hq => va_Nw.warmM hW (h2 q hq), vk_S.kept (vk_S.moved hW.alike h3) hS.2.1, fun q hq => vk_R.warm hW (h4 q hq), ?_, h6, Nat.le_trans h7 hS.1, va_Z.kept (va_Z.moved hW.alike h8) hS.2.1, va_Z.kept (va_Z.moved hW.alike h9) hS.2.1, vx_Zq.kept (vx_Zq.moved hW.alike h10) hS.2.1, vx_Zq.kept (vx_Zq.moved hW.alike h11) hS.2.1, va_Nw.warmC hW h12⟩
  obtain ⟨scr, q1, q2, q3, q4, q5⟩ := h5
  exact ⟨scr, by rw [hS.2.1 (zgb G) (by omega) (show ¬ zgB G ≤ zgb G by omega)]; exact q1, State.isArrayOf_alike hW.alike q2, q3, q4, q5⟩
theorem zPc_blind (as : List zV) (h : zH) : FrameBlind (zPc G as h) := by
  intro a U g mk hq
  obtain ⟨h1, h2, h3, h4, h5⟩ := hq
  exact ⟨h1, h2, h3, h4, zKK_calling h5 g mk a⟩
theorem zPc_of {as : List zV} {s : State} {H : Heap} {locs : List Loc} (ho : zok h) (hvs : zvs as) (hP : va_P (zgD G) vwCl (zws G h) H) (hK : zKK G s) (hS : va_S (zA G) s.heap H locs) : ∀ U : State, U.heap = H → s.WarmedH U.vm → zPc G as h (as.map (zcv G)).toArray U :=
  fun U hU hW => ⟨rfl, ho, hvs, by rw [hU]; exact hP, zKK_warm hK hS hU hW⟩
/-- what a call's answer leads to -/
theorem z_goes {p : Program} {e : Env} {s : State} {m : MethodId} {args : Array Value} {below : List Frame} {meth : Method} {c : Code} {H : Heap} {locs : List Loc} {ls : Array Slot} {st0 : List Value} {rest : List zV} {a : Array Value}
    (F : zFx G M p s m args meth c) (S : va_S (zA G) s.heap H locs) (Lv : zlv G ls M.2.2.1 L) (vl : zls L) (vs : zvs rest)
    (hr : va_Run p (zgl G) e R s m args below meth c H locs kc ks 0 0 (F0 m pc ls st0) (rest.map (zcv G)) (zQc G (fun r h' => zB G R kc ks Z M (pc + 3) L (r.toList ++ rest) h') a) (zA G)) : W p (zgl G) e R s m args below meth c H locs kc ks (Z s args below) (F0 m pc ls st0) := by
  intro T hT X
  obtain ⟨v, st₀, t, T', L9, h0, X', hL, e1, e2, ⟨⟨r, h', hv, hvk, hok, hq, hP⟩, hz, hk⟩, go⟩ := hr T hT X
  cases hv
  rw [h0] at hz hk
  have S' : va_S (zA G) s.heap T'.heap (locs ++ L9) := ⟨Nat.le_trans S.1 (by rw [e1]; exact hz), fun q h1 h2 => by rw [e1, hk q (Nat.lt_of_lt_of_le h1 S.1) h2]; exact S.2.1 q h1 h2, fun q hq => by
    rcases List.mem_append.mp hq with h | h
    · exact S.2.2 q h
    · exact hL q h⟩
  have hvs : zvs (r.toList ++ rest) := fun w hw => by
    rcases List.mem_append.mp hw with h | h
    · exact hvk w (Option.mem_toList.mp h)
    · exact vs w h
  have K := hq hok hvs vl p e s m args below meth c T'.heap (locs ++ L9) ls F (by rw [e1]; exact hP) S' Lv
  have em : (r.toList ++ rest).map (zcv G) = (r.map (zcv G)).toList ++ rest.map (zcv G) := by cases r <;> rfl
  rw [em] at K
  obtain ⟨t2, a1, b1⟩ := K T' rfl X'
  exact ⟨t2, go t2 a1, b1⟩
/-- room for a callee of depth d -/
def zRo (R : Room) (kc ks d : Nat) : Prop := d + 1 ≤ R.frames ∧ 64 * (d + 1) ≤ R.locals ∧ kc ≤ R.cells ∧ ks ≤ R.slots
theorem zRo_d (d : Nat) : zRo (zrm (d + 1)) 0 0 d := ⟨Nat.le_refl _, Nat.le_refl _, Nat.le_refl _, Nat.le_refl _⟩
def zcat (st : List zV) : Nat := (st.map (fun v => if v.1 = 1 then 2 else 1)).sum
theorem zcat_ok (G : zG) : ∀ st : List zV, ((st.map (zcv G)).map fun v => v.category).sum = zcat st
  | [] => rfl
  | a :: r => by
    have ih := zcat_ok G r
    unfold zcat at ih ⊢
    rw [List.map_cons, List.map_cons, List.map_cons, List.sum_cons, List.sum_cons, ih]
    by_cases e : a.1 = 1
    · rw [zcv_cat2 G a e, if_pos e]
    · rw [zcv_cat1 G a e, if_neg e]
/-- of a method of an object: its words, its class's kind -/
def zMv (Mc : zM) (ci n : Nat) : Prop := Cond.code Mc.1 Mc.2.1 Mc.2.2.1 Mc.2.2.2 ∈ zUU ∧ Cond.initialized Mc.1.cls ∈ zUU ∧ Cond.instanceMethod Mc.1 ∈ zUU ∧ Cond.selects Mc.1.cls Mc.1 Mc.1 ∈ zUU ∧ (Mc.1.cls ≠ "java/lang/invoke/MethodHandle" ∧ Mc.1.cls ≠ "java/lang/invoke/VarHandle") ∧ (parseMethodDescriptor Mc.1.desc).map (fun d => d.parameters.length) = some n ∧ Mc.2.2.1 ≤ 40 ∧ ci < 13 ∧ ∃ T N, vwCl[ci]? = some (Mc.1.cls, T, N)
def zMs (Mc : zM) (n : Nat) : Prop := Cond.code Mc.1 Mc.2.1 Mc.2.2.1 Mc.2.2.2 ∈ zUU ∧ Cond.initialized Mc.1.cls ∈ zUU ∧ Cond.static Mc.1 ∈ zUU ∧ (Mc.1.cls ≠ "java/lang/invoke/MethodHandle" ∧ Mc.1.cls ≠ "java/lang/invoke/VarHandle") ∧ (parseMethodDescriptor Mc.1.desc).map (fun d => d.parameters.length) = some n ∧ Mc.2.2.1 ≤ 40
theorem zwm_pay {s : State} {args : Array Value} (hts : ∀ w ∈ zUU, w.before args s = true) (hc : Cond.code Mc.1 Mc.2.1 Mc.2.2.1 Mc.2.2.2 ∈ zUU) : ∀ w ∈ zwm Mc, ∀ (a' : Array Value) (U : State), s.WarmedH U.vm → w.before a' U = true :=
  pay_in hts (fun w hw => by
    rcases List.mem_cons.mp hw with rfl | h
    · exact ⟨hc, zUU_good hc⟩
    · exact ⟨h, zUU_good h⟩)
theorem zarity {desc : String} {n : Nat} (h : (parseMethodDescriptor desc).map (fun d => d.parameters.length) = some n) : ∀ sig, parseMethodDescriptor desc = some sig → n = sig.parameters.length := fun sig hs => by
  rw [hs] at h
  exact (Option.some.inj h).symm
theorem z_callV {ci n idx : Nat} {r : Int} {as rest stk : List zV} (hM : zMv Mc ci n) (hl : Cond.methodLink M.1.cls idx Mc.1 ∈ zUU) (hd : decode M.2.1 pc = .ok (.invokevirtual idx, 3)) (hn : as.length = n) (hR : zRo R kc ks d) (hcat : zcat rest ≤ 8) (hs : as.reverse ++ vr ci r :: rest = stk) (hp : pc + 3 = pc') (k : zC G d Mc (vr ci r :: as) h (fun x h' => zB G R kc ks Z M pc' L (x.toList ++ rest) h')) : zB G R kc ks Z M pc L stk h := by
  subst hp
  subst hs
  intro o vs vl p e s m args below meth c H locs ls F P S Lv
  obtain ⟨hc, hini, hinst, hsel, hnm, har, hml, hci, T9, N9, hcl⟩ := hM
  have hts := F.2.2.2.2.2.2.1
  have hv1 : zvok (vr ci r) := vs _ (List.mem_append_right _ List.mem_cons_self)
  obtain ⟨a, rfl, ha, hka⟩ := zvok_r (by omega) hv1
  have hva : zvs (vr ci (a : Int) :: as) := fun v hv => by
    rcases List.mem_cons.mp hv with rfl | h
    · exact hv1
    · exact vs v (List.mem_append_left _ (List.mem_reverse.mpr h))
  have hvr : zvs rest := fun v hv => vs v (List.mem_append_right _ (List.mem_cons_of_mem _ hv))
  have ecv : zcv G (vr ci (a : Int)) = .ref (zgB G + a) := by rw [zcv_r G ci a (by omega), Int.toNat_natCast]
  refine z_goes F S Lv vl hvr ?_ (a := (Value.ref (zgB G + a) :: as.map (zcv G)).toArray)
  refine va_runV (C := Mc.1.cls) (b := zgB G + a) (As := as.map (zcv G)) (nL := M.2.2.1) (Ts := zUU) ⟨F.1, F.2.1, F.2.2.1, F.2.2.2.2.2.1, hts⟩ k ⟨⟨rfl, rfl, hR.1, ?_, zwm_pay hts hc, List.mem_cons_self, hts _ hc, hts _ hini, hnm, zarity har, hts _ hl⟩, hts _ hinst, hts _ hsel⟩ ⟨zPc_blind _ _, ?_, ?_⟩ rfl (by rw [List.length_map]; exact hn) Lv.1.1 ?_ ?_ hd ⟨hR.2.2.1, hR.2.2.2⟩
  · have := hR.2.1
    show 8 + (Mc.2.2.1 + 11) + 64 * d ≤ R.locals
    omega
  · exact va_recv F.2.2.2.2.2.2.2.1 P (q := (Mc.1.cls, T9, N9)) hcl (ci := ci) (q0 := a) (by rw [zws_get G h ha, zcell_obj G h hka hci])
  · have := zPc_of (as := vr ci (a : Int) :: as) o hva P F.2.2.2.2.2.2.2 S
    rw [List.map_cons, ecv] at this
    exact this
  · show (as.reverse ++ vr ci (a : Int) :: rest).map (zcv G) = _
    rw [List.map_append, List.map_reverse, List.map_cons, ecv]
  · rw [zcat_ok]
    show 2 * 0 + zcat rest ≤ 8
    omega
theorem z_callS {n idx : Nat} {as rest stk : List zV} (hM : zMs Mc n) (hl : Cond.methodLink M.1.cls idx Mc.1 ∈ zUU) (hd : decode M.2.1 pc = .ok (.invokestatic idx, 3)) (hn : as.length = n) (hR : zRo R kc ks d) (hcat : zcat rest ≤ 8) (hs : as.reverse ++ rest = stk) (hp : pc + 3 = pc') (k : zC G d Mc as h (fun x h' => zB G R kc ks Z M pc' L (x.toList ++ rest) h')) : zB G R kc ks Z M pc L stk h := by
  subst hp
  subst hs
  intro o vs vl p e s m args below meth c H locs ls F P S Lv
  obtain ⟨hc, hini, hst, hnm, har, hml⟩ := hM
  have hts := F.2.2.2.2.2.2.1
  have hva : zvs as := fun v hv => vs v (List.mem_append_left _ (List.mem_reverse.mpr hv))
  have hvr : zvs rest := fun v hv => vs v (List.mem_append_right _ hv)
  refine z_goes F S Lv vl hvr ?_ (a := (as.map (zcv G)).toArray)
  refine va_runS (As := as.map (zcv G)) (nL := M.2.2.1) (Ts := zUU) ⟨F.1, F.2.1, F.2.2.1, F.2.2.2.2.2.1, hts⟩ k ⟨⟨rfl, rfl, hR.1, ?_, zwm_pay hts hc, List.mem_cons_self, hts _ hc, hts _ hini, hnm, zarity har, hts _ hl⟩, hts _ hst⟩ ⟨zPc_blind _ _, zPc_of o hva P F.2.2.2.2.2.2.2 S⟩ rfl (by rw [List.length_map]; exact hn) Lv.1.1 ?_ ?_ hd ⟨hR.2.2.1, hR.2.2.2⟩
  · have := hR.2.1
    show 8 + (Mc.2.2.1 + 11) + 64 * d ≤ R.locals
    omega
  · show (as.reverse ++ rest).map (zcv G) = _
    rw [List.map_append, List.map_reverse]
  · rw [zcat_ok]
    show 2 * 0 + zcat rest ≤ 8
    omega
theorem z_callSN {n idx : Nat} {host : String} {as rest stk : List zV} (hM : zMs Mc n) (hl : (M.1.cls, idx, Mc.1, host) ∈ zNest) (hd : decode M.2.1 pc = .ok (.invokestatic idx, 3)) (hn : as.length = n) (hR : zRo R kc ks d) (hcat : zcat rest ≤ 8) (hs : as.reverse ++ rest = stk) (hp : pc + 3 = pc') (k : zC G d Mc as h (fun x h' => zB G R kc ks Z M pc' L (x.toList ++ rest) h')) : zB G R kc ks Z M pc L stk h := by
  subst hp
  subst hs
  intro o vs vl p e s m args below meth c H locs ls F P S Lv
  obtain ⟨hc, hini, hst, hnm, har, hml⟩ := hM
  have hts := F.2.2.2.2.2.2.1
  have hva : zvs as := fun v hv => vs v (List.mem_append_left _ (List.mem_reverse.mpr hv))
  have hvr : zvs rest := fun v hv => vs v (List.mem_append_right _ hv)
  refine z_goes F S Lv vl hvr ?_ (a := (as.map (zcv G)).toArray)
  refine va_runSN (host := host) (As := as.map (zcv G)) (nL := M.2.2.1) (Ts := zUU) ⟨F.1, F.2.1, F.2.2.1, F.2.2.2.2.2.1, hts⟩ k ⟨⟨⟨rfl, rfl, hR.1, ?_, zwm_pay hts hc, List.mem_cons_self⟩, hts _ hc, hts _ hini, hnm, zarity har, va_Nw.use rfl (F.2.2.2.2.2.2.2.2.1 _ hl)⟩, hts _ hst, trivial⟩ ⟨zPc_blind _ _, zPc_of o hva P F.2.2.2.2.2.2.2 S⟩ rfl (by rw [List.length_map]; exact hn) Lv.1.1 ?_ ?_ hd ⟨hR.2.2.1, hR.2.2.2⟩
  · have := hR.2.1
    show 8 + (Mc.2.2.1 + 11) + 64 * d ≤ R.locals
    omega
  · show (as.reverse ++ rest).map (zcv G) = _
    rw [List.map_append, List.map_reverse]
  · rw [zcat_ok]
    show 2 * 0 + zcat rest ≤ 8
    omega
theorem zQc_mono {Q' : Option zV → zH → Prop} (hq : ∀ r h', Q r h' → Q' r h') {a : Array Value} {s t : State} {o : Outcome} (k : zQc G Q a s o t) : zQc G Q' a s o t := by
  obtain ⟨⟨r, h', h1, h2, h3, h4, h5⟩, h6⟩ := k
  exact ⟨⟨r, h', h1, h2, h3, hq r h' h4, h5⟩, h6⟩
theorem zT_mono {Q' : Option zV → zH → Prop} (hq : ∀ r h', Q r h' → Q' r h') (k : zT G d M Q pc L st h) : zT G d M Q' pc L st h := by
  intro o vs vl p e s m args below meth c H locs ls F P S Lv T hT X
  obtain ⟨t, h1, oc, h2, h3, h4, h5⟩ := k o vs vl p e s m args below meth c H locs ls F P S Lv T hT X
  exact ⟨t, h1, oc, h2, h3, zQc_mono hq h4, h5⟩
end ZC
