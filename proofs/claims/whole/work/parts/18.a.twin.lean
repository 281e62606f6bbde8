/-! ===== what throws, what catches ===== -/
abbrev xNS : String := "java/util/NoSuchElementException"
/-- the search for a handler in a table of one line that catches: it may note the class -/
theorem zx_find {e : Env} {S : State} {f : JFrame} {q : Addr} {meth : Method} {c : Code} {x : ExceptionTableEntry} {k : ClassId} {cell : Cell} (hm : S.vm.method? f.method = some meth) (hc : meth.code = some c) (ht : c.exceptionTable.toList = [x]) (hx : covers x f.pc = true) (h0 : x.catchType ≠ 0)
    (hl : S.vm.ClassLinks e.platform f.method.cls x.catchType k) (hq : S.heap[q]? = some cell) (hv : ∀ z, cell.vm ≠ .statics z) (hk1 : ∃ z, S.vm.classes[cell.cls]? = some z) (hk2 : ∃ z, S.vm.classes[k]? = some z) (hf : S.vm.assignable cell.cls k = true) (Q : Handler → Pre) (E : CtlPost) (d : Bool) (acts : List Action) :
    wp (findHandler f q) Q E e d acts S ↔ Q (.found x.handlerPc) d acts (S.setVm (S.vm.noted f.method.cls x.catchType (.cls k))) := by
  rw [W.findHandler_eq hm hc, ht]
  simp only [covers] at hx
  have hal : S.vm.Alike (S.vm.noted f.method.cls x.catchType (.cls k)) := (Vm.Alike.refl S.vm).noted _ _ _
  obtain ⟨r1, r2⟩ := (resolveClass_links e.toSetting hl).op (op := VmOp.resolveClass f.method.cls x.catchType) rfl
  obtain ⟨z1, hz1⟩ := hk1
  obtain ⟨z2, hz2⟩ := hk2
  obtain ⟨w1, hw1, -⟩ := hal.2.2 _ _ hz1
  obtain ⟨w2, hw2, -⟩ := hal.2.2 _ _ hz2
  have hf2 : (S.vm.noted f.method.cls x.catchType (.cls k)).assignable cell.cls k = true := by rw [hal.assignable]; exact hf
  simp [findHandler.go, hx, h0, r1, r2, hq, hv, hw1, hw2, hf2, VmOp.dirties, VmOp.acts]
section XA
variable {p : Program} {l : Launch} {e : Env} {R : Room} {s : State} {m : MethodId} {args : Array Value} {below : List Frame} {meth : Method} {c : Code} {H : Heap} {locs : List Loc} {cells slots : Nat} {Q : State → Prop} {ls : Array Slot} {rest : List Value} {pc : Nat}
theorem zx_catch {own name E : String} {ce : Cell} {q : Addr} {x : ExceptionTableEntry} (hown : s.vm.findClass own = some m.cls) (ht : c.exceptionTable.toList = [x]) (hx : covers x pc = true) (h0 : x.catchType ≠ 0) (hlink : (Cond.classLink own x.catchType name).before args s = true) (hcast : (Cond.castable E name).before args s = true) (hcell : H[q]? = some ce) (hv : ce.vm = .none) (hcl : s.vm.findClass E = some ce.cls)
    (kk : W p l e R s m args below meth c H locs cells slots Q (F0 m x.handlerPc ls [.ref q])) : vx_W p l e R s m args below meth c H locs cells slots Q (F0 m pc ls rest) q := by
  intro T hT X
  have hpl : e.platform.magicAccessors = ({} : Platform).magicAccessors := by rw [X.admits.platform]
  obtain ⟨c3, c4, hc3, hc4, hasg⟩ := Cond.castable_spec hcast
  cases Option.some.inj (hc3.symm.trans hcl)
  obtain ⟨c5, hc5, hcl5⟩ := Cond.classLink_spec hown hlink e.platform hpl
  cases Option.some.inj (hc4.symm.trans hc5)
  obtain ⟨dk, _, _, kt, hd, _, _, _, _, hkt, _, hopen⟩ := hcl5.here
  have hal := X.warmed.alike
  have hW2 : s.WarmedH (T.vm.noted m.cls x.catchType (.cls c4)) := X.warmed.noted hd hopen (State.rightAt_cls hcl5)
  obtain ⟨kt2, hkt2, -⟩ := hal.2.2 _ _ hkt
  have hfit : T.vm.assignable ce.cls c4 = true := by rw [hal.assignable]; exact hasg
  have X2 := X.noted hW2
  obtain ⟨t, a1, b1⟩ := kk (T.setVm (T.vm.noted m.cls x.catchType (.cls c4))) hT X2
  refine ⟨t, ?_, b1⟩
  have hfind := fun Q9 E9 d9 acts9 => zx_find (e := e) (S := (T.setTop (F0 m pc ls rest)).pushFrame (.throwing q)) (f := F0 m pc ls rest) (q := q) (meth := meth) (c := c) (x := x) (k := c4) (cell := ce) X.method' X.code ht hx h0 (X.warmed.classLinks hcl5) (by rw [Stand.throwing_heap, hT]; exact hcell) (by rw [hv]; intro z hz; cases hz) (Vm.classAt_of_assignable hfit ⟨kt2, hkt2⟩) ⟨kt2, hkt2⟩ hfit Q9 E9 d9 acts9
  obtain ⟨hgo, hw⟩ := X.here.throwing (g := F0 m pc ls rest) q
  refine Steps.head hgo hw ?_
  rw [stepThread_throwing (frames_entered X.here.top _)]
  obtain ⟨g0, hg0⟩ := Option.isSome_iff_exists.mp X.here.top
  obtain ⟨r, hr⟩ := State.topJava?_eq_some.mp hg0
  have hr2 : (T.setVm (T.vm.noted m.cls x.catchType (.cls c4))).frames = .java g0 :: r := hr
  rw [State.setTop_of_frames _ hr2] at a1
  have hstep : (stepThrowing e ((T.setTop (F0 m pc ls rest)).pushFrame (.throwing q)) q (.java (F0 m pc ls rest) :: r)).Is ((((T.setTop (F0 m pc ls rest)).pushFrame (.throwing q)).setVm (T.vm.noted m.cls x.catchType (.cls c4))).setFrames (.java (F0 m x.handlerPc ls [.ref q]) :: r)) [] := by
    simp only [stepThrowing, searchFrame, vmDo]
    generalize hg : Sem.go _ e false [] ((T.setTop (F0 m pc ls rest)).pushFrame (.throwing q)) = res
    obtain ⟨as, rfl, ha⟩ := Sem.eq_ok_of hg (a := Handler.found x.handlerPc) (s' := ((T.setTop (F0 m pc ls rest)).pushFrame (.throwing q)).setVm (T.vm.noted m.cls x.catchType (.cls c4))) (acts' := []) (by simp [hfind _ _ _ _]; rfl)
    exact ⟨rfl, ha⟩
  rw [hr, List.tail_cons, hstep.1]
  have e9 : (((T.setTop (F0 m pc ls rest)).pushFrame (.throwing q)).setVm (T.vm.noted m.cls x.catchType (.cls c4))).setFrames (.java (F0 m x.handlerPc ls [.ref q]) :: r) = (T.setVm (T.vm.noted m.cls x.catchType (.cls c4))).setFrames (.java (F0 m x.handlerPc ls [.ref q]) :: r) := by
    have e8 : ∀ (u : State) (v : Vm) (A B : List Frame), ((u.setFrames A).setVm v).setFrames B = (u.setVm v).setFrames B := fun u v A B => by
      show ((u.setVm v).setFrames A).setFrames B = _
      rw [State.setFrames_setFrames]
    rw [State.pushFrame, State.setTop_of_frames _ hr, e8, e8]
  rw [e9]
  exact a1
end XA
def xrm (d : Nat) : Room := { frames := d, cells := 1, slots := 6, locals := 64 * d }
theorem xRo_d (d : Nat) : zRo (xrm (d + 1)) 0 0 d := ⟨Nat.le_refl _, Nat.le_refl _, Nat.zero_le _, Nat.zero_le _⟩
def xX (G : zG) (QX : zH → Prop) : String → State → State → Prop := fun E st t => E = xNS ∧ (∃ h', zok h' ∧ QX h' ∧ va_P (zgD G) vwCl (zws G h') t.heap) ∧ va_F (zA G) st t
def xZ (G : zG) (Q : Option zV → zH → Prop) (QX : zH → Prop) : State → Array Value → List Frame → State → Prop := fun s args below t => (∀ (m : MethodId) (meth : Method) (c : Code), s.frames = .invoking m args :: below → s.vm.method? m = some meth → meth.code = some c → ∀ x ∈ c.exceptionTable.toList, False) → xD s → vx_MQ below (zQc G Q) (xX G QX) args s 1 6 (zA G) t
section XB
variable {G : zG} {M : zM} {pc pc' : Nat} {L L' : List (Option zV)} {st : List zV} {h : zH} {d : Nat} {Q : Option zV → zH → Prop} {QX : zH → Prop}
theorem x_ireturn {x : Int} (hr : M.2.2.2 = some .int) (hd : decode M.2.1 pc = .ok (.ireturn, 1)) (k : Q (some (vi x)) h) : zB G (xrm d) 0 0 (xZ G Q QX) M pc L [vi x] h := by
  intro o vs vl p e s m args below meth c H locs ls F P S Lv
  have hlocks : meth.locks = false := F.2.2.2.2.1
  have K : W p (zgl G) e (xrm d) s m args below meth c H locs 0 0 (vx_MQ below (zQc G Q) (xX G QX) args s 1 6 (zA G)) (F0 m pc ls [.int (Int32.ofInt x)]) := W.widen (Nat.zero_le 1) (Nat.zero_le 6) (vx_ret (W.iret F.1 F.2.1 (F.2.2.2.1.trans hr) (fun t ht hW => ⟨⟨some (vi x), h, rfl, fun v hv => by cases hv; exact Or.inl rfl, o, k, by rw [ht]; exact P⟩, S.F ht⟩) S.2.2 hd))
  exact fun T hT X => by
    obtain ⟨t, a1, b1⟩ := K T hT X
    exact ⟨t, a1, fun _ _ => b1⟩
def xNm : List String := ["java/lang/RuntimeException", "java/lang/Exception"]
theorem x_good : ∀ w ∈ Cond.classLink "RangedMachines" 379 xNS :: Cond.initialized xNS :: vx_at0 "RangedMachines" 381 xNS xNm, vx_ot w = true := by decide +kernel
theorem x_in : ∀ w ∈ (vx_at0 "RangedMachines" 381 xNS xNm).filter goodWord, w ∈ zUU := by decide +kernel
theorem x_out : ∀ w ∈ (vx_at0 "RangedMachines" 381 xNS xNm).filter (fun w => !goodWord w), w ∈ Cond.castable xNS xNS :: xDec.map Cond.declares := by decide +kernel
theorem x_throw (hfl : (zgl G).stackTraces = false) (hd : 8 ≤ d) (k : QX h) : zB G (xrm (d + 1)) 0 0 (xZ G Q QX) mX11_twin 59 L [] h := by
  intro o vs vl p e s m args below meth c H locs ls F P S Lv T hT X
  by_cases hp : (∀ (m : MethodId) (meth : Method) (c : Code), s.frames = .invoking m args :: below → s.vm.method? m = some meth → meth.code = some c → ∀ x ∈ c.exceptionTable.toList, False) ∧ xD s
  · obtain ⟨hp, hD⟩ := hp
    have ht : ∀ x ∈ c.exceptionTable.toList, False := hp m meth c X.frames X.method X.code
    obtain ⟨k1, k2, k3, k4, k5, k6, k7, k8, k9, k10, k11, k12⟩ := F.2.2.2.2.2.2.2
    have hts := F.2.2.2.2.2.2.1
    have K : W p (zgl G) e (xrm (d + 1)) s m args below meth c H locs 0 0 (vx_MQ below (zQc G Q) (xX G QX) args s 1 6 (zA G)) (F0 m 59 ls []) := vx_throw0 (A := zA G) (own := "RangedMachines") (cls := xNS) (names := xNm) (ik := 379) (ic := 381) F.1 F.2.1 hfl F.2.2.2.2.2.1 (by decide +kernel) (by decide +kernel) (hts _ (zut7 (j := 18) rfl rfl)) (hts _ (zut1 (j := 26) rfl rfl)) (vx_hat (fun w hw => hts w (x_in w hw)) x_out (vx_c (va_Nw.use rfl k12) (fun w hw => by
        obtain ⟨y, hy, rfl⟩ := List.mem_map.mp hw
        exact va_Nw.use rfl (hD y hy)))) x_good k10 k11 S (Lv.1.1.trans F.2.2.1.symm) dX11_twin_59 dX11_twin_62 dX11_twin_63 dX11_twin_66 (fun x hx => (ht x hx).elim) (by show 2 + 3 < d + 1; omega) (by show 0 + (13 * (2 + 1) + 42) ≤ 64 * (d + 1); omega) (Nat.le_refl _) (Nat.le_refl _) F.2.2.2.2.1
      (fun t _ h1 h2 => ⟨rfl, ⟨h, o, k, P.kept (fun j x hx => h2 _ (P j x hx).lt)⟩, Nat.le_trans S.1 h1, fun q q1 q2 => (h2 q (Nat.lt_of_lt_of_le q1 S.1)).trans (S.2.1 q q1 q2)⟩) S.2.2 (Nat.le_refl _) (Nat.le_refl _)
    obtain ⟨t, a1, b1⟩ := K T hT X
    exact ⟨t, a1, fun _ _ => b1⟩
  · exact ⟨_, Steps.refl _, fun z w => absurd ⟨z, w⟩ hp⟩
/-- what a call that may throw starts from -/
def xPc (G : zG) (as : List zV) (h : zH) : Array Value → State → Prop := fun a U => zPc G as h a U ∧ xD U
theorem xPc_blind (as : List zV) (h : zH) : FrameBlind (xPc G as h) := fun a U g mk hq => ⟨zPc_blind as h a U g mk hq.1, fun x hx => va_Nw.same rfl (u := U) (U := U.calling g mk a) rfl (hq.2 x hx)⟩
theorem xPc_of {as : List zV} {s : State} {H : Heap} {locs : List Loc} (ho : zok h) (hvs : zvs as) (hP : va_P (zgD G) vwCl (zws G h) H) (hK : zKK G s) (hS : va_S (zA G) s.heap H locs) (hD : xD s) : ∀ U : State, U.heap = H → s.WarmedH U.vm → xPc G as h (as.map (zcv G)).toArray U :=
  fun U hU hW => ⟨zPc_of ho hvs hP hK hS U hU hW, fun x hx => va_Nw.warmD hW (hD x hx)⟩
end XB
def tX11_twin_0 (G : zG) (d : Nat) (K : Int → zH → Prop) (KX : zH → Prop) (l1 : Int) (h : zH) : Prop := zB G (xrm (d + 1)) 0 0 (xZ G (fun r h' => ∃ x, r = some (vi x) ∧ K x h') KX) mX11_twin 0 [some (vr 11 0), some (vi l1), none, none] [] h
def tX11_twin_4 (G : zG) (d : Nat) (K : Int → zH → Prop) (KX : zH → Prop) (l1 : Int) (l2 : Int) (l3 : Int) (h : zH) : Prop := zB G (xrm (d + 1)) 0 0 (xZ G (fun r h' => ∃ x, r = some (vi x) ∧ K x h') KX) mX11_twin 4 [some (vr 11 0), some (vi l1), some (vi l2), some (vi l3)] [] h
theorem bX11_twin_0 {G : zG} {d : Nat} {K : Int → zH → Prop} {KX : zH → Prop} {l1 : Int} {h : zH} (hfl : (zgl G).stackTraces = false) (hd : 8 ≤ d) (k : tX11_twin_4 G d K KX l1 (-1) 0 h) : tX11_twin_0 G d K KX l1 h := by
  unfold tX11_twin_0
  refine z_iconst dX11_twin_0 rfl ?_
  refine z_istore_n 2 dX11_twin_1 rfl (Nat.le_of_ble_eq_true rfl) (L' := [some (vr 11 0), some (vi l1), some (vi (-1)), none]) rfl rfl ?_
  refine z_iconst dX11_twin_2 rfl ?_
  refine z_istore_n 3 dX11_twin_3 rfl (Nat.le_of_ble_eq_true rfl) (L' := [some (vr 11 0), some (vi l1), some (vi (-1)), some (vi 0)]) rfl rfl ?_
  exact z_sub (L' := [some (vr 11 0), some (vi l1), some (vi (-1)), some (vi 0)]) (And.intro rfl (And.intro rfl (And.intro rfl (And.intro rfl trivial)))) k
theorem bX11_twin_4 {G : zG} {d : Nat} {K : Int → zH → Prop} {KX : zH → Prop} {l1 : Int} {l2 : Int} {l3 : Int} {h : zH} (hfl : (zgl G).stackTraces = false) (hd : 8 ≤ d) (k : zR l2 ∧ (¬ l2 = (-1) → zR l2 ∧ (¬ l2 = (-1) → K l2 h) ∧ (l2 = (-1) → KX h)) ∧ (l2 = (-1) → zCb G d mX11_isMachine [vr 11 0, vi l1] h (fun x1 h2 => (x1 = false → zR l2 ∧ (¬ l2 = (-1) → K l2 h2) ∧ (l2 = (-1) → KX h2)) ∧ (x1 = true → zR l3 ∧ zR l1 ∧ (l1 ≤ l3 → zR l2 ∧ (¬ l2 = (-1) → K l2 h2) ∧ (l2 = (-1) → KX h2)) ∧ (¬ l1 ≤ l3 → ((0 : Int) ≤ l3 ∧ l3 < 10) ∧ ((0 : Int) ≤ l1 ∧ l1 < 10) ∧ zCi G d mX6_firstOf [vr 6 233, vr 4 (h2 3 l3), vr 4 (h2 3 l1), vi 6] h2 (fun x5 h6 => zR x5 ∧ (0 ≤ x5 → tX11_twin_4 G d K KX l1 l2 (l3 + 1) h6) ∧ (¬ 0 ≤ x5 → tX11_twin_4 G d K KX l1 l3 (l3 + 1) h6))))))) : tX11_twin_4 G d K KX l1 l2 l3 h := by
  unfold tX11_twin_4
  refine z_iload_n 2 dX11_twin_4 rfl rfl rfl ?_
  refine z_iconst dX11_twin_5 rfl ?_
  obtain ⟨r1, ka, kb⟩ := k
  refine z_icmp_ne (tgt := 54) dX11_twin_6 rfl r1 ⟨by decide, by decide⟩ rfl ⟨fun q => ?_, fun q => ?_⟩
  · have k := ka q
    refine z_iload_n 2 dX11_twin_54 rfl rfl rfl ?_
    refine z_iconst dX11_twin_55 rfl ?_
    obtain ⟨r1, ka, kb⟩ := k
    refine z_icmp_ne (tgt := 67) dX11_twin_56 rfl r1 ⟨by decide, by decide⟩ rfl ⟨fun q => ?_, fun q => ?_⟩
    · have k := ka q
      refine z_iload_n 2 dX11_twin_67 rfl rfl rfl ?_
      exact x_ireturn rfl dX11_twin_68 ⟨_, rfl, k⟩
    · have k := kb q
      exact x_throw hfl hd k
  · have k := kb q
    refine z_aload_n 0 dX11_twin_9 rfl rfl (Nat.le_of_ble_eq_true rfl) rfl ?_
    refine z_iload_n 1 dX11_twin_10 rfl rfl rfl ?_
    refine z_callVb vX11_isMachine kX11_152 dX11_twin_11 rfl (xRo_d d) (as := [vi l1]) (rest := []) (Nat.le_of_ble_eq_true rfl) rfl rfl (zCb_mono (fun x1 h2 k => ?_) k)
    obtain ⟨ka, kb⟩ := k
    refine z_ifb_eq (tgt := 54) dX11_twin_14 rfl rfl ⟨fun q => ?_, fun q => ?_⟩
    · have k := ka q
      refine z_iload_n 2 dX11_twin_54 rfl rfl rfl ?_
      refine z_iconst dX11_twin_55 rfl ?_
      obtain ⟨r1, ka, kb⟩ := k
      refine z_icmp_ne (tgt := 67) dX11_twin_56 rfl r1 ⟨by decide, by decide⟩ rfl ⟨fun q => ?_, fun q => ?_⟩
      · have k := ka q
        refine z_iload_n 2 dX11_twin_67 rfl rfl rfl ?_
        exact x_ireturn rfl dX11_twin_68 ⟨_, rfl, k⟩
      · have k := kb q
        exact x_throw hfl hd k
    · have k := kb q
      refine z_iload_n 3 dX11_twin_17 rfl rfl rfl ?_
      refine z_iload_n 1 dX11_twin_18 rfl rfl rfl ?_
      obtain ⟨r1, r2, ka, kb⟩ := k
      refine z_icmp_ge (tgt := 54) dX11_twin_19 rfl r1 r2 rfl ⟨fun q => ?_, fun q => ?_⟩
      · have k := ka q
        refine z_iload_n 2 dX11_twin_54 rfl rfl rfl ?_
        refine z_iconst dX11_twin_55 rfl ?_
        obtain ⟨r1, ka, kb⟩ := k
        refine z_icmp_ne (tgt := 67) dX11_twin_56 rfl r1 ⟨by decide, by decide⟩ rfl ⟨fun q => ?_, fun q => ?_⟩
        · have k := ka q
          refine z_iload_n 2 dX11_twin_67 rfl rfl rfl ?_
          exact x_ireturn rfl dX11_twin_68 ⟨_, rfl, k⟩
        · have k := kb q
          exact x_throw hfl hd k
      · have k := kb q
        refine z_aload_n 0 dX11_twin_22 rfl rfl (Nat.le_of_ble_eq_true rfl) rfl ?_
        refine z_getF 11 6 (x := 233) fX11_42 rfl dX11_twin_23 rfl rfl ?_
        refine z_aload_n 0 dX11_twin_26 rfl rfl (Nat.le_of_ble_eq_true rfl) rfl ?_
        refine z_getF 11 17 (x := 3) fX11_19 rfl dX11_twin_27 rfl rfl ?_
        refine z_iload_n 3 dX11_twin_30 rfl rfl rfl ?_
        obtain ⟨i9, k⟩ := k
        refine z_aald17 (x := (h2 3 l3)) dX11_twin_31 (by rw [zl_3]; exact i9) rfl rfl ?_
        refine z_w (fun w3 => ?_)
        refine z_aload_n 0 dX11_twin_32 rfl rfl (Nat.le_of_ble_eq_true rfl) rfl ?_
        refine z_getF 11 17 (x := 3) fX11_19 rfl dX11_twin_33 rfl rfl ?_
        refine z_iload_n 1 dX11_twin_36 rfl rfl rfl ?_
        obtain ⟨i9, k⟩ := k
        refine z_aald17 (x := (h2 3 l1)) dX11_twin_37 (by rw [zl_3]; exact i9) rfl rfl ?_
        refine z_w (fun w4 => ?_)
        refine z_bipush dX11_twin_38 rfl rfl ?_
        refine z_callVi vX6_firstOf kX11_305 dX11_twin_40 rfl (xRo_d d) (as := [vr 4 (h2 3 l3), vr 4 (h2 3 l1), vi 6]) (rest := []) (Nat.le_of_ble_eq_true rfl) rfl rfl (zCi_mono (fun x5 h6 k => ?_) k)
        obtain ⟨r1, ka, kb⟩ := k
        refine z_if_ge (tgt := 48) dX11_twin_43 rfl r1 rfl ⟨fun q => ?_, fun q => ?_⟩
        · have k := ka q
          refine z_iinc dX11_twin_48 rfl (Nat.le_of_ble_eq_true rfl) (L' := [some (vr 11 0), some (vi l1), some (vi l2), some (vi (l3 + 1))]) rfl rfl ?_
          refine z_goto (tgt := 4) dX11_twin_51 rfl ?_
          exact z_sub (L' := [some (vr 11 0), some (vi l1), some (vi l2), some (vi (l3 + 1))]) (And.intro rfl (And.intro rfl (And.intro rfl (And.intro rfl trivial)))) k
        · have k := kb q
          refine z_iload_n 3 dX11_twin_46 rfl rfl rfl ?_
          refine z_istore_n 2 dX11_twin_47 rfl (Nat.le_of_ble_eq_true rfl) (L' := [some (vr 11 0), some (vi l1), some (vi l3), some (vi l3)]) rfl rfl ?_
          refine z_iinc dX11_twin_48 rfl (Nat.le_of_ble_eq_true rfl) (L' := [some (vr 11 0), some (vi l1), some (vi l3), some (vi (l3 + 1))]) rfl rfl ?_
          refine z_goto (tgt := 4) dX11_twin_51 rfl ?_
          exact z_sub (L' := [some (vr 11 0), some (vi l1), some (vi l3), some (vi (l3 + 1))]) (And.intro rfl (And.intro rfl (And.intro rfl (And.intro rfl trivial)))) k
/-- a call of the class's twin: it answers, or it throws -/
def xC (G : zG) (d : Nat) (as : List zV) (h : zH) (K : Int → zH → Prop) (KX : zH → Prop) : Prop := vx_Met (zgl G) mX11_twin.1 (zwm mX11_twin) (xrm d) (xPc G as h) (zQc G (fun r h' => ∃ x, r = some (vi x) ∧ K x h')) (xX G KX) 1 6 (zA G)
theorem eX11_twin {G : zG} {d : Nat} {K : Int → zH → Prop} {KX : zH → Prop} {l1 : Int} {h : zH} (k : tX11_twin_0 G d K KX l1 h) : xC G (d + 1) [vr 11 0, vi l1] h K KX := by
  refine vx_ofW (cc := cX11_twin) (maxL := 4) (ret := some .int) (by decide +kernel) rfl ?_
  intro p e s m args below meth c s₁ B hml htab hv
  obtain ⟨⟨rfl, ho, hvs, hP, hK⟩, hD⟩ := hv
  have hts := atoms_spec (ws := zwm mX11_twin) B.pre
  rw [lg_entry_eq]
  have hlv := lv_entry ([vr 11 0, vi l1].map (zcv G)) (n := 4) (by rw [zent_len]; exact Nat.le_of_ble_eq_true rfl)
  have k0 : zB G (xrm (d + 1)) 0 0 (xZ G (fun r h' => ∃ x, r = some (vi x) ∧ K x h') KX) mX11_twin 0 [some (vr 11 0), some (vi l1), none, none] [] h := k
  have KW := k0 ho (fun v hv => by cases hv) (fun v hv => by
    rcases List.mem_cons.mp hv with h | h
    · cases h
      exact hvs _ List.mem_cons_self
    · rcases List.mem_cons.mp h with h | h
      · cases h
        exact Or.inl rfl
      · simp at h) p e s m _ below meth c s.heap [] _ ⟨B.exec, B.bytes, hml, B.returns, B.notSynchronized, findClass_of_methodNamed B.named, fun w hw => hts w (List.mem_cons_of_mem _ hw), hK⟩ hP va_S.rf ⟨⟨hlv.1, hlv.2.1, fun q hq => by cases hq⟩, fun i v hv => by
      have := zent_at G 2 [vr 11 0, vi l1] 0 i v hv
      rw [Nat.zero_add] at this
      exact hlv.2.2 _ this⟩
  intro T hT X
  obtain ⟨t, a1, b1⟩ := KW T hT X
  refine ⟨t, a1, b1 (fun m2 meth2 c2 q1 q2 q3 => ?_) hD⟩
  have e1 := q1.symm.trans X.frames
  cases e1
  cases q2.symm.trans X.method
  cases q3.symm.trans X.code
  exact htab
