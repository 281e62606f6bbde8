/-! ===== the law's own twin catches ===== -/
abbrev mL_twin : zM := (yL_twin, cL_twin, 4, some .int)
def xEn : ExceptionTableEntry := ⟨0, 9, 12, 13⟩
def xwm : List Cond := Cond.codeWith yL_twin cL_twin 4 (some .int) [(0, 9, 12, 13)] :: zUU
theorem xcw : Cond.codeWith yL_twin cL_twin 4 (some .int) [(0, 9, 12, 13)] ∈ zUU := (zut7 (j := 12) rfl rfl)
def xCL (G : zG) (d : Nat) (as : List zV) (h : zH) (Q : Option zV → zH → Prop) : Prop := Met (zgl G) yL_twin xwm (xrm d) (xPc G as h) (zQc G Q) 1 6 (zA G)
theorem xinit : Cond.initialized RL ∈ zUU := (zut1 (j := 0) rfl rfl)
theorem xlink : Cond.methodLink RL 244 yL_twin ∈ zUU := (zut7 (j := 10) rfl rfl)
theorem xstat : Cond.static yL_twin ∈ zUU := (zut7 (j := 11) rfl rfl)
theorem xMet_of {l : Launch} {y : MethodName} {ws : List Cond} {rm : Room} {Pc : Array Value → State → Prop} {Qc : Array Value → State → Outcome → State → Prop} {mc ms : Nat} {free : Addr → Prop} (k : vx_Met l y ws rm Pc Qc (fun _ _ _ => False) mc ms free) : Met l y ws rm Pc Qc mc ms free := by
  unfold Met
  intro p e ha hc hk s m args below hf happ hP hT
  obtain ⟨n, o, h1, h2, h3, h4⟩ := k p e ha hc hk s m args below hf happ hP hT
  rcases h4 with h4 | ⟨q, -, E, ce, L, hx, -⟩
  · exact ⟨n, o, h1, h2, h3, h4⟩
  · exact hx.elim
def xZ2 (G : zG) (Q : Option zV → zH → Prop) : State → Array Value → List Frame → State → Prop := fun s args below t => (∀ (m : MethodId) (meth : Method) (c : Code), s.frames = .invoking m args :: below → s.vm.method? m = some meth → meth.code = some c → c.exceptionTable.toList = [xEn]) → xD s → vx_MQ below (zQc G Q) (fun _ _ _ => False) args s 1 6 (zA G) t
section XD
variable {G : zG} {M : zM} {pc pc' : Nat} {L L' : List (Option zV)} {st : List zV} {h : zH} {d : Nat} {Q : Option zV → zH → Prop}
theorem x2_ireturn {x : Int} (hr : M.2.2.2 = some .int) (hd : decode M.2.1 pc = .ok (.ireturn, 1)) (k : Q (some (vi x)) h) : zB G (xrm d) 1 6 (xZ2 G Q) M pc L [vi x] h := by
  intro o vs vl p e s m args below meth c H locs ls F P S Lv
  have hlocks : meth.locks = false := F.2.2.2.2.1
  have K : W p (zgl G) e (xrm d) s m args below meth c H locs 1 6 (vx_MQ below (zQc G Q) (fun _ _ _ => False) args s 1 6 (zA G)) (F0 m pc ls [.int (Int32.ofInt x)]) := vx_ret (W.iret F.1 F.2.1 (F.2.2.2.1.trans hr) (fun t ht hW => ⟨⟨some (vi x), h, rfl, fun v hv => by cases hv; exact Or.inl rfl, o, k, by rw [ht]; exact P⟩, S.F ht⟩) S.2.2 hd)
  exact fun T hT X => by
    obtain ⟨t, a1, b1⟩ := K T hT X
    exact ⟨t, a1, fun _ _ => b1⟩
theorem x_call {x : Int} (k : xC G d [vr 11 0, vi x] h (fun r h' => zB G (xrm (d + 1)) 1 6 (xZ2 G Q) mL_twin 7 [some (vr 11 0), some (vi x), some (vr 14 525), none] [vi r, vi 0, vr 14 525] h') (fun h' => zB G (xrm (d + 1)) 1 6 (xZ2 G Q) mL_twin 13 [some (vr 11 0), some (vi x), some (vr 14 525), none] [] h')) : zB G (xrm (d + 1)) 0 0 (xZ2 G Q) mL_twin 4 [some (vr 11 0), some (vi x), some (vr 14 525), none] [vi x, vr 11 0, vi 0, vr 14 525] h := by
  intro o vs vl p e s m args below meth c H locs ls F P S Lv T hT X
  by_cases hp : (∀ (m : MethodId) (meth : Method) (c : Code), s.frames = .invoking m args :: below → s.vm.method? m = some meth → meth.code = some c → c.exceptionTable.toList = [xEn]) ∧ xD s
  · obtain ⟨hp, hD⟩ := hp
    have ht : c.exceptionTable.toList = [xEn] := hp m meth c X.frames X.method X.code
    obtain ⟨hc, hini, hinst, hsel, hnm, har, hml, hci, T9, N9, hcl⟩ := vX11_twin
    have hts := F.2.2.2.2.2.2.1
    have hv1 : zvok (vr 11 0) := vs _ (List.mem_cons_of_mem _ List.mem_cons_self)
    have hka : zkdN 0 = 11 := by decide +kernel
    have hva : zvs [vr 11 0, vi x] := fun v hv => by
      rcases List.mem_cons.mp hv with rfl | h
      · exact hv1
      · rcases List.mem_cons.mp h with rfl | h
        · exact Or.inl rfl
        · cases h
    have hvr : zvs [vi 0, vr 14 525] := fun v hv => vs v (List.mem_cons_of_mem _ (List.mem_cons_of_mem _ hv))
    have hr : vx_Run p (zgl G) e (xrm (d + 1)) s m args below meth c H locs 0 0 1 6 (F0 m 4 ls ([vi x, vr 11 0, vi 0, vr 14 525].map (zcv G))) ([vi 0, vr 14 525].map (zcv G)) (zQc G (fun r h' => ∃ y, r = some (vi y) ∧ zB G (xrm (d + 1)) 1 6 (xZ2 G Q) mL_twin 7 [some (vr 11 0), some (vi x), some (vr 14 525), none] [vi y, vi 0, vr 14 525] h') (Value.ref (zgB G) :: [vi x].map (zcv G)).toArray) (xX G (fun h' => zB G (xrm (d + 1)) 1 6 (xZ2 G Q) mL_twin 13 [some (vr 11 0), some (vi x), some (vr 14 525), none] [] h')) (zA G) := by
      refine vx_runV (C := mX11_twin.1.cls) (b := zgB G) (As := [vi x].map (zcv G)) (nL := 4) (Ts := zUU) (rest := [vi 0, vr 14 525].map (zcv G)) ⟨F.1, F.2.1, F.2.2.1, F.2.2.2.2.2.1, hts⟩ k ⟨⟨rfl, rfl, Nat.le_refl _, ?_, zwm_pay hts hc, List.mem_cons_self, hts _ hc, hts _ hini, hnm, zarity har, hts _ (zut7 (j := 14) rfl rfl)⟩, hts _ hinst, hts _ hsel⟩ ⟨xPc_blind _ _, ?_, ?_⟩ rfl rfl Lv.1.1 rfl ?_ dL_twin_4 ⟨Nat.le_refl _, Nat.le_refl _⟩
      · show 8 + (4 + 11) + 64 * d ≤ 64 * (d + 1)
        omega
      · exact va_recv F.2.2.2.2.2.2.2.1 P (q := (mX11_twin.1.cls, T9, N9)) hcl (ci := 11) (q0 := 0) (by rw [zws_get G h (by decide), zcell_obj G h hka (by decide)]; rfl)
      · exact xPc_of (as := [vr 11 0, vi x]) o hva P F.2.2.2.2.2.2.2 S hD
      · rw [zcat_ok]
        show 2 * 0 + zcat [vi 0, vr 14 525] ≤ 8
        decide
    rcases hr T hT X with ⟨v, st₀, t, T', L9, h0, X', hL, e1, e2, ⟨⟨r, h', hv, hvk, hok, ⟨y, hry, hq⟩, hP⟩, hz, hk⟩, go⟩ | ⟨q, st₀, t, T', L9, E, ce, h0, X', hL, e1, e2, ⟨hE, ⟨h', hok, hq, hP⟩, hz, hk⟩, hce, hcv, hcl2, stp⟩
    · subst hry
      cases hv
      rw [h0] at hz hk
      have S' : va_S (zA G) s.heap T'.heap (locs ++ L9) := ⟨Nat.le_trans S.1 (by rw [e1]; exact hz), fun q h1 h2 => by rw [e1, hk q (Nat.lt_of_lt_of_le h1 S.1) h2]; exact S.2.1 q h1 h2, fun q hq => by
        rcases List.mem_append.mp hq with h | h
        · exact S.2.2 q h
        · exact hL q h⟩
      have K := hq hok (zvs_i y hvr) vl p e s m args below meth c T'.heap (locs ++ L9) ls F (by rw [e1]; exact hP) S' Lv
      obtain ⟨t2, a1, b1⟩ := K T' rfl X'
      exact ⟨t2, go t2 a1, b1⟩
    · subst hE
      rw [h0] at hz hk
      have S' : va_S (zA G) s.heap T'.heap (locs ++ L9) := ⟨Nat.le_trans S.1 (by rw [e1]; exact hz), fun q h1 h2 => by rw [e1, hk q (Nat.lt_of_lt_of_le h1 S.1) h2]; exact S.2.1 q h1 h2, fun q hq => by
        rcases List.mem_append.mp hq with h | h
        · exact S.2.2 q h
        · exact hL q h⟩
      obtain ⟨k1, k2, k3, k4, k5, k6, k7, k8, k9, k10, k11, k12⟩ := F.2.2.2.2.2.2.2
      have KW : vx_W p (zgl G) e (xrm (d + 1)) s m args below meth c T'.heap (locs ++ L9) 1 6 (xZ2 G Q s args below) (F0 m 4 ls ([vi 0, vr 14 525].map (zcv G))) q := by
        refine zx_catch (own := "RangedMachinesLaw") (name := xNS) (E := xNS) (x := xEn) F.2.2.2.2.2.1 ht (by decide) (by decide) (hts _ (zut7 (j := 13) rfl rfl)) (va_Nw.use rfl k12) (by rw [e1]; exact hce) hcv hcl2 ?_
        refine lv_astore_n F.1 F.2.1 dL_twin_12 (i := 3) rfl (zlv_has Lv) (by decide) rfl (fun ls' hl' => ?_)
        refine hq hok (fun v hv => by cases hv) vl p e s m args below meth c T'.heap (locs ++ L9) ls' F (by rw [e1]; exact hP) S' ⟨⟨hl'.1, hl'.2.1, fun q hq => by cases hq⟩, fun i v hv => ?_⟩
        match i, hv with
        | 0, hv =>
          cases hv
          exact hl'.2.2 (0, zcv G (vr 11 0)) (List.mem_cons_of_mem _ (List.mem_filter.mpr ⟨zprs_in G rfl, rfl⟩))
        | 1, hv =>
          cases hv
          exact hl'.2.2 (1, zcv G (vi x)) (List.mem_cons_of_mem _ (List.mem_filter.mpr ⟨zprs_in G rfl, rfl⟩))
        | 2, hv =>
          cases hv
          exact hl'.2.2 (2, zcv G (vr 14 525)) (List.mem_cons_of_mem _ (List.mem_filter.mpr ⟨zprs_in G rfl, rfl⟩))
        | 3, hv => cases hv
        | n + 4, hv => cases hv
      obtain ⟨t2, a1, b1⟩ := KW T' rfl X'
      exact ⟨t2, stp.trans a1, b1⟩
  · exact ⟨_, Steps.refl _, fun z w => absurd ⟨z, w⟩ hp⟩
theorem xC_mono {as : List zV} {K K' : Int → zH → Prop} {KX KX' : zH → Prop} (hq : ∀ r h', K r h' → K' r h') (hx : ∀ h', KX h' → KX' h') (k : xC G d as h K KX) : xC G d as h K' KX' := by
  unfold xC vx_Met at k ⊢
  intro p e ha hc hk s m args below hf happ hP hT
  obtain ⟨n, o, h1, h2, h3, h4⟩ := k p e ha hc hk s m args below hf happ hP hT
  refine ⟨n, o, h1, h2, h3, ?_⟩
  rcases h4 with ⟨⟨⟨r, h', q1, q2, q3, ⟨x, q4, q5⟩, q6⟩, q7⟩, q8⟩ | ⟨q, e1, E, ce, L, ⟨z1, ⟨h', z2, z3, z4⟩, z5⟩, rest⟩
  · exact Or.inl ⟨⟨⟨r, h', q1, q2, q3, ⟨x, q4, hq _ _ q5⟩, q6⟩, q7⟩, q8⟩
  · exact Or.inr ⟨q, e1, E, ce, L, ⟨z1, ⟨h', z2, hx _ z3, z4⟩, z5⟩, rest⟩
theorem eL_twin {x : Int} (k : xC G d [vr 11 0, vi x] h (fun r h' => zR r ∧ Q (some (vi 0)) (zup h' 525 0 r)) (fun h' => Q (some (vi 1)) h')) : xCL G (d + 1) [vr 11 0, vi x, vr 14 525] h Q := by
  refine xMet_of (vx_ofWH (cc := cL_twin) (maxL := 4) (ret := some .int) (hh := [(0, 9, 12, 13)]) (by decide +kernel) rfl ?_)
  intro p e s m args below meth c s₁ B hml hv
  obtain ⟨⟨rfl, ho, hvs, hP, hK⟩, hD⟩ := hv
  have hts := atoms_spec (ws := xwm) B.pre
  have htab : c.exceptionTable.toList = [xEn] := vx_table (x := yL_twin) B (hts _ List.mem_cons_self)
  have k0 : zB G (xrm (d + 1)) 0 0 (xZ2 G Q) mL_twin 0 [some (vr 11 0), some (vi x), some (vr 14 525), none] [] h := by
    refine z_aload_n 2 dL_twin_0 rfl rfl (Nat.le_of_ble_eq_true rfl) rfl ?_
    refine z_iconst dL_twin_1 rfl ?_
    refine z_aload_n 0 dL_twin_2 rfl rfl (Nat.le_of_ble_eq_true rfl) rfl ?_
    refine z_iload_n 1 dL_twin_3 rfl rfl rfl ?_
    refine x_call (xC_mono (fun r h' q => ?_) (fun h' q => ?_) k)
    · refine z_i2l dL_twin_7 q.1 rfl ?_
      refine z_last dL_twin_8 (by rw [show zln 525 = 1 by decide +kernel]; decide) rfl ?_
      refine z_goto (tgt := 15) dL_twin_9 rfl ?_
      refine z_iconst dL_twin_15 rfl ?_
      exact x2_ireturn rfl dL_twin_16 q.2
    · refine z_iconst dL_twin_13 rfl ?_
      exact x2_ireturn rfl dL_twin_14 q
  rw [lg_entry_eq]
  have hlv := lv_entry ([vr 11 0, vi x, vr 14 525].map (zcv G)) (n := 4) (by rw [zent_len]; exact Nat.le_of_ble_eq_true rfl)
  have KW := k0 ho (fun v hv => by cases hv) (fun v hv => by
    rcases List.mem_cons.mp hv with h | h
    · cases h
      exact hvs _ List.mem_cons_self
    · rcases List.mem_cons.mp h with h | h
      · cases h
        exact Or.inl rfl
      · rcases List.mem_cons.mp h with h | h
        · cases h
          exact hvs _ (List.mem_cons_of_mem _ (List.mem_cons_of_mem _ List.mem_cons_self))
        · simp at h) p e s m _ below meth c s.heap [] _ ⟨B.exec, B.bytes, hml, B.returns, B.notSynchronized, findClass_of_methodNamed B.named, fun w hw => hts w (List.mem_cons_of_mem _ hw), hK⟩ hP va_S.rf ⟨⟨hlv.1, hlv.2.1, fun q hq => by cases hq⟩, fun i v hv => by
      have := zent_at G 1 [vr 11 0, vi x, vr 14 525] 0 i v hv
      rw [Nat.zero_add] at this
      exact hlv.2.2 _ this⟩
  intro T hT X
  obtain ⟨t, a1, b1⟩ := KW T hT X
  refine ⟨t, a1, b1 (fun m2 meth2 c2 q1 q2 q3 => ?_) hD⟩
  have e1 := q1.symm.trans X.frames
  cases e1
  cases q2.symm.trans X.method
  cases q3.symm.trans X.code
  exact htab
/-- the law calls its twin -/
theorem x_callL {kc ks : Nat} {x : Int} {stk : List zV} (hd : decode cL_law pc = .ok (.invokestatic 244, 3)) (hR : zRo room_1 (kc + 1) (ks + 6) d) (hs9 : [vr 14 525, vi x, vr 11 0] = stk) (hp : pc + 3 = pc') (k : xCL G d [vr 11 0, vi x, vr 14 525] h (fun r h' => ∃ y, r = some (vi y) ∧ zB G room_1 (kc + 1) (ks + 6) (zZL G) mL_law pc' L [vi y] h')) : zB G room_1 kc ks (zZL G) mL_law pc L stk h := by
  subst hp
  subst hs9
  intro o vs vl p e s m args below meth c H locs ls F P S Lv T hT X
  by_cases hD : xD s
  · have hts := F.2.2.2.2.2.2.1
    have hva : zvs [vr 11 0, vi x, vr 14 525] := fun v hv => vs v (by
      rcases List.mem_cons.mp hv with rfl | h
      · simp
      · rcases List.mem_cons.mp h with rfl | h
        · simp
        · rcases List.mem_cons.mp h with rfl | h
          · simp
          · cases h)
    have hr : va_Run p (zgl G) e room_1 s m args below meth c H locs kc ks 1 6 (F0 m pc ls ([vr 14 525, vi x, vr 11 0].map (zcv G))) [] (zQc G (fun r h' => ∃ y, r = some (vi y) ∧ zB G room_1 (kc + 1) (ks + 6) (zZL G) mL_law (pc + 3) L [vi y] h') ([vr 11 0, vi x, vr 14 525].map (zcv G)).toArray) (zA G) := by
      refine vx_runSW (bytes := cL_twin) (maxL := 4) (ret := some .int) (hh := [(0, 9, 12, 13)]) (n := 3) (As := [vr 11 0, vi x, vr 14 525].map (zcv G)) (nL := 7) (Ts := zUU) ⟨F.1, F.2.1, F.2.2.1, F.2.2.2.2.2.1, hts⟩ k ⟨⟨rfl, rfl, hR.1, ?_, pay_in hts (fun w hw => ?_), List.mem_cons_self⟩, hts _ xcw, hts _ xinit, ⟨by decide +kernel, by decide +kernel⟩, zarity (by decide +kernel), hts _ xlink, hts _ xstat⟩ ⟨xPc_blind _ _, xPc_of (as := [vr 11 0, vi x, vr 14 525]) o hva P F.2.2.2.2.2.2.2 S hD⟩ rfl rfl Lv.1.1 rfl ?_ hd ⟨hR.2.2.1, hR.2.2.2⟩
      · have := hR.2.1
        show 8 + (4 + 11) + 64 * d ≤ _
        omega
      · rcases List.mem_cons.mp hw with rfl | h
        · exact ⟨xcw, zUU_good xcw⟩
        · exact ⟨h, zUU_good h⟩
      · show 2 * 0 + 0 ≤ 8
        decide
    obtain ⟨v, st₀, t, T', L9, h0, X', hL, e1, e2, ⟨⟨r, h', hv, hvk, hok, ⟨y, hry, hq⟩, hP⟩, hz, hk⟩, go⟩ := hr T hT X
    subst hry
    cases hv
    rw [h0] at hz hk
    have S' : va_S (zA G) s.heap T'.heap (locs ++ L9) := ⟨Nat.le_trans S.1 (by rw [e1]; exact hz), fun q h1 h2 => by rw [e1, hk q (Nat.lt_of_lt_of_le h1 S.1) h2]; exact S.2.1 q h1 h2, fun q hq => by
      rcases List.mem_append.mp hq with h | h
      · exact S.2.2 q h
      · exact hL q h⟩
    have K := hq hok (zvs_i y (fun v hv => by cases hv)) vl p e s m args below meth c T'.heap (locs ++ L9) ls F (by rw [e1]; exact hP) S' Lv
    obtain ⟨t2, a1, b1⟩ := K T' rfl X'
    exact ⟨t2, go t2 a1, b1⟩
  · exact ⟨_, Steps.refl _, fun _ w => absurd w hD⟩
end XD
