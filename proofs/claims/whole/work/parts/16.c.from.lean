def R_law : String := "RangedMachinesLaw"
def lw_P (b : Addr) (xs : List Int32) (args : Array Value) (s : State) : Prop := args = #[.ref b] ∧ s.IntsAt b xs ∧ xs.length ≤ 3072 ∧ (Jvm.Cond.and given_1 narrow_1).before args s = true
def lw_Q (_ : Array Value) (s : State) (o : Outcome) (t : State) : Prop := o = .returned (some (.int 1)) ∧ Framed s o t [] 601024 7293034
def lw_Z (below : List Frame) (a : Array Value) (s : State) : State → Prop := fun t => ∃ o, t.status = .running ∧ Ended t below o ∧ lw_Q a s o t
/-- the law's own end, with 1 on the stack, nothing written that was there before, its room as the claim has it -/
theorem lw_ret {p : Program} {l : Launch} {e : Env} {s : State} {m : MethodId} {below : List Frame} {meth : Method} {c : Code} {b : Nat} (hx : p.tables.exec = Jvm.exec) (hb : c.code = code) (hr : meth.sig.returnType = ret) (hlocks : meth.locks = false) {pc : Nat} {H : Heap} {ls : Array Slot} (hdg : decode code pc = .ok (.ireturn, 1)) : W p l e room_1 s m #[Value.ref b] below meth c H [] 601024 7293034 (lw_Z below #[Value.ref b] s) (F0 m pc ls [.int 1]) := by
  intro T hT X
  obtain ⟨fs, hret, hrun, hended, hW, hframe⟩ := X.leave (v := some (.int 1)) (hlocks := hlocks) (fun h => by rw [hr] at h; cases h)
  have hmeth' : T.vm.method? m = some meth := X.method'
  refine ⟨T.setFrames fs, ?_, .returned (some (.int 1)), hrun, hended, rfl, ⟨_, rfl⟩, hW, hframe⟩
  jvm_step X.here [X.here.top, hx, hb, hdg, hmeth', hr, ret, narrow_b1]
  (try refine ⟨rfl, ?_⟩); (try refine ⟨rfl, ?_⟩)
  first | (intro acts; rw [hret _ acts rfl rfl rfl]) | rw [hret _ _ rfl rfl rfl]
  exact Steps.refl _
/-- what holds at the law's entry: the machine, the code, the tables' words (any of lw_tbl by 'hts w (by decide +kernel)'), the script of L ints xs at the cell b, what the Statement gives of the start (any of its parts by flat_of_before) -/
def lw_At (p : Program) (s : State) (m : MethodId) (meth : Method) (c : Code) (b L : Nat) (xs : Nat → Int32) : Prop :=
  p.tables.exec = Jvm.exec ∧ c.code = code ∧ meth.sig.returnType = ret ∧ c.maxLocals = 7 ∧ s.vm.findClass R_law = some m.cls ∧ (∀ w ∈ lw_tbl, w.before #[Value.ref b] s = true) ∧ va_X b L xs s s.heap ∧ b < s.heap.size ∧ meth.locks = false ∧ (Jvm.Cond.and given_1 narrow_1).before #[Value.ref b] s = true
theorem zk_start {p : Program} {s : State} {m : MethodId} {meth : Method} {c : Code} {b L : Nat} {xs : Nat → Int32} (l : Launch) (C0 : lw_At p s m meth c b L xs) : ∃ G : zG, zgl G = l ∧ zgb G = b ∧ zgL G = L ∧ zgx G = xs ∧ zgB G = s.heap.size ∧ zKK G s := by
  obtain ⟨hex, hcode, hret, hml, hown, hts, hX, hb, hlk, hgv⟩ := C0
  have hn : ∀ w ∈ zNw, w.before #[Value.ref b] s = true := flat_of_before _ hgv
  have hu : ∀ w ∈ zUU, w.before #[Value.ref b] s = true := fun w hw => hts w (List.mem_filter.mp hw).1
  obtain ⟨D, hD⟩ := zk_cls hu
  obtain ⟨cI, hI1, hI2⟩ := zk_arr (hu _ karr_int)
  obtain ⟨cJ, hJ1, hJ2⟩ := zk_arr (hu _ karr_long)
  obtain ⟨cB, hB1, hB2⟩ := zk_arr (hu _ karr_byte)
  obtain ⟨cS, hS1, hS2⟩ := zk_aro (hts _ nw_ao1)
  obtain ⟨cM, hM1, hM2⟩ := zk_aro (hts _ nw_ao2)
  have hA : ∀ a : Nat, a < s.heap.size → ¬ s.heap.size ≤ a := fun a h => by omega
  obtain ⟨adK, adV, hS, hev⟩ := vk_Sof (args := #[Value.ref b]) (s := s) (N := 7) (tm := ztm) (len := zLens) (byt := zByts) (A := fun q => s.heap.size ≤ q) (by decide) (fun i hi => hn _ (nw_ex i hi)) (fun i hi => hn _ (nw_co i hi)) (fun i hi => hn _ (nw_ar i hi)) (fun i hi => hn _ (nw_le i hi)) (fun i hi j hj => hn _ (nw_el i hi j hj)) (fun i j hi hj h => (nw_ne i hi j hj h).imp (hn _) (hn _)) hA
  obtain ⟨F, hF⟩ : ∃ F : Option Nat, (Term.static "jdk/internal/util/Preconditions" "SIOOBE_FORMATTER" "Ljava/util/function/BiFunction;").eval #[Value.ref b] s none [] s = some (zoV F) := by
    obtain ⟨v, h1, h2⟩ := Cond.isRef_spec (hn _ nw_fm)
    cases v with
    | ref a => exact ⟨some a, h1⟩
    | null => exact ⟨none, h1⟩
    | _ => cases h2
  refine ⟨(l, D, fun k => if k = 13 then cI else if k = 14 then cJ else if k = 15 then cB else if k = 16 then cS else cM, s.heap.size, adK, adV, b, L, xs, F), rfl, rfl, rfl, rfl, rfl, ?_⟩
  refine ⟨⟨hD, fun k q hk => ?_⟩, ?_, hS, ?_, hX, hb, Nat.le_refl _, va_Zof (hts _ nw_lcs) (hts _ nw_ics) (va_eqi (hn _ nw_cs)) hA, va_Zof (hts _ nw_lfm) (hts _ nw_ifm) hF hA, vx_Zqof (hts _ nw_lus) (hts _ nw_ius) (hn _ nw_us) hA, vx_Zqof (hts _ nw_lss) (hts _ nw_ius) (hn _ nw_ss) hA, va_Nw.of rfl (hts _ nw_ca)⟩
  · have hlt : k < 5 := (List.getElem?_eq_some_iff.mp hk).1
    match k, hlt, hk with
    | 0, _, hk => cases hk; exact ⟨hI1, hI2⟩
    | 1, _, hk => cases hk; exact ⟨hJ1, hJ2⟩
    | 2, _, hk => cases hk; exact ⟨hB1, hB2⟩
    | 3, _, hk => cases hk; exact ⟨hS1, hS2⟩
    | 4, _, hk => cases hk; exact ⟨hM1, hM2⟩
  · exact List.forall_mem_cons.mpr ⟨va_Nw.of rfl (hts _ nw_n0), List.forall_mem_cons.mpr ⟨va_Nw.of rfl (hts _ nw_n1), List.forall_mem_cons.mpr ⟨va_Nw.of rfl (hts _ nw_n2), List.forall_mem_cons.mpr ⟨va_Nw.of rfl (hts _ nw_n3), List.forall_mem_cons.mpr ⟨va_Nw.of rfl (hts _ nw_n4), List.forall_mem_cons.mpr ⟨va_Nw.of rfl (hts _ nw_n5), List.forall_mem_cons.mpr ⟨va_Nw.of rfl (hts _ nw_n6), List.forall_mem_cons.mpr ⟨va_Nw.of rfl (hts _ nw_n7), List.forall_mem_cons.mpr ⟨va_Nw.of rfl (hts _ nw_n8), List.forall_mem_cons.mpr ⟨va_Nw.of rfl (hts _ nw_n9), List.forall_mem_cons.mpr ⟨va_Nw.of rfl (hts _ nw_n10), List.forall_mem_cons.mpr ⟨va_Nw.of rfl (hts _ nw_n11), fun _ h => absurd h List.not_mem_nil⟩⟩⟩⟩⟩⟩⟩⟩⟩⟩⟩⟩
  · exact List.forall_mem_cons.mpr ⟨vk_R.of (hts _ nw_s0) (hev 0 (by decide)), List.forall_mem_cons.mpr ⟨vk_R.of (hts _ nw_s1) (hev 1 (by decide)), List.forall_mem_cons.mpr ⟨vk_R.of (hts _ nw_s2) (hev 2 (by decide)), List.forall_mem_cons.mpr ⟨vk_R.of (hts _ nw_s3) (hev 3 (by decide)), List.forall_mem_cons.mpr ⟨vk_R.of (hts _ nw_s4) (hev 4 (by decide)), List.forall_mem_cons.mpr ⟨vk_R.of (hts _ nw_s5) (hev 5 (by decide)), List.forall_mem_cons.mpr ⟨vk_R.of (hts _ nw_s6) (hev 6 (by decide)), List.forall_mem_cons.mpr ⟨vk_R.of (hts _ nw_s7) (va_eqR (hn _ (nw_eq 0 (by decide))) (hev 0 (by decide))), List.forall_mem_cons.mpr ⟨vk_R.of (hts _ nw_s8) (va_eqR (hn _ (nw_eq 1 (by decide))) (hev 1 (by decide))), List.forall_mem_cons.mpr ⟨vk_R.of (hts _ nw_s9) (va_eqR (hn _ (nw_eq 2 (by decide))) (hev 2 (by decide))), List.forall_mem_cons.mpr ⟨vk_R.of (hts _ nw_s10) (va_eqR (hn _ (nw_eq 3 (by decide))) (hev 3 (by decide))), List.forall_mem_cons.mpr ⟨vk_R.of (hts _ nw_s11) (va_eqR (hn _ (nw_eq 4 (by decide))) (hev 4 (by decide))), List.forall_mem_cons.mpr ⟨vk_R.of (hts _ nw_s12) (va_eqR (hn _ (nw_eq 5 (by decide))) (hev 5 (by decide))), fun _ h => absurd h List.not_mem_nil⟩⟩⟩⟩⟩⟩⟩⟩⟩⟩⟩⟩⟩
theorem ya_arr {c : ClassId} {n : Nat} {f g : Nat → Value} (h : ∀ j, j < n → f j = g j) : arrV c n f = arrV c n g := by
  unfold arrV
  congr 2
  funext j
  exact h j.val j.isLt
/-- what the constructors leave is well typed -/
theorem zI_t1 : ∀ k < 526, zkdN k < 13 → ∀ j < zlnN k, ∀ o ∈ (zft (zkdN k) j).2, (zIT.getD k []).getD j 0 = (k : Int) + o := by decide +kernel
theorem zI_t2 : ∀ k < 526, zkdN k < 13 → ∀ j < zlnN k, 10 ≤ (zft (zkdN k) j).1 → 0 ≤ (zIT.getD k []).getD j 0 ∧ (zIT.getD k []).getD j 0 < 526 ∧ 10 + zkdN ((zIT.getD k []).getD j 0).toNat = (zft (zkdN k) j).1 := by decide +kernel
theorem zI_t3 : ∀ k < 526, zkdN k = 16 → ∀ j < zlnN k, 0 ≤ (zIT.getD k []).getD j 0 ∧ (zIT.getD k []).getD j 0 < 526 ∧ zkdN ((zIT.getD k []).getD j 0).toNat = 3 := by decide +kernel
theorem zI_t4 : ∀ k < 526, zkdN k = 17 → ∀ j < zlnN k, 0 ≤ (zIT.getD k []).getD j 0 ∧ (zIT.getD k []).getD j 0 < 526 ∧ zkdN ((zIT.getD k []).getD j 0).toNat = 4 := by decide +kernel
theorem zI_at {k j : Nat} (hk : zkdN k < 13 ∨ zkdN k = 16 ∨ zkdN k = 17) (hj : j < zlnN k) : zI k j = (zIT.getD k []).getD j 0 := by
  unfold zI zkd zln
  rw [Int.toNat_natCast, Int.toNat_natCast, if_pos ⟨hk, by omega, by omega⟩]
theorem zI_ok : zok zI := by
  intro k hk j hj
  refine ⟨fun h1 o ho => ?_, fun h1 h2 => ?_, fun h1 => ?_, fun h1 => ?_⟩
  · rw [zI_at (Or.inl h1) hj]
    exact zI_t1 k hk h1 j hj o ho
  · rw [zI_at (Or.inl h1) hj]
    obtain ⟨q1, q2, q3⟩ := zI_t2 k hk h1 j hj h2
    have := zft_lt (zkdN k) h1 j (by rw [← zln_obj k hk h1]; exact hj)
    exact Or.inr (Or.inr (Or.inr ⟨h2, by show (zft (zkdN k) j).1 < 40; omega, q1, q2, q3⟩))
  · rw [zI_at (Or.inr (Or.inl h1)) hj]
    obtain ⟨q1, q2, q3⟩ := zI_t3 k hk h1 j hj
    exact Or.inr (Or.inr (Or.inr ⟨by show 10 ≤ 13; decide, by show 13 < 40; decide, q1, q2, congrArg (10 + ·) q3⟩))
  · rw [zI_at (Or.inr (Or.inr h1)) hj]
    obtain ⟨q1, q2, q3⟩ := zI_t4 k hk h1 j hj
    exact Or.inr (Or.inr (Or.inr ⟨by show 10 ≤ 14; decide, by show 14 < 40; decide, q1, q2, congrArg (10 + ·) q3⟩))
theorem zI_P {G : zG} {h : zH} {H : Heap} (hD : ∀ x y : Int, 0 ≤ x → x < 526 → h x y = zI x y) (P : va_P (zgD G) vwCl (yws G (526, h)) H) : va_P (zgD G) vwCl (zws G zI) H := by
  intro k q hq
  have hk : k < 526 := by
    have := (List.getElem?_eq_some_iff.mp hq).1
    unfold zws at this
    rw [List.length_map, List.length_range] at this
    exact this
  rw [zws_get G zI hk] at hq
  cases hq
  have h0 := P k _ (yws_get G (526, h) hk)
  have hke : h (k : Int) = zI (k : Int) := funext (fun y => hD k y (by omega) (by omega))
  have hs := zkd_small k hk
  rcases (show zkdN k < 13 ∨ zkdN k = 13 ∨ zkdN k = 14 ∨ zkdN k = 15 ∨ zkdN k = 16 ∨ zkdN k = 17 by omega) with c | c | c | c | c | c
  · rw [ycell_obj G h rfl c] at h0
    rw [zcell_obj G zI rfl c]
    have e : (List.range (zfs (zkdN k)).length).map (fun j => yfv G (zft (zkdN k) j).1 (h k j)) = (List.range (zfs (zkdN k)).length).map (fun j => zfv G (zft (zkdN k) j).1 (zI k j)) := by
      apply List.map_congr_left
      intro j hj
      have hj2 : j < (zfs (zkdN k)).length := List.mem_range.mp hj
      have hjl : j < zlnN k := by rw [zln_obj k hk c]; exact hj2
      rw [hke]
      have ht := zft_tags (zkdN k) c j hj2
      unfold yfv zfv
      by_cases c0 : (zft (zkdN k) j).1 = 0
      · rw [if_pos c0, if_pos c0]
      · rw [if_neg c0, if_neg c0]
        by_cases c1 : (zft (zkdN k) j).1 = 1
        · rw [if_pos c1, if_pos c1]
        · rw [if_neg c1, if_neg c1]
          by_cases c2 : (zft (zkdN k) j).1 = 2
          · rw [if_pos c2, if_pos c2]
          · rw [if_neg c2, if_neg c2, if_neg]
            rw [zI_at (Or.inl c) hjl]
            have := (zI_t2 k hk c j hjl (by omega)).1
            omega
    rw [e] at h0
    exact h0
  · have e : ycell G h k = zcell G zI k := by unfold ycell zcell; rw [if_pos c, if_pos c, hke]
    rw [e] at h0
    exact h0
  · have e : ycell G h k = zcell G zI k := by unfold ycell zcell; rw [if_neg (by omega), if_pos c, if_neg (by omega), if_pos c, hke]
    rw [e] at h0
    exact h0
  · have e : ycell G h k = zcell G zI k := by unfold ycell zcell; rw [if_neg (by omega), if_neg (by omega), if_pos c, if_neg (by omega), if_neg (by omega), if_pos c, hke]
    rw [e] at h0
    exact h0
  · rw [zcell_16 G zI c]
    have e : ycell G h k = .inl (zgC G 16, zlnN k, .inr (.inr (.inr (.inr (yrow G h k))))) := by unfold ycell; rw [if_neg (by omega), if_neg (by omega), if_neg (by omega), if_pos c]
    rw [e] at h0
    refine Eq.trans (show H[zgB G + k]? = some (arrV (zgC G 16) (zlnN k) (fun j => va_rf (yrow G h k j))) from h0) ?_
    show some _ = some (arrV (zgC G 16) (zlnN k) (fun j => va_rf (some (zgB G + (zI k j).toNat))))
    refine congrArg some (ya_arr (fun j hj => ?_))
    have := (zI_t3 k hk c j hj).1
    unfold yrow
    rw [hke, if_neg (by rw [zI_at (Or.inr (Or.inl c)) hj]; omega)]
  · rw [zcell_17 G zI c]
    have e : ycell G h k = .inl (zgC G 17, zlnN k, .inr (.inr (.inr (.inr (yrow G h k))))) := by unfold ycell; rw [if_neg (by omega), if_neg (by omega), if_neg (by omega), if_neg (by omega), if_pos c]
    rw [e] at h0
    refine Eq.trans (show H[zgB G + k]? = some (arrV (zgC G 17) (zlnN k) (fun j => va_rf (yrow G h k j))) from h0) ?_
    show some _ = some (arrV (zgC G 17) (zlnN k) (fun j => va_rf (some (zgB G + (zI k j).toNat))))
    refine congrArg some (ya_arr (fun j hj => ?_))
    have := (zI_t4 k hk c j hj).1
    unfold yrow
    rw [hke, if_neg (by rw [zI_at (Or.inr (Or.inr c)) hj]; omega)]
/-- three constructors are declared where they are looked for -/
def xDec : List MethodName := [⟨"java/lang/RuntimeException", "<init>", "()V"⟩, ⟨"java/lang/Exception", "<init>", "()V"⟩, ⟨"java/lang/Throwable", "<init>", "()V"⟩]
def xD (s : State) : Prop := ∀ x ∈ xDec, va_Nw (.declares x) s
def zZL (G : zG) : State → Array Value → List Frame → State → Prop := fun s args below t => zgB G = s.heap.size → xD s → lw_Z below args s t
theorem kL_c8 : Cond.classLink RL 8 RX11 ∈ zUU := (zut1 (j := 27) rfl rfl)
theorem kL_c16 : Cond.classLink RL 16 RX12 ∈ zUU := (zut7 (j := 79) rfl rfl)
theorem kL_m15 : Cond.methodLink RL 15 mX11_init.1 ∈ zUU := (zut1 (j := 29) rfl rfl)
theorem kL_m18 : Cond.methodLink RL 18 mX12_init.1 ∈ zUU := (zut7 (j := 81) rfl rfl)
theorem yJ_bl : yJ ybl := fun x y => Or.inr rfl
theorem zs_init11 : yMi mX11_init 0 := iX11_init
theorem zs_init12 : yMi mX12_init 0 := iX12_init
theorem whole_from {p : Program} {e : Env} {s : State} {m : MethodId} {below : List Frame} {meth : Method} {c : Code} (l : Launch) {b L : Nat} {xs : Nat → Int32} (C0 : lw_At p s m meth c b L xs) (k : ∀ G : zG, zgl G = l → zgb G = b → zgL G = L → zgx G = xs → zB G room_1 526 269242 (zZL G) mL_law 23 [some (41, 0), some (vr 11 0), some (vr 12 466), some (vr 14 525), some (vi 0), none, none] [] zI) : W p l e room_1 s m #[Value.ref b] below meth c s.heap [] 0 0 (lw_Z below #[Value.ref b] s) (entryFrame m ([Value.ref b] : List Value).toArray 7) := by
  obtain ⟨G, g1, g2, g3, g4, g5, hK⟩ := zk_start l C0
  have K := k G g1 g2 g3 g4
  subst g1
  obtain ⟨hex, hcode, hret, hml, hown, hts, hX, hb, hlk, hgv⟩ := C0
  have hu : ∀ w ∈ zUU, w.before #[Value.ref b] s = true := fun w hw => hts w (List.mem_filter.mp hw).1
  have Y : yB G room_1 0 0 (zZL G) mL_law 0 [some (41, 0), none, none, none, none, none, none] [] (0, ybl) := by
    refine y_new (M := mL_law) (pc := 0) (idx := 8) 11 zc11 ydef11 kL_c8 nX11_init.1 nX11_init.2 dL_law_0 (r := 0) ⟨by decide, by decide +kernel⟩ ⟨by decide, by decide⟩ rfl rfl ?_
    refine y_dup dL_law_3 (by decide) rfl ?_
    refine y_callI (ci := 11) (r := 0) (as := []) (rest := [vr 11 0]) (d := 4) (mc := 465) (ms := 157179) zs_init11 (by decide) kL_m15 dL_law_4 rfl ⟨by decide, by decide, by decide, by decide⟩ (by decide) rfl rfl ?_
    refine yC_mono (fun h1 q1 => ?_) (y_X11 (d := 0) yJ_bl)
    obtain ⟨n1, h1⟩ := h1
    obtain ⟨e1, j1, -, d1⟩ := q1
    dsimp only at e1 j1 d1
    subst e1
    refine ⟨rfl, ?_⟩
    refine y_astore_n 1 dL_law_7 rfl (by decide) (by decide) rfl rfl ?_
    refine y_new (M := mL_law) (pc := 8) (idx := 16) 12 zc12 ydef12 kL_c16 nX12_init.1 nX12_init.2 dL_law_8 (r := 466) ⟨by decide, by decide +kernel⟩ ⟨by decide, by decide⟩ rfl rfl ?_
    refine y_dup dL_law_11 (by decide) rfl ?_
    refine y_callI (ci := 12) (r := 466) (as := []) (rest := [vr 12 466]) (d := 1) (mc := 58) (ms := 111955) zs_init12 (by decide) kL_m18 dL_law_12 rfl ⟨by decide, by decide, by decide, by decide⟩ (by decide) rfl rfl ?_
    refine yC_mono (fun h2 q2 => ?_) (y_X12 (d := 0) j1)
    obtain ⟨n2, h2⟩ := h2
    obtain ⟨e2, j2, m2, d2⟩ := q2
    dsimp only at e2 j2 m2 d2
    subst e2
    refine ⟨rfl, ?_⟩
    refine y_astore_n 2 dL_law_15 rfl (by decide) (by decide) rfl rfl ?_
    refine y_iconst dL_law_16 rfl ?_
    refine y_newJ karr_long dL_law_17 (N := 1) (r := 525) ⟨by decide, by decide +kernel, by decide +kernel, rfl⟩ ⟨by decide, by decide⟩ rfl rfl ?_
    refine y_astore_n 3 dL_law_19 rfl (by decide) (by decide) rfl rfl ?_
    refine y_iconst dL_law_20 rfl ?_
    refine y_istore dL_law_21 (by decide) rfl rfl ?_
    intro o vs vl p e s m args below meth c H locs ls F P S Lv hs hin
    have hall : ∀ x y : Int, 0 ≤ x → x < 526 → h2 x y = zI x y := by
      intro x y q1 q2
      rcases (show x < 466 ∨ (466 ≤ x ∧ x < 525) ∨ x = 525 by omega) with q | q | q
      · exact m2 x y (d1 x y q1 q)
      · exact d2 x y q.1 q.2
      · subst q
        exact yD_num j2 (a := 525) (Or.inr (Or.inl (by decide +kernel))) 525 y (by decide) (by decide)
    exact K zI_ok vs vl p e s m args below meth c H locs ls F (zI_P hall P) S Lv
  rw [lg_entry_eq]
  subst g2
  have hlv := lv_entry ([((41, 0) : zV)].map (zcv G)) (n := 7) (by rw [zent_len]; decide)
  suffices KW : W p (zgl G) e room_1 s m #[Value.ref (zgb G)] below meth c s.heap [] 0 0 (zZL G s #[Value.ref (zgb G)] below) _ from fun T hT X => by
    obtain ⟨t, a1, b1⟩ := KW T hT X
    exact ⟨t, a1, b1 g5 (List.forall_mem_cons.mpr ⟨va_Nw.of rfl (hts _ nw_d0), List.forall_mem_cons.mpr ⟨va_Nw.of rfl (hts _ nw_d1), List.forall_mem_cons.mpr ⟨va_Nw.of rfl (hts _ nw_d2), fun _ h => absurd h List.not_mem_nil⟩⟩⟩)⟩
  refine Y ⟨by decide, fun a j _ => rfl⟩ (fun v hv => by cases hv) (fun v hv => ?_) p e s m _ below meth c s.heap [] _ ⟨hex, hcode, hml, hret, hlk, hown, hu, hK⟩ (fun k q hq => by cases hq) va_S.rf ⟨⟨hlv.1, hlv.2.1, fun q hq => by cases hq⟩, fun i v hv => ?_⟩ (by rw [g5]) ⟨fun q => absurd q (by decide), hts _ nw_ao1, hts _ nw_ao2⟩
  · rcases List.mem_cons.mp hv with h | h
    · cases h
      exact Or.inr (Or.inr (Or.inl ⟨by decide, fun z => absurd z (by decide)⟩))
    · simp at h
  · have := zent_at G 6 [(41, 0)] 0 i v hv
    rw [Nat.zero_add] at this
    exact hlv.2.2 _ this
