/-! ===== string constants ===== -/
def zsl (k : Int) : Int := (zLens.getD k.toNat 0 : Int)
def zsb (k i : Int) : Int := ((zByts.getD k.toNat []).getD i.toNat 0).toInt
/-- of a method of String -/
def zMt (Mc : zM) (n : Nat) : Prop := Cond.code Mc.1 Mc.2.1 Mc.2.2.1 Mc.2.2.2 ∈ zUU ∧ Cond.initialized Mc.1.cls ∈ zUU ∧ Cond.instanceMethod Mc.1 ∈ zUU ∧ Cond.selects Mc.1.cls Mc.1 Mc.1 ∈ zUU ∧ (Mc.1.cls ≠ "java/lang/invoke/MethodHandle" ∧ Mc.1.cls ≠ "java/lang/invoke/VarHandle") ∧ (parseMethodDescriptor Mc.1.desc).map (fun d => d.parameters.length) = some n ∧ Mc.2.2.1 ≤ 40 ∧ Mc.1.cls = "java/lang/String"
section ZS
variable {G : zG} {R : Room} {kc ks : Nat} {Z : State → Array Value → List Frame → State → Prop} {M Mc : zM} {pc pc' : Nat} {L : List (Option zV)} {st : List zV} {h : zH} {d : Nat} {Q : Option zV → zH → Prop}
theorem zvok_s {k : Int} (t : Nat) (ht : t = 40 ∨ t = 42) (h : zvok (t, k)) : 0 ≤ k ∧ k < 7 := by
  rcases h with h | h | h | h
  · exact absurd h (by show ¬ t = 0; omega)
  · exact absurd h (by show ¬ t = 1; omega)
  · exact h.2 ht
  · exact absurd h.2.1 (by show ¬ t < 40; omega)
theorem zvok_s_mk {k : Nat} (t : Nat) (ht : t = 40 ∨ t = 42) (h : k < 7) : zvok (t, (k : Int)) := Or.inr (Or.inr (Or.inl ⟨Or.inr (by show 40 ≤ t; omega), fun _ => by show (0 : Int) ≤ k ∧ (k : Int) < 7; omega⟩))
theorem zcv_40 (G : zG) (k : Nat) : zcv G (40, (k : Int)) = .ref (zgK G k) := rfl
theorem zcv_42 (G : zG) (k : Nat) : zcv G (42, (k : Int)) = .ref (zgV G k) := rfl
theorem z_ldcS {idx k : Nat} {tx : String} {x : Int} (hw : (M.1.cls, idx, tx, k) ∈ zStr) (hk : k < 7) (hx : (k : Int) = x) (hd : decode M.2.1 pc = .ok (.ldc idx, 2)) (hp : pc + 2 = pc') (q : zB G R kc ks Z M pc' L ((40, x) :: st) h) : zB G R kc ks Z M pc L st h := by
  subst hp
  subst hx
  intro o vs vl p e s m args below meth c H locs ls F P S Lv
  exact va_ldcS F.1 F.2.1 F.2.2.2.2.2.1 (F.2.2.2.2.2.2.2.2.2.2.1 _ hw) hd (q o (zvs_c (zvok_s_mk 40 (Or.inl rfl) hk) vs) vl p e s m args below meth c H locs ls F P S Lv)
theorem z_ldcwS {idx k : Nat} {tx : String} {x : Int} (hw : (M.1.cls, idx, tx, k) ∈ zStr) (hk : k < 7) (hx : (k : Int) = x) (hd : decode M.2.1 pc = .ok (.ldc_w idx, 3)) (hp : pc + 3 = pc') (q : zB G R kc ks Z M pc' L ((40, x) :: st) h) : zB G R kc ks Z M pc L st h := by
  subst hp
  subst hx
  intro o vs vl p e s m args below meth c H locs ls F P S Lv T hT X
  obtain ⟨t, a1, b1⟩ := q o (zvs_c (zvok_s_mk 40 (Or.inl rfl) hk) vs) vl p e s m args below meth c H locs ls F P S Lv T hT X
  obtain ⟨hz1, hz2⟩ := F.2.2.2.2.2.2.2.2.2.2.1 _ hw
  refine ⟨t, ?_, b1⟩
  obtain ⟨kC, cf, i, a', hkC, hcf, hcp, -, hr, hev'⟩ := Cond.stringRef_spec F.2.2.2.2.2.1 hz1
  cases hz2.symm.trans hev'
  obtain ⟨k', hk', he⟩ := X.warmed.alike.2.2 _ _ hkC
  have hr' : k'.resolved[idx]? = some (some (.string (zgK G k))) := by
    rcases X.warmed.entry hkC hk' idx with h | ⟨h, -⟩
    · rw [h]; exact hr
    · rw [hr] at h; cases h
  have hdg : decode c.code pc = .ok (.ldc_w idx, 3) := by rw [F.2.1]; exact hd
  have hexec := F.1
  jvm_step X.here [hexec, hdg, ldc_w.wp_string (e := e) (s := T) (f := F0 m pc ls (st.map (zcv G))) X.here.top hk' (by rw [he]; exact hcf) hcp hr']
  exact a1
theorem z_sval {idx : Nat} {k : Int} (hw : Cond.fieldLink M.1.cls idx "java/lang/String" "value" "[B" ∈ zUU) (hd : decode M.2.1 pc = .ok (.getfield idx, 3)) (hp : pc + 3 = pc') (q : zB G R kc ks Z M pc' L ((42, k) :: st) h) : zB G R kc ks Z M pc L ((40, k) :: st) h := by
  subst hp
  intro o vs vl p e s m args below meth c H locs ls F P S Lv
  obtain ⟨h0, h1⟩ := zvok_s 40 (Or.inl rfl) (zvs_h vs)
  obtain ⟨j, rfl⟩ : ∃ j : Nat, k = j := ⟨k.toNat, by omega⟩
  have K := q o (zvs_c (zvok_s_mk 42 (Or.inr rfl) (by omega)) (zvs_t vs)) vl p e s m args below meth c H locs ls F P S Lv
  exact vk_getf F.1 F.2.1 (rest := st.map (zcv G)) (F.2.2.2.2.2.2.2.2.2.1.1 j (by omega)).2.2.1 S F.2.2.2.2.2.1 (F.2.2.2.2.2.2.1 _ hw) (fun _ z => z) hd K
theorem z_scod {idx : Nat} {k : Int} (hw : Cond.fieldLink M.1.cls idx "java/lang/String" "coder" "B" ∈ zUU) (hd : decode M.2.1 pc = .ok (.getfield idx, 3)) (hp : pc + 3 = pc') (q : zB G R kc ks Z M pc' L (vi 0 :: st) h) : zB G R kc ks Z M pc L ((40, k) :: st) h := by
  subst hp
  intro o vs vl p e s m args below meth c H locs ls F P S Lv
  obtain ⟨h0, h1⟩ := zvok_s 40 (Or.inl rfl) (zvs_h vs)
  obtain ⟨j, rfl⟩ : ∃ j : Nat, k = j := ⟨k.toNat, by omega⟩
  have K := q o (zvs_i 0 (zvs_t vs)) vl p e s m args below meth c H locs ls F P S Lv
  exact vk_getf F.1 F.2.1 (rest := st.map (zcv G)) (F.2.2.2.2.2.2.2.2.2.1.1 j (by omega)).2.1 S F.2.2.2.2.2.1 (F.2.2.2.2.2.2.1 _ hw) (fun _ z => z) hd K
theorem z_gcs {idx : Nat} (hw : Cond.fieldLink M.1.cls idx "java/lang/String" "COMPACT_STRINGS" "Z" ∈ zUU) (hd : decode M.2.1 pc = .ok (.getstatic idx, 3)) (hp : pc + 3 = pc') (q : zB G R kc ks Z M pc' L (vi 1 :: st) h) : zB G R kc ks Z M pc L st h := by
  subst hp
  intro o vs vl p e s m args below meth c H locs ls F P S Lv
  obtain ⟨-, -, -, -, -, -, -, hz, -⟩ := F.2.2.2.2.2.2.2
  exact va_gets F.1 F.2.1 (rest := st.map (zcv G)) hz S F.2.2.2.2.2.1 (F.2.2.2.2.2.2.1 _ hw) (fun _ z => z) hd (q o (zvs_i 1 vs) vl p e s m args below meth c H locs ls F P S Lv)
theorem z_gfm {idx : Nat} (hw : Cond.fieldLink M.1.cls idx "jdk/internal/util/Preconditions" "SIOOBE_FORMATTER" "Ljava/util/function/BiFunction;" ∈ zUU) (hd : decode M.2.1 pc = .ok (.getstatic idx, 3)) (hp : pc + 3 = pc') (q : zB G R kc ks Z M pc' L ((5, 0) :: st) h) : zB G R kc ks Z M pc L st h := by
  subst hp
  intro o vs vl p e s m args below meth c H locs ls F P S Lv
  obtain ⟨-, -, -, -, -, -, -, -, hz, -⟩ := F.2.2.2.2.2.2.2
  exact va_gets F.1 F.2.1 (rest := st.map (zcv G)) hz S F.2.2.2.2.2.1 (F.2.2.2.2.2.2.1 _ hw) (fun _ z => z) hd (q o (zvs_c (Or.inr (Or.inr (Or.inl ⟨by decide, fun z => absurd z (by decide)⟩))) vs) vl p e s m args below meth c H locs ls F P S Lv)
theorem z_slb {k x : Int} (hd : decode M.2.1 pc = .ok (.arraylength, 1)) (hx : zsl k = x) (hp : pc + 1 = pc') (q : zB G R kc ks Z M pc' L (vi x :: st) h) : zB G R kc ks Z M pc L ((42, k) :: st) h := by
  subst hp
  subst hx
  intro o vs vl p e s m args below meth c H locs ls F P S Lv
  obtain ⟨h0, h1⟩ := zvok_s 42 (Or.inr rfl) (zvs_h vs)
  obtain ⟨j, rfl⟩ : ∃ j : Nat, k = j := ⟨k.toNat, by omega⟩
  have K := q o (zvs_i _ (zvs_t vs)) vl p e s m args below meth c H locs ls F P S Lv
  exact va_tlen F.1 F.2.1 (rest := st.map (zcv G)) (F.2.2.2.2.2.2.2.2.2.1.1 j (by omega)).2.2.2 S (v := Int32.ofInt (zsl j)) rfl hd K
theorem zsl_small (k : Int) : zsl k ≤ 30000 := by
  have : ∀ n : Nat, zLens.getD n 0 ≤ 30000 := by
    intro n
    by_cases hn : n < 7
    · have h7 : ∀ n < 7, zLens.getD n 0 ≤ 30000 := by decide +kernel
      exact h7 n hn
    · have : zLens.getD n 0 = 0 := by rw [List.getD_eq_getElem?_getD, List.getElem?_eq_none (by show 7 ≤ n; omega)]; rfl
      omega
  have := this k.toNat
  unfold zsl
  omega
theorem z_sld8 {k i x : Int} (hd : decode M.2.1 pc = .ok (.baload, 1)) (hi : 0 ≤ i ∧ i < zsl k) (hx : zsb k i = x) (hp : pc + 1 = pc') (q : zB G R kc ks Z M pc' L (vi x :: st) h) : zB G R kc ks Z M pc L (vi i :: (42, k) :: st) h := by
  subst hp
  subst hx
  intro o vs vl p e s m args below meth c H locs ls F P S Lv
  obtain ⟨h0, h1⟩ := zvok_s 42 (Or.inr rfl) (zvs_h (zvs_t vs))
  obtain ⟨j, rfl⟩ : ∃ j : Nat, k = j := ⟨k.toNat, by omega⟩
  have hs := zsl_small (j : Int)
  have h9 : zsl (j : Int) = ((zLens.getD j 0 : Nat) : Int) := rfl
  obtain ⟨g1, g2⟩ := zI_nat (i := i) (n := zLens.getD j 0) hi.1 (by rw [← h9]; exact hi.2) (by omega)
  have K := q o (zvs_i _ (zvs_t (zvs_t vs))) vl p e s m args below meth c H locs ls F P S Lv
  rw [List.map_cons, zcv_i, zsb, Int32.ofInt_toInt, Int.toNat_natCast] at K
  exact va_tb F.1 F.2.1 (rest := st.map (zcv G)) (F.2.2.2.2.2.2.2.2.2.1.1 j (by omega)).2.2.2 S g1 (by rw [g2]) hd K
theorem z_nreturn {x : Int} {ty : FieldType} (hr : M.2.2.2 = some ty) (hn : narrow ty (.int (Int32.ofInt x)) = .int (Int32.ofInt x)) (hd : decode M.2.1 pc = .ok (.ireturn, 1)) (k : Q (some (vi x)) h) : zT G d M Q pc L [vi x] h := by
  intro o vs vl p e s m args below meth c H locs ls F P S Lv
  have hlocks : meth.locks = false := F.2.2.2.2.1
  exact W.zret F.1 F.2.1 (F.2.2.2.1.trans hr) hn (fun t ht hW => ⟨⟨some (vi x), h, rfl, fun v hv => by cases hv; exact Or.inl rfl, o, k, by rw [ht]; exact P⟩, S.F ht⟩) S.2.2 hd
theorem z_callT {n idx : Nat} {r : Int} {as rest stk : List zV} (hM : zMt Mc n) (hl : Cond.methodLink M.1.cls idx Mc.1 ∈ zUU) (hd : decode M.2.1 pc = .ok (.invokevirtual idx, 3)) (hn : as.length = n) (hR : zRo R kc ks d) (hcat : zcat rest ≤ 8) (hs : as.reverse ++ (40, r) :: rest = stk) (hp : pc + 3 = pc') (k : zC G d Mc ((40, r) :: as) h (fun x h' => zB G R kc ks Z M pc' L (x.toList ++ rest) h')) : zB G R kc ks Z M pc L stk h := by
  subst hp
  subst hs
  intro o vs vl p e s m args below meth c H locs ls F P S Lv
  obtain ⟨hc, hini, hinst, hsel, hnm, har, hml, hcls⟩ := hM
  have hts := F.2.2.2.2.2.2.1
  have hv1 : zvok (40, r) := vs _ (List.mem_append_right _ List.mem_cons_self)
  obtain ⟨g0, g1⟩ := zvok_s 40 (Or.inl rfl) hv1
  obtain ⟨a, rfl⟩ : ∃ a : Nat, r = a := ⟨r.toNat, by omega⟩
  have hva : zvs ((40, (a : Int)) :: as) := fun v hv => by
    rcases List.mem_cons.mp hv with rfl | h
    · exact hv1
    · exact vs v (List.mem_append_left _ (List.mem_reverse.mpr h))
  have hvr : zvs rest := fun v hv => vs v (List.mem_append_right _ (List.mem_cons_of_mem _ hv))
  refine z_goes F S Lv vl hvr ?_ (a := (Value.ref (zgK G a) :: as.map (zcv G)).toArray)
  refine va_runV (C := Mc.1.cls) (b := zgK G a) (As := as.map (zcv G)) (nL := M.2.2.1) (Ts := zUU) ⟨F.1, F.2.1, F.2.2.1, F.2.2.2.2.2.1, hts⟩ k ⟨⟨rfl, rfl, hR.1, ?_, zwm_pay hts hc, List.mem_cons_self, hts _ hc, hts _ hini, hnm, zarity har, hts _ hl⟩, hts _ hinst, hts _ hsel⟩ ⟨zPc_blind _ _, ?_, ?_⟩ rfl (by rw [List.length_map]; exact hn) Lv.1.1 ?_ ?_ hd ⟨hR.2.2.1, hR.2.2.2⟩
  · have := hR.2.1
    show 8 + (Mc.2.2.1 + 11) + 64 * d ≤ R.locals
    omega
  · rw [hcls]
    exact vk_recv F.2.2.2.2.2.2.2.2.2.1 (by omega) S
  · exact zPc_of (as := (40, (a : Int)) :: as) o hva P F.2.2.2.2.2.2.2 S
  · show (as.reverse ++ (40, (a : Int)) :: rest).map (zcv G) = _
    rw [List.map_append, List.map_reverse, List.map_cons, zcv_40]
  · rw [zcat_ok]
    show 2 * 0 + zcat rest ≤ 8
    omega
theorem z_callTi {n idx : Nat} {r : Int} {as rest stk : List zV} (hM : zMt Mc n) (hl : Cond.methodLink M.1.cls idx Mc.1 ∈ zUU) (hd : decode M.2.1 pc = .ok (.invokevirtual idx, 3)) (hn : as.length = n) (hR : zRo R kc ks d) (hcat : zcat rest ≤ 8) (hs : as.reverse ++ (40, r) :: rest = stk) (hp : pc + 3 = pc') (k : zCi G d Mc ((40, r) :: as) h (fun x h' => zB G R kc ks Z M pc' L (vi x :: rest) h')) : zB G R kc ks Z M pc L stk h :=
  z_callT hM hl hd hn hR hcat hs hp (zC_mono (fun r h' ⟨x, e, q⟩ => by subst e; exact q) k)
theorem z_callTb {n idx : Nat} {r : Int} {as rest stk : List zV} (hM : zMt Mc n) (hl : Cond.methodLink M.1.cls idx Mc.1 ∈ zUU) (hd : decode M.2.1 pc = .ok (.invokevirtual idx, 3)) (hn : as.length = n) (hR : zRo R kc ks d) (hcat : zcat rest ≤ 8) (hs : as.reverse ++ (40, r) :: rest = stk) (hp : pc + 3 = pc') (k : zCb G d Mc ((40, r) :: as) h (fun x h' => zB G R kc ks Z M pc' L (vi (bi x) :: rest) h')) : zB G R kc ks Z M pc L stk h :=
  z_callT hM hl hd hn hR hcat hs hp (zC_mono (fun r h' ⟨x, e, q⟩ => by subst e; exact q) k)
end ZS
