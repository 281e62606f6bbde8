/-! ===== the start: what the statement gives of it ===== -/
abbrev mL_law : zM := (yL_law, cL_law, 7, ret)
def zNw : List Cond := flatC (Jvm.Cond.and given_1 narrow_1)
def ztm (i : Nat) : Term := .string "RangedMachines$Text" ([76, 82, 84, 86, 88, 90, 68].getD i 0)
def ztm2 (i : Nat) : Term := .string "RangedMachinesModel" ([285, 291, 293, 295, 297, 299].getD i 0)
theorem nw_ex : ∀ i : Nat, i < 7 → Cond.exactly (ztm i) "java/lang/String" ∈ zNw := by decide +kernel
theorem nw_co : ∀ i : Nat, i < 7 → Cond.eq (.field (ztm i) "java/lang/String" "coder" "B") (.int 0) ∈ zNw := by decide +kernel
theorem nw_ar : ∀ i : Nat, i < 7 → Cond.arrayOf (.field (ztm i) "java/lang/String" "value" "[B") .byte ∈ zNw := by decide +kernel
theorem nw_le : ∀ i : Nat, i < 7 → Cond.eq (.length (.field (ztm i) "java/lang/String" "value" "[B")) (.int (Int32.ofNat (zLens.getD i 0))) ∈ zNw := by decide +kernel
theorem nw_el : ∀ i : Nat, i < 7 → ∀ j : Nat, j < zLens.getD i 0 → Cond.eq (.elem (.field (ztm i) "java/lang/String" "value" "[B") (.int (Int32.ofNat j))) (.int ((zByts.getD i []).getD j 0)) ∈ zNw := by decide +kernel
theorem nw_ne : ∀ i : Nat, i < 7 → ∀ j : Nat, j < 7 → i ≠ j → Cond.not (Cond.eq (ztm i) (ztm j)) ∈ zNw ∨ Cond.not (Cond.eq (ztm j) (ztm i)) ∈ zNw := by decide +kernel
theorem nw_eq : ∀ i : Nat, i < 6 → Cond.eq (ztm i) (ztm2 i) ∈ zNw := by decide +kernel
theorem nw_cs : Cond.eq (.static "java/lang/String" "COMPACT_STRINGS" "Z") (.int 1) ∈ zNw := by decide +kernel
theorem nw_fm : Cond.isRef (.static "jdk/internal/util/Preconditions" "SIOOBE_FORMATTER" "Ljava/util/function/BiFunction;") ∈ zNw := by decide +kernel
theorem nw_us : Cond.isRef (.static Bundle.tN "UNASSIGNED_STACK" Bundle.steD) ∈ zNw := by decide +kernel
theorem nw_ss : Cond.isRef (.static Bundle.tN "SUPPRESSED_SENTINEL" Bundle.listD) ∈ zNw := by decide +kernel
theorem zin_tb {w : Cond} (h : w ∈ tables_1) : w ∈ lw_tbl := List.mem_append_right _ h
theorem zt1_1 {w : Cond} (h : w ∈ tables_1_1) : w ∈ tables_1 := by unfold tables_1; simp only [List.mem_append]; simp only [h, true_or, or_true]
theorem zt1_2 {w : Cond} (h : w ∈ tables_1_2) : w ∈ tables_1 := by unfold tables_1; simp only [List.mem_append]; simp only [h, true_or, or_true]
theorem zt1_3 {w : Cond} (h : w ∈ tables_1_3) : w ∈ tables_1 := by unfold tables_1; simp only [List.mem_append]; simp only [h, true_or, or_true]
theorem zt1_4 {w : Cond} (h : w ∈ tables_1_4) : w ∈ tables_1 := by unfold tables_1; simp only [List.mem_append]; simp only [h, true_or, or_true]
theorem zt1_5 {w : Cond} (h : w ∈ tables_1_5) : w ∈ tables_1 := by unfold tables_1; simp only [List.mem_append]; simp only [h, true_or, or_true]
theorem zt1_6 {w : Cond} (h : w ∈ tables_1_6) : w ∈ tables_1 := by unfold tables_1; simp only [List.mem_append]; simp only [h, true_or, or_true]
theorem zt1_7 {w : Cond} (h : w ∈ tables_1_7) : w ∈ tables_1 := by unfold tables_1; simp only [List.mem_append]; simp only [h, true_or, or_true]
theorem zt1_8 {w : Cond} (h : w ∈ tables_1_8) : w ∈ tables_1 := by unfold tables_1; simp only [List.mem_append]; simp only [h, true_or, or_true]
theorem zt1_9 {w : Cond} (h : w ∈ tables_1_9) : w ∈ tables_1 := by unfold tables_1; simp only [List.mem_append]; simp only [h, true_or, or_true]
theorem zt1_10 {w : Cond} (h : w ∈ tables_1_10) : w ∈ tables_1 := by unfold tables_1; simp only [List.mem_append]; simp only [h, true_or, or_true]
theorem zt1_11 {w : Cond} (h : w ∈ tables_1_11) : w ∈ tables_1 := by unfold tables_1; simp only [List.mem_append]; simp only [h, true_or, or_true]
theorem nw_ao1 : Cond.arrayOver (.object "RangedMachines$LetterSet") ∈ lw_tbl := zin_tb (by show _ ∈ tables_1; exact zt1_1 (List.mem_of_getElem? (i := 164) rfl))
theorem nw_ao2 : Cond.arrayOver (.object "RangedMachines$Machine") ∈ lw_tbl := zin_tb (by show _ ∈ tables_1; exact zt1_1 (List.mem_of_getElem? (i := 36) rfl))
theorem nw_n0 : Cond.methodLinkNest "RangedMachines" 25 ⟨"RangedMachines$Draft", "<init>", "()V"⟩ "RangedMachines" ∈ lw_tbl := zin_tb (by show _ ∈ tables_1; exact zt1_1 (List.mem_of_getElem? (i := 39) rfl))
theorem nw_n1 : Cond.methodLinkNest "RangedMachines$Reader" 11 ⟨"RangedMachines$Text", "<init>", "()V"⟩ "RangedMachines" ∈ lw_tbl := zin_tb (by show _ ∈ tables_1; exact zt1_1 (List.mem_of_getElem? (i := 114) rfl))
theorem nw_n2 : Cond.methodLinkNest "RangedMachines$Reader" 53 ⟨"RangedMachines$Machine", "<init>", "()V"⟩ "RangedMachines" ∈ lw_tbl := zin_tb (by show _ ∈ tables_1; exact zt1_2 (List.mem_of_getElem? (i := 4) rfl))
theorem nw_n3 : Cond.methodLinkNest "RangedMachines$Machine" 33 ⟨"RangedMachines$Paths", "<init>", "()V"⟩ "RangedMachines" ∈ lw_tbl := zin_tb (by show _ ∈ tables_1; exact zt1_2 (List.mem_of_getElem? (i := 10) rfl))
theorem nw_n4 : Cond.methodLinkNest "RangedMachines" 48 ⟨"RangedMachines$Counts", "<init>", "()V"⟩ "RangedMachines" ∈ lw_tbl := zin_tb (by show _ ∈ tables_1; exact zt1_2 (List.mem_of_getElem? (i := 218) rfl))
theorem nw_n5 : Cond.methodLinkNest "RangedMachines" 55 ⟨"RangedMachines$Minterms", "<init>", "()V"⟩ "RangedMachines" ∈ lw_tbl := zin_tb (by show _ ∈ tables_1; exact zt1_2 (List.mem_of_getElem? (i := 228) rfl))
theorem nw_n6 : Cond.methodLinkNest "RangedMachines" 76 ⟨"RangedMachines$Machine", "<init>", "()V"⟩ "RangedMachines" ∈ lw_tbl := zin_tb (by show _ ∈ tables_1; exact zt1_3 (List.mem_of_getElem? (i := 7) rfl))
theorem nw_n7 : Cond.methodLinkNest "RangedMachines$Reader" 154 ⟨"RangedMachines", "isIn", "(II)Z"⟩ "RangedMachines" ∈ lw_tbl := zin_tb (by show _ ∈ tables_1; exact zt1_3 (List.mem_of_getElem? (i := 226) rfl))
theorem nw_n8 : Cond.methodLinkNest "RangedMachines$LetterSet" 34 ⟨"RangedMachines", "isTrue", "(IZZ)Z"⟩ "RangedMachines" ∈ lw_tbl := zin_tb (by show _ ∈ tables_1; exact zt1_4 (List.mem_of_getElem? (i := 133) rfl))
theorem nw_n9 : Cond.methodLinkNest "RangedMachines$LetterSet" 25 ⟨"RangedMachines", "isIn", "(II)Z"⟩ "RangedMachines" ∈ lw_tbl := zin_tb (by show _ ∈ tables_1; exact zt1_5 (List.mem_of_getElem? (i := 5) rfl))
theorem nw_n10 : Cond.methodLinkNest "RangedMachines$Pairs" 117 ⟨"RangedMachines", "isTrue", "(IZZ)Z"⟩ "RangedMachines" ∈ lw_tbl := zin_tb (by show _ ∈ tables_1; exact zt1_6 (List.mem_of_getElem? (i := 90) rfl))
theorem nw_n11 : Cond.methodLinkNest "RangedMachines$Draft" 72 ⟨"RangedMachines", "isIn", "(II)Z"⟩ "RangedMachines" ∈ lw_tbl := zin_tb (by show _ ∈ tables_1; exact zt1_6 (List.mem_of_getElem? (i := 171) rfl))
theorem nw_s0 : Cond.stringRef "RangedMachines$Text" 76 "set" ∈ lw_tbl := zin_tb (by show _ ∈ tables_1; exact zt1_3 (List.mem_of_getElem? (i := 97) rfl))
theorem nw_s1 : Cond.stringRef "RangedMachines$Text" 82 "machine" ∈ lw_tbl := zin_tb (by show _ ∈ tables_1; exact zt1_3 (List.mem_of_getElem? (i := 151) rfl))
theorem nw_s2 : Cond.stringRef "RangedMachines$Text" 84 "edge" ∈ lw_tbl := zin_tb (by show _ ∈ tables_1; exact zt1_3 (List.mem_of_getElem? (i := 152) rfl))
theorem nw_s3 : Cond.stringRef "RangedMachines$Text" 86 "free" ∈ lw_tbl := zin_tb (by show _ ∈ tables_1; exact zt1_3 (List.mem_of_getElem? (i := 153) rfl))
theorem nw_s4 : Cond.stringRef "RangedMachines$Text" 88 "end" ∈ lw_tbl := zin_tb (by show _ ∈ tables_1; exact zt1_3 (List.mem_of_getElem? (i := 154) rfl))
theorem nw_s5 : Cond.stringRef "RangedMachines$Text" 90 "any" ∈ lw_tbl := zin_tb (by show _ ∈ tables_1; exact zt1_3 (List.mem_of_getElem? (i := 155) rfl))
theorem nw_s6 : Cond.stringRef "RangedMachines$Text" 68 ";|&-!()[]," ∈ lw_tbl := zin_tb (by show _ ∈ tables_1; exact zt1_3 (List.mem_of_getElem? (i := 160) rfl))
theorem nw_s7 : Cond.stringRef "RangedMachinesModel" 285 "set" ∈ lw_tbl := zin_tb (by show _ ∈ tables_1; exact zt1_8 (List.mem_of_getElem? (i := 174) rfl))
theorem nw_s8 : Cond.stringRef "RangedMachinesModel" 291 "machine" ∈ lw_tbl := zin_tb (by show _ ∈ tables_1; exact zt1_8 (List.mem_of_getElem? (i := 200) rfl))
theorem nw_s9 : Cond.stringRef "RangedMachinesModel" 293 "edge" ∈ lw_tbl := zin_tb (by show _ ∈ tables_1; exact zt1_8 (List.mem_of_getElem? (i := 201) rfl))
theorem nw_s10 : Cond.stringRef "RangedMachinesModel" 295 "free" ∈ lw_tbl := zin_tb (by show _ ∈ tables_1; exact zt1_8 (List.mem_of_getElem? (i := 202) rfl))
theorem nw_s11 : Cond.stringRef "RangedMachinesModel" 297 "end" ∈ lw_tbl := zin_tb (by show _ ∈ tables_1; exact zt1_8 (List.mem_of_getElem? (i := 203) rfl))
theorem nw_s12 : Cond.stringRef "RangedMachinesModel" 299 "any" ∈ lw_tbl := zin_tb (by show _ ∈ tables_1; exact zt1_8 (List.mem_of_getElem? (i := 204) rfl))
theorem nw_lcs : Cond.laysStatic "java/lang/String" "COMPACT_STRINGS" "Z" ∈ lw_tbl := zin_tb (by show _ ∈ tables_1; exact zt1_3 (List.mem_of_getElem? (i := 110) rfl))
theorem nw_lfm : Cond.laysStatic "jdk/internal/util/Preconditions" "SIOOBE_FORMATTER" "Ljava/util/function/BiFunction;" ∈ lw_tbl := zin_tb (by show _ ∈ tables_1; exact zt1_3 (List.mem_of_getElem? (i := 127) rfl))
theorem nw_lus : Cond.laysStatic "java/lang/Throwable" "UNASSIGNED_STACK" "[Ljava/lang/StackTraceElement;" ∈ lw_tbl := zin_tb (by show _ ∈ tables_1; exact zt1_7 (List.mem_of_getElem? (i := 45) rfl))
theorem nw_lss : Cond.laysStatic "java/lang/Throwable" "SUPPRESSED_SENTINEL" "Ljava/util/List;" ∈ lw_tbl := zin_tb (by show _ ∈ tables_1; exact zt1_7 (List.mem_of_getElem? (i := 47) rfl))
theorem nw_ics : Cond.initialized "java/lang/String" ∈ lw_tbl := zin_tb (by show _ ∈ tables_1; exact zt1_1 (List.mem_of_getElem? (i := 15) rfl))
theorem nw_ifm : Cond.initialized "jdk/internal/util/Preconditions" ∈ lw_tbl := zin_tb (by show _ ∈ tables_1; exact zt1_1 (List.mem_of_getElem? (i := 17) rfl))
theorem nw_ius : Cond.initialized "java/lang/Throwable" ∈ lw_tbl := zin_tb (by show _ ∈ tables_1; exact zt1_1 (List.mem_of_getElem? (i := 23) rfl))
theorem nw_ca : Cond.castable "java/util/NoSuchElementException" "java/util/NoSuchElementException" ∈ lw_tbl := zin_tb (by show _ ∈ tables_1; exact zt1_7 (List.mem_of_getElem? (i := 20) rfl))
theorem nw_d0 : Cond.declares ⟨"java/lang/RuntimeException", "<init>", "()V"⟩ ∈ lw_tbl := zin_tb (by show _ ∈ tables_1; exact zt1_7 (List.mem_of_getElem? (i := 21) rfl))
theorem nw_d1 : Cond.declares ⟨"java/lang/Exception", "<init>", "()V"⟩ ∈ lw_tbl := zin_tb (by show _ ∈ tables_1; exact zt1_7 (List.mem_of_getElem? (i := 23) rfl))
theorem nw_d2 : Cond.declares ⟨"java/lang/Throwable", "<init>", "()V"⟩ ∈ lw_tbl := zin_tb (by show _ ∈ tables_1; exact zt1_7 (List.mem_of_getElem? (i := 25) rfl))
theorem zk_cls {s : State} {A : Array Value} (hts : ∀ w ∈ zUU, w.before A s = true) : ∃ D : va_G, ∀ (c : Nat) (q : vw_C), vwCl[c]? = some q → u_Kn s q.1 q.2.1 q.2.2 (D.1 c) (D.2 c) := by
  obtain ⟨c0, i0, h0⟩ := u_known hts zin0 (hts _ nX0_init.1)
  obtain ⟨c1, i1, h1⟩ := u_known hts zin1 (hts _ nX1_init.1)
  obtain ⟨c2, i2, h2⟩ := u_known hts zin2 (hts _ nX2_init.1)
  obtain ⟨c3, i3, h3⟩ := u_known hts zin3 (hts _ nX3_init.1)
  obtain ⟨c4, i4, h4⟩ := u_known hts zin4 (hts _ nX4_init.1)
  obtain ⟨c5, i5, h5⟩ := u_known hts zin5 (hts _ nX5_init.1)
  obtain ⟨c6, i6, h6⟩ := u_known hts zin6 (hts _ nX6_init.1)
  obtain ⟨c7, i7, h7⟩ := u_known hts zin7 (hts _ nX7_init.1)
  obtain ⟨c8, i8, h8⟩ := u_known hts zin8 (hts _ nX8_init.1)
  obtain ⟨c9, i9, h9⟩ := u_known hts zin9 (hts _ nX9_init.1)
  obtain ⟨c10, i10, h10⟩ := u_known hts zin10 (hts _ nX10_init.1)
  obtain ⟨c11, i11, h11⟩ := u_known hts zin11 (hts _ nX11_init.1)
  obtain ⟨c12, i12, h12⟩ := u_known hts zin12 (hts _ nX12_init.1)
  refine ⟨(fun k => [c0, c1, c2, c3, c4, c5, c6, c7, c8, c9, c10, c11, c12].getD k c0, fun k => [i0, i1, i2, i3, i4, i5, i6, i7, i8, i9, i10, i11, i12].getD k i0), fun c q hq => ?_⟩
  have hlt : c < 13 := (List.getElem?_eq_some_iff.mp hq).1
  match c, hlt, hq with
  | 0, _, hq => cases hq; exact h0
  | 1, _, hq => cases hq; exact h1
  | 2, _, hq => cases hq; exact h2
  | 3, _, hq => cases hq; exact h3
  | 4, _, hq => cases hq; exact h4
  | 5, _, hq => cases hq; exact h5
  | 6, _, hq => cases hq; exact h6
  | 7, _, hq => cases hq; exact h7
  | 8, _, hq => cases hq; exact h8
  | 9, _, hq => cases hq; exact h9
  | 10, _, hq => cases hq; exact h10
  | 11, _, hq => cases hq; exact h11
  | 12, _, hq => cases hq; exact h12
theorem zk_arr {s : State} {A : Array Value} {ty : FieldType} (h : (Cond.arrayClass ty).before A s = true) : ∃ cA : ClassId, ArrOfT s cA ty ∧ s.vm.findClass ("[" ++ ty.toString) = some cA := by
  obtain ⟨c, k, comp, h1, h2, h3⟩ := Cond.arrayClass_spec h
  exact ⟨c, fun n z => ⟨fun q hq => (nomatch hq), k, h2, comp, h3⟩, h1⟩
theorem zk_aro {s : State} {A : Array Value} {C : String} (h : (Cond.arrayOver (.object C)).before A s = true) : ∃ cA : ClassId, ArrOfT s cA (.object C) ∧ va_RA s cA (.object C) := by
  obtain ⟨comp, c, k, h1, h2, h3, h4, h5⟩ := Cond.arrayOver_spec h
  exact ⟨c, fun n z => ⟨fun q hq => (nomatch hq), k, h3, comp, h4⟩, k, comp, h3, h4, h1, h5⟩
