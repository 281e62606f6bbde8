/-! ===== the plain machine: values are whole numbers, a heap is a table of numbers, an address is a cell's place in the layout ===== -/
/-- 0 int, 1 long, 5 the formatter (a reference or null), 10 + kind a reference, 40 a string constant, 41 the law's script, 42 a string constant's row -/
abbrev zV : Type := Nat × Int
abbrev zH : Type := Int → Int → Int
/-- name, bytes, words of locals, what it returns -/
abbrev zM : Type := MethodName × ByteArray × Nat × Option FieldType
/-- launch, tables, array classes by kind, first address, string constants' addresses, their rows', the script's address, length, ints -/
abbrev zG : Type := Launch × va_G × (Nat → ClassId) × Nat × (Nat → Nat) × (Nat → Nat) × Nat × Nat × (Nat → Int32) × Option Nat
abbrev zgl (G : zG) : Launch := G.1
abbrev zgD (G : zG) : va_G := G.2.1
abbrev zgC (G : zG) : Nat → ClassId := G.2.2.1
abbrev zgB (G : zG) : Nat := G.2.2.2.1
abbrev zgK (G : zG) : Nat → Nat := G.2.2.2.2.1
abbrev zgV (G : zG) : Nat → Nat := G.2.2.2.2.2.1
abbrev zgb (G : zG) : Nat := G.2.2.2.2.2.2.1
abbrev zgL (G : zG) : Nat := G.2.2.2.2.2.2.2.1
abbrev zgx (G : zG) : Nat → Int32 := G.2.2.2.2.2.2.2.2.1
abbrev zgF (G : zG) : Option Nat := G.2.2.2.2.2.2.2.2.2
abbrev vi (x : Int) : zV := (0, x)
abbrev vl (x : Int) : zV := (1, x)
abbrev vr (t : Nat) (x : Int) : zV := (10 + t, x)
def zkdN (k : Nat) : Nat := (zLay.getD k (99, 0)).1
def zlnN (k : Nat) : Nat := (zLay.getD k (99, 0)).2
def zkd (r : Int) : Nat := zkdN r.toNat
def zln (r : Int) : Int := (zlnN r.toNat : Int)
def zfs (ci : Nat) : List (Nat × Option Int) := zFT.getD ci []
def zft (ci j : Nat) : Nat × Option Int := (zfs ci).getD j (0, none)
/-- a reference or null -/
def zoV (a : Option Nat) : Value := match a with
  | none => .null
  | some x => .ref x
def zcv (G : zG) (v : zV) : Value := if v.1 = 0 then .int (Int32.ofInt v.2) else if v.1 = 1 then .long (Int64.ofInt v.2) else if v.1 = 40 then .ref (zgK G v.2.toNat) else if v.1 = 41 then .ref (zgb G) else if v.1 = 42 then .ref (zgV G v.2.toNat) else if v.1 = 5 then zoV (zgF G) else .ref (zgB G + v.2.toNat)
def zvok (v : zV) : Prop := v.1 = 0 ∨ v.1 = 1 ∨ ((v.1 = 5 ∨ 40 ≤ v.1) ∧ (v.1 = 40 ∨ v.1 = 42 → 0 ≤ v.2 ∧ v.2 < 7)) ∨ (10 ≤ v.1 ∧ v.1 < 40 ∧ 0 ≤ v.2 ∧ v.2 < 526 ∧ 10 + zkd v.2 = v.1)
def zvs (st : List zV) : Prop := ∀ v ∈ st, zvok v
def zls (L : List (Option zV)) : Prop := ∀ v, some v ∈ L → zvok v
def zfv (G : zG) (t : Nat) (x : Int) : Value := if t = 0 then .int (Int32.ofInt x) else if t = 1 then .long (Int64.ofInt x) else if t = 2 then .int (Int32.ofInt x) else .ref (zgB G + x.toNat)
def zcell (G : zG) (h : zH) (k : Nat) : va_E :=
  if zkdN k = 13 then .inl (zgC G 13, zlnN k, .inl (fun j => Int32.ofInt (h k j)))
  else if zkdN k = 14 then .inl (zgC G 14, zlnN k, .inr (.inl (fun j => Int64.ofInt (h k j))))
  else if zkdN k = 15 then .inl (zgC G 15, zlnN k, .inl (fun j => Int32.ofInt (h k j)))
  else if zkdN k = 16 then .inl (zgC G 16, zlnN k, .inr (.inr (.inr (.inr (fun j => some (zgB G + (h k j).toNat))))))
  else if zkdN k = 17 then .inl (zgC G 17, zlnN k, .inr (.inr (.inr (.inr (fun j => some (zgB G + (h k j).toNat))))))
  else .inr (zkdN k, (List.range (zfs (zkdN k)).length).map (fun j => zfv G (zft (zkdN k) j).1 (h k j)))
def zws (G : zG) (h : zH) : va_W := (List.range zN).map (fun k => (zgB G + k, zcell G h k))
def zup (h : zH) (r i x : Int) : zH := fun a b => if a = r ∧ b = i then x else h a b
/-- a slot that holds a reference holds a good one -/
def zfok (k : Nat) (j : Nat) (x : Int) : Prop :=
  (zkdN k < 13 → ∀ o, (zft (zkdN k) j).2 = some o → x = k + o) ∧ (zkdN k < 13 → 10 ≤ (zft (zkdN k) j).1 → zvok ((zft (zkdN k) j).1, x)) ∧ (zkdN k = 16 → zvok (13, x)) ∧ (zkdN k = 17 → zvok (14, x))
def zok (h : zH) : Prop := ∀ k : Nat, k < 526 → ∀ j : Nat, j < zlnN k → zfok k j (h k j)
def zA (G : zG) : Nat → Prop := fun q => zgB G ≤ q
def ztys (G : zG) : List (ClassId × FieldType) := [(zgC G 13, .int), (zgC G 14, .long), (zgC G 15, .byte), (zgC G 16, .object "RangedMachines$LetterSet"), (zgC G 17, .object "RangedMachines$Machine")]
def zKK (G : zG) (s : State) : Prop :=
  va_K (zgD G) vwCl (ztys G) s ∧ (∀ q ∈ zNest, va_Nw (.methodLinkNest q.1 q.2.1 q.2.2.1 q.2.2.2) s) ∧ vk_S 7 zLens zByts (zgK G) (zgV G) (zA G) s s.heap ∧ (∀ q ∈ zStr, vk_R q.1 q.2.1 q.2.2.1 (zgK G q.2.2.2) s) ∧
  va_X (zgb G) (zgL G) (zgx G) s s.heap ∧ zgb G < zgB G ∧ zgB G ≤ s.heap.size ∧ va_Z "java/lang/String" "COMPACT_STRINGS" "Z" (.int 1) (zA G) s s.heap ∧ va_Z "jdk/internal/util/Preconditions" "SIOOBE_FORMATTER" "Ljava/util/function/BiFunction;" (zoV (zgF G)) (zA G) s s.heap ∧
  vx_Zq Bundle.tN "UNASSIGNED_STACK" Bundle.steD (zA G) s s.heap ∧ vx_Zq Bundle.tN "SUPPRESSED_SENTINEL" Bundle.listD (zA G) s s.heap ∧ va_Nw (.castable "java/util/NoSuchElementException" "java/util/NoSuchElementException") s
def zUU : List Cond := lw_tbl.filter goodWord
theorem zuu {w : Cond} (i : Nat) (h : lw_tbl[i]? = some w) (hg : goodWord w = true) : w ∈ zUU := List.mem_filter.mpr ⟨List.mem_of_getElem? h, hg⟩
theorem zUU_good {w : Cond} (h : w ∈ zUU) : (w.onTables && w.keeps) = true ∨ ∃ ty, w = .arrayClass ty := good_of_word (List.mem_filter.mp h).2
def zrm (d : Nat) : Room := { frames := d, cells := 0, slots := 0, locals := 64 * d }
def zFx (G : zG) (M : zM) (p : Program) (s : State) (m : MethodId) (args : Array Value) (meth : Method) (c : Code) : Prop :=
  p.tables.exec = Jvm.exec ∧ c.code = M.2.1 ∧ c.maxLocals = M.2.2.1 ∧ meth.sig.returnType = M.2.2.2 ∧ meth.locks = false ∧ s.vm.findClass M.1.cls = some m.cls ∧ (∀ w ∈ zUU, w.before args s = true) ∧ zKK G s
def zlv (G : zG) (ls : Array Slot) (n : Nat) (L : List (Option zV)) : Prop := lv_has ls n [] ∧ ∀ (i : Nat) (v : zV), L[i]? = some (some v) → ls[i]? = some (.val (zcv G v))
/-- the machine, at pc of M with locals L, stack st, heap h, comes to a state with Z -/
def zB (G : zG) (R : Room) (kc ks : Nat) (Z : State → Array Value → List Frame → State → Prop) (M : zM) (pc : Nat) (L : List (Option zV)) (st : List zV) (h : zH) : Prop :=
  zok h → zvs st → zls L → ∀ (p : Program) (e : Env) (s : State) (m : MethodId) (args : Array Value) (below : List Frame) (meth : Method) (c : Code) (H : Heap) (locs : List Loc) (ls : Array Slot),
    zFx G M p s m args meth c → va_P (zgD G) vwCl (zws G h) H → va_S (zA G) s.heap H locs → zlv G ls M.2.2.1 L → W p (zgl G) e R s m args below meth c H locs kc ks (Z s args below) (F0 m pc ls (st.map (zcv G)))
def zQc (G : zG) (Q : Option zV → zH → Prop) : Array Value → State → Outcome → State → Prop := fun _ st oc t =>
  (∃ (r : Option zV) (h' : zH), oc = .returned (r.map (zcv G)) ∧ (∀ v, r = some v → zvok v) ∧ zok h' ∧ Q r h' ∧ va_P (zgD G) vwCl (zws G h') t.heap) ∧ va_F (zA G) st t
def zZ (G : zG) (Q : Option zV → zH → Prop) : State → Array Value → List Frame → State → Prop := fun s args below => MQ below (zQc G Q) args s 0 0 (zA G)
abbrev zT (G : zG) (d : Nat) (M : zM) (Q : Option zV → zH → Prop) (pc : Nat) (L : List (Option zV)) (st : List zV) (h : zH) : Prop := zB G (zrm d) 0 0 (zZ G Q) M pc L st h
def zwm (M : zM) : List Cond := Cond.code M.1 M.2.1 M.2.2.1 M.2.2.2 :: zUU
def zPc (G : zG) (as : List zV) (h : zH) : Array Value → State → Prop := va_Pc (as.map (zcv G)) (fun U => zok h ∧ zvs as ∧ va_P (zgD G) vwCl (zws G h) U.heap ∧ zKK G U)
/-- a call of M with these arguments in this heap ends with Q -/
def zC (G : zG) (d : Nat) (M : zM) (as : List zV) (h : zH) (Q : Option zV → zH → Prop) : Prop := Met (zgl G) M.1 (zwm M) (zrm d) (zPc G as h) (zQc G Q) 0 0 (zA G)
def zCi (G : zG) (d : Nat) (M : zM) (as : List zV) (h : zH) (Q : Int → zH → Prop) : Prop := zC G d M as h (fun r h' => ∃ x, r = some (vi x) ∧ Q x h')
def zCl (G : zG) (d : Nat) (M : zM) (as : List zV) (h : zH) (Q : Int → zH → Prop) : Prop := zC G d M as h (fun r h' => ∃ x, r = some (vl x) ∧ Q x h')
def zCv (G : zG) (d : Nat) (M : zM) (as : List zV) (h : zH) (Q : zH → Prop) : Prop := zC G d M as h (fun r h' => r = none ∧ Q h')
-- ===== plain facts
theorem zcv_i (G : zG) (x : Int) : zcv G (vi x) = .int (Int32.ofInt x) := rfl
theorem zcv_l (G : zG) (x : Int) : zcv G (vl x) = .long (Int64.ofInt x) := rfl
theorem zcv_r (G : zG) (t : Nat) (x : Int) (ht : t < 30) : zcv G (vr t x) = .ref (zgB G + x.toNat) := by
  unfold zcv
  rw [if_neg (by show ¬ 10 + t = 0; omega), if_neg (by show ¬ 10 + t = 1; omega), if_neg (by show ¬ 10 + t = 40; omega), if_neg (by show ¬ 10 + t = 41; omega), if_neg (by show ¬ 10 + t = 42; omega), if_neg (by show ¬ 10 + t = 5; omega)]
theorem zcv_cat1 (G : zG) (v : zV) (h : v.1 ≠ 1) : (zcv G v).category = 1 := by
  unfold zcv
  by_cases h0 : v.1 = 0
  · rw [if_pos h0]
    rfl
  · rw [if_neg h0, if_neg h]
    by_cases h1 : v.1 = 40
    · rw [if_pos h1]
      rfl
    · rw [if_neg h1]
      by_cases h2 : v.1 = 41
      · rw [if_pos h2]
        rfl
      · rw [if_neg h2]
        by_cases h3 : v.1 = 42
        · rw [if_pos h3]
          rfl
        · rw [if_neg h3]
          by_cases h4 : v.1 = 5
          · rw [if_pos h4]
            unfold zoV
            cases zgF G <;> rfl
          · rw [if_neg h4]
            rfl
theorem zcv_cat2 (G : zG) (v : zV) (h : v.1 = 1) : (zcv G v).category = 2 := by
  unfold zcv
  rw [if_neg (by omega), if_pos h]
  rfl
theorem zvs_i {st : List zV} (x : Int) (h : zvs st) : zvs (vi x :: st) := fun v hv => (List.mem_cons.mp hv).elim (fun e => by subst e; exact Or.inl rfl) (h v)
theorem zvs_l {st : List zV} (x : Int) (h : zvs st) : zvs (vl x :: st) := fun v hv => (List.mem_cons.mp hv).elim (fun e => by subst e; exact Or.inr (Or.inl rfl)) (h v)
theorem zvs_c {st : List zV} {v : zV} (hv : zvok v) (h : zvs st) : zvs (v :: st) := fun w hw => (List.mem_cons.mp hw).elim (fun e => by subst e; exact hv) (h w)
theorem zvs_t {st : List zV} {v : zV} (h : zvs (v :: st)) : zvs st := fun w hw => h w (List.mem_cons_of_mem _ hw)
theorem zvs_h {st : List zV} {v : zV} (h : zvs (v :: st)) : zvok v := h v List.mem_cons_self
theorem zvok_r {t : Nat} {x : Int} (ht : t < 30) (h : zvok (vr t x)) : ∃ k : Nat, x = k ∧ k < 526 ∧ zkdN k = t := by
  rcases h with h | h | h | h
  · exact absurd h (by show ¬ 10 + t = 0; omega)
  · exact absurd h (by show ¬ 10 + t = 1; omega)
  · exact absurd h.1 (by show ¬ (10 + t = 5 ∨ 40 ≤ 10 + t); omega)
  · obtain ⟨-, -, h1, h2, h3⟩ := h
    dsimp only at h1 h2 h3
    refine ⟨x.toNat, by omega, by omega, ?_⟩
    unfold zkd at h3
    omega
theorem zvok_mk {t k : Nat} (ht : t < 30) (hk : k < 526) (h : zkdN k = t) : zvok (vr t (k : Int)) := by
  refine Or.inr (Or.inr (Or.inr ⟨by show 10 ≤ 10 + t; omega, by show 10 + t < 40; omega, by show (0 : Int) ≤ k; omega, by show (k : Int) < 526; omega, ?_⟩))
  show 10 + zkdN (k : Int).toNat = 10 + t
  rw [Int.toNat_natCast, h]
theorem zlen_ok : zLay.length = 526 := by decide +kernel
theorem zln_small : ∀ k < 526, zlnN k ≤ 30000 := by decide +kernel
theorem zln_obj : ∀ k < 526, zkdN k < 13 → zlnN k = (zfs (zkdN k)).length := by decide +kernel
theorem zkd_small : ∀ k < 526, zkdN k < 18 := by decide +kernel
/-- where final references point to -/
theorem zfin_ok : ∀ k < 526, zkdN k < 13 → ∀ j < (zfs (zkdN k)).length, ∀ o ∈ ((zft (zkdN k) j).2), 10 ≤ (zft (zkdN k) j).1 ∧ 0 ≤ (k : Int) + o ∧ (k : Int) + o < 526 ∧ 10 + zkdN ((k : Int) + o).toNat = (zft (zkdN k) j).1 := by decide +kernel
theorem zft_lt : ∀ ci < 13, ∀ j < (zfs ci).length, (zft ci j).1 < 28 := by decide +kernel
theorem zws_get (G : zG) (h : zH) {k : Nat} (hk : k < 526) : (zws G h)[k]? = some (zgB G + k, zcell G h k) := by
  unfold zws
  rw [List.getElem?_map, List.getElem?_range (show k < zN from hk)]
  rfl
theorem zws_D (G : zG) (h : zH) : va_D (zA G) (zws G h) := by
  have hh : ∀ (k : Nat) (q : Nat × va_E), (zws G h)[k]? = some q → q.1 = zgB G + k := by
    intro k q hq
    by_cases hk : k < 526
    · rw [zws_get G h hk] at hq
      cases hq
      rfl
    · have hn : (zws G h)[k]? = none := List.getElem?_eq_none (by unfold zws; rw [List.length_map, List.length_range]; exact Nat.not_lt.mp hk)
      rw [hn] at hq
      cases hq
  refine ⟨fun i j p q hp hq e => ?_, fun k q hq => ?_⟩
  · rw [hh i p hp, hh j q hq] at e
    omega
  · show zgB G ≤ q.1
    rw [hh k q hq]
    omega
theorem zcell_ne (G : zG) (h : zH) (r i x : Int) {k : Nat} (hk : r ≠ k) : zcell G (zup h r i x) k = zcell G h k := by
  have e : zup h r i x k = h k := by
    funext j
    unfold zup
    rw [if_neg (fun q => hk q.1.symm)]
  unfold zcell
  rw [e]
theorem zws_set (G : zG) (h : zH) (k : Nat) (i x : Int) (e : va_E) (he : zcell G (zup h k i x) k = e) : (zws G h).set k (zgB G + k, e) = zws G (zup h k i x) := by
  subst he
  apply List.ext_getElem?
  intro j
  rw [List.getElem?_set]
  by_cases hj : j < 526
  · rw [zws_get G (zup h k i x) hj]
    by_cases e : k = j
    · subst e
      rw [if_pos rfl, if_pos (by unfold zws; rw [List.length_map, List.length_range]; exact hj)]
    · rw [if_neg e, zws_get G h hj, zcell_ne G h k i x (fun q => e (Int.ofNat.inj q))]
  · have hn : ∀ h' : zH, (zws G h')[j]? = none := fun h' => List.getElem?_eq_none (by unfold zws; rw [List.length_map, List.length_range]; exact Nat.not_lt.mp hj)
    rw [hn, hn]
    by_cases e : k = j
    · rw [if_pos e, if_neg (by unfold zws; rw [List.length_map, List.length_range]; show ¬ k < 526; omega)]
    · rw [if_neg e]
theorem zok_up {h : zH} (ho : zok h) (k : Nat) (i x : Int) (hx : ∀ j : Nat, i = j → zfok k j x) : zok (zup h k i x) := by
  intro a ha j hj
  unfold zup
  by_cases e : (a : Int) = k ∧ (j : Int) = i
  · rw [if_pos e]
    have e1 : a = k := Int.ofNat.inj e.1
    subst e1
    exact hx j e.2.symm
  · rw [if_neg e]
    exact ho a ha j hj
theorem zofInt (j : Nat) : Int32.ofInt (j : Int) = nI j := rfl
