theorem yD_num' {h : zH} (hj : yJ h) {a : Nat} {b c : Int} (hk : zkdN a = 13 ∨ zkdN a = 14 ∨ zkdN a = 15) (hb : b = a) (hc : c = a + 1) : yD h b c := by
  subst hb
  subst hc
  exact yD_num hj hk
theorem yD_obj' {h : zH} (hj : yJ h) {a : Nat} {b c : Int} (hs : ∀ j : Nat, j < zlnN a → h a j = zI a j ∨ zI a j = ybl a j) (hb : b = a) (hc : c = a + 1) : yD h b c := by
  subst hb
  subst hc
  exact yD_obj hj hs
theorem yD_eq {h : zH} {a b c d : Int} (hd : yD h a b) (h1 : c = a) (h2 : d = b) : yD h c d := by
  subst h1
  subst h2
  exact hd
section YS
variable {G : zG} {R : Room} {kc ks : Nat} {Z : State → Array Value → List Frame → State → Prop} {M : zM} {pc pc' : Nat} {L : List (Option zV)} {st : List zV}
theorem y_set {idx j n : Nat} (ci t : Nat) {h : zH} {r x : Int} (hw : zFP M.1.cls idx ci j) (hM : M.1.name = "<init>") (ht : (zft ci j).1 = 10 + t) (ht9 : t < 18) (hd : decode M.2.1 pc = .ok (.putfield idx, 3)) (hr : r < n) (hJ : yJ h) (hx : x = zI r j) (hp : pc + 3 = pc') (k : ∀ h1, yJ h1 → yM h h1 → h1 r j = zI r j → yB G R kc ks Z M pc' L st (n, h1)) : yB G R kc ks Z M pc L (vr t x :: vr ci r :: st) (n, h) :=
  y_putR ci t hw hM ht ht9 hd hr hp (k _ (yJ_up hJ hx) (yM_up hx) (by rw [zup_at]; exact hx))
theorem y_setI {idx j n : Nat} (ci : Nat) {h : zH} {r x : Int} (hw : zFP M.1.cls idx ci j) (hM : M.1.name = "<init>") (ht : (zft ci j).1 = 0) (hd : decode M.2.1 pc = .ok (.putfield idx, 3)) (hr : r < n) (hJ : yJ h) (hx : x = zI r j) (hp : pc + 3 = pc') (k : ∀ h1, yJ h1 → yM h h1 → h1 r j = zI r j → yB G R kc ks Z M pc' L st (n, h1)) : yB G R kc ks Z M pc L (vi x :: vr ci r :: st) (n, h) :=
  y_putI ci hw hM ht hd hr hp (k _ (yJ_up hJ hx) (yM_up hx) (by rw [zup_at]; exact hx))
theorem y_put17 {n : Nat} (t u tp : Nat) {h : zH} {r i x : Int} (ht : (t = 16 ∧ u = 3 ∧ tp = 3) ∨ (t = 17 ∧ u = 4 ∧ tp = 4)) (hd : decode M.2.1 pc = .ok (.aastore, 1)) (hr : r < n) (hxn : x < n) (hi : 0 ≤ i ∧ i < zln r) (hJ : yJ h) (hx : x = zI r i) (hp : pc + 1 = pc') (k : ∀ h1, yJ h1 → yM h h1 → h1 r i = zI r i → yB G R kc ks Z M pc' L st (n, h1)) : yB G R kc ks Z M pc L (vr u x :: vi i :: vr t r :: st) (n, h) :=
  y_aast t u tp ht hd hr hxn hi hp (k _ (yJ_up hJ hx) (yM_up hx) (by rw [zup_at]; exact hx))
theorem y_kcs {kc' ks' : Nat} {h : yH} (h1 : kc = kc') (h2 : ks = ks') (k : yB G R kc' ks' Z M pc L st h) : yB G R kc ks Z M pc L st h := by
  subst h1
  subst h2
  exact k
end YS
/-- a constructor at a makes the cells up to b -/
abbrev yQ (h : zH) (a b : Nat) : yH → Prop := fun h' => h'.1 = b ∧ yJ h'.2 ∧ yM h h'.2 ∧ yD h'.2 a b
theorem yid3 {a : Nat} (ha : a ∈ zids3) : a + 2 ≤ 526 := (show ∀ a ∈ zids3, a + 2 ≤ 526 by decide +kernel) a ha
theorem yk3_0 {a : Nat} (ha : a ∈ zids3) : zkdN (a) = 3 ∧ zlnN (a) = 2 := (show ∀ a ∈ zids3, zkdN (a) = 3 ∧ zlnN (a) = 2 by decide +kernel) a ha
theorem yk3_1 {a : Nat} (ha : a ∈ zids3) : zkdN (a + 1) = 13 := (show ∀ a ∈ zids3, zkdN (a + 1) = 13 by decide +kernel) a ha
theorem yi3_0 {a : Nat} (ha : a ∈ zids3) : (((a + 1) : Nat) : Int) = zI a 0 := (show ∀ a ∈ zids3, (((a + 1) : Nat) : Int) = zI a 0 by decide +kernel) a ha
theorem yb3 {a : Nat} (ha : a ∈ zids3) : ∀ j ∈ [1], zI a (j : Nat) = ybl a (j : Nat) := (show ∀ a ∈ zids3, ∀ j ∈ [1], zI a (j : Nat) = ybl a (j : Nat) by decide +kernel) a ha
theorem yid4 {a : Nat} (ha : a ∈ zids4) : a + 19 ≤ 526 := (show ∀ a ∈ zids4, a + 19 ≤ 526 by decide +kernel) a ha
theorem yk4_0 {a : Nat} (ha : a ∈ zids4) : zkdN (a) = 4 ∧ zlnN (a) = 12 := (show ∀ a ∈ zids4, zkdN (a) = 4 ∧ zlnN (a) = 12 by decide +kernel) a ha
theorem yk4_1 {a : Nat} (ha : a ∈ zids4) : zkdN ((a + 1)) = 13 ∧ zlnN ((a + 1)) = 160 := (show ∀ a ∈ zids4, zkdN ((a + 1)) = 13 ∧ zlnN ((a + 1)) = 160 by decide +kernel) a ha
theorem yk4_2 {a : Nat} (ha : a ∈ zids4) : zkdN ((a + 2)) = 13 ∧ zlnN ((a + 2)) = 160 := (show ∀ a ∈ zids4, zkdN ((a + 2)) = 13 ∧ zlnN ((a + 2)) = 160 by decide +kernel) a ha
theorem yk4_3 {a : Nat} (ha : a ∈ zids4) : zkdN ((a + 3)) = 14 ∧ zlnN ((a + 3)) = 320 := (show ∀ a ∈ zids4, zkdN ((a + 3)) = 14 ∧ zlnN ((a + 3)) = 320 by decide +kernel) a ha
theorem yk4_4 {a : Nat} (ha : a ∈ zids4) : zkdN ((a + 4)) = 13 ∧ zlnN ((a + 4)) = 64 := (show ∀ a ∈ zids4, zkdN ((a + 4)) = 13 ∧ zlnN ((a + 4)) = 64 by decide +kernel) a ha
theorem yk4_5 {a : Nat} (ha : a ∈ zids4) : zkdN ((a + 5)) = 13 ∧ zlnN ((a + 5)) = 64 := (show ∀ a ∈ zids4, zkdN ((a + 5)) = 13 ∧ zlnN ((a + 5)) = 64 by decide +kernel) a ha
theorem yk4_6 {a : Nat} (ha : a ∈ zids4) : zkdN ((a + 6)) = 13 ∧ zlnN ((a + 6)) = 128 := (show ∀ a ∈ zids4, zkdN ((a + 6)) = 13 ∧ zlnN ((a + 6)) = 128 by decide +kernel) a ha
theorem yk4_7 {a : Nat} (ha : a ∈ zids4) : zkdN ((a + 7)) = 7 ∧ zlnN ((a + 7)) = 16 := (show ∀ a ∈ zids4, zkdN ((a + 7)) = 7 ∧ zlnN ((a + 7)) = 16 by decide +kernel) a ha
theorem yk4_8 {a : Nat} (ha : a ∈ zids4) : zkdN ((a + 8)) = 14 ∧ zlnN ((a + 8)) = 40 := (show ∀ a ∈ zids4, zkdN ((a + 8)) = 14 ∧ zlnN ((a + 8)) = 40 by decide +kernel) a ha
theorem yk4_9 {a : Nat} (ha : a ∈ zids4) : zkdN ((a + 9)) = 13 ∧ zlnN ((a + 9)) = 5120 := (show ∀ a ∈ zids4, zkdN ((a + 9)) = 13 ∧ zlnN ((a + 9)) = 5120 by decide +kernel) a ha
theorem yk4_10 {a : Nat} (ha : a ∈ zids4) : zkdN ((a + 10)) = 13 ∧ zlnN ((a + 10)) = 40 := (show ∀ a ∈ zids4, zkdN ((a + 10)) = 13 ∧ zlnN ((a + 10)) = 40 by decide +kernel) a ha
theorem yk4_11 {a : Nat} (ha : a ∈ zids4) : zkdN ((a + 11)) = 13 ∧ zlnN ((a + 11)) = 40 := (show ∀ a ∈ zids4, zkdN ((a + 11)) = 13 ∧ zlnN ((a + 11)) = 40 by decide +kernel) a ha
theorem yk4_12 {a : Nat} (ha : a ∈ zids4) : zkdN ((a + 12)) = 13 ∧ zlnN ((a + 12)) = 40 := (show ∀ a ∈ zids4, zkdN ((a + 12)) = 13 ∧ zlnN ((a + 12)) = 40 by decide +kernel) a ha
theorem yk4_13 {a : Nat} (ha : a ∈ zids4) : zkdN ((a + 13)) = 14 ∧ zlnN ((a + 13)) = 40 := (show ∀ a ∈ zids4, zkdN ((a + 13)) = 14 ∧ zlnN ((a + 13)) = 40 by decide +kernel) a ha
theorem yk4_14 {a : Nat} (ha : a ∈ zids4) : zkdN ((a + 14)) = 14 ∧ zlnN ((a + 14)) = 128 := (show ∀ a ∈ zids4, zkdN ((a + 14)) = 14 ∧ zlnN ((a + 14)) = 128 by decide +kernel) a ha
theorem yk4_15 {a : Nat} (ha : a ∈ zids4) : zkdN ((a + 15)) = 13 ∧ zlnN ((a + 15)) = 40 := (show ∀ a ∈ zids4, zkdN ((a + 15)) = 13 ∧ zlnN ((a + 15)) = 40 by decide +kernel) a ha
theorem yk4_16 {a : Nat} (ha : a ∈ zids4) : zkdN ((a + 16)) = 13 ∧ zlnN ((a + 16)) = 40 := (show ∀ a ∈ zids4, zkdN ((a + 16)) = 13 ∧ zlnN ((a + 16)) = 40 by decide +kernel) a ha
theorem yk4_17 {a : Nat} (ha : a ∈ zids4) : zkdN ((a + 17)) = 13 ∧ zlnN ((a + 17)) = 1600 := (show ∀ a ∈ zids4, zkdN ((a + 17)) = 13 ∧ zlnN ((a + 17)) = 1600 by decide +kernel) a ha
theorem yk4_18 {a : Nat} (ha : a ∈ zids4) : zkdN ((a + 18)) = 13 ∧ zlnN ((a + 18)) = 40 := (show ∀ a ∈ zids4, zkdN ((a + 18)) = 13 ∧ zlnN ((a + 18)) = 40 by decide +kernel) a ha
theorem yi4_0 {a : Nat} (ha : a ∈ zids4) : (((a + 1) : Nat) : Int) = zI a 0 := (show ∀ a ∈ zids4, (((a + 1) : Nat) : Int) = zI a 0 by decide +kernel) a ha
theorem yi4_1 {a : Nat} (ha : a ∈ zids4) : (((a + 2) : Nat) : Int) = zI a 1 := (show ∀ a ∈ zids4, (((a + 2) : Nat) : Int) = zI a 1 by decide +kernel) a ha
theorem yi4_2 {a : Nat} (ha : a ∈ zids4) : (((a + 3) : Nat) : Int) = zI a 2 := (show ∀ a ∈ zids4, (((a + 3) : Nat) : Int) = zI a 2 by decide +kernel) a ha
theorem yi4_3 {a : Nat} (ha : a ∈ zids4) : (((a + 4) : Nat) : Int) = zI a 3 := (show ∀ a ∈ zids4, (((a + 4) : Nat) : Int) = zI a 3 by decide +kernel) a ha
theorem yi4_4 {a : Nat} (ha : a ∈ zids4) : (((a + 5) : Nat) : Int) = zI a 4 := (show ∀ a ∈ zids4, (((a + 5) : Nat) : Int) = zI a 4 by decide +kernel) a ha
theorem yi4_5 {a : Nat} (ha : a ∈ zids4) : (((a + 6) : Nat) : Int) = zI a 5 := (show ∀ a ∈ zids4, (((a + 6) : Nat) : Int) = zI a 5 by decide +kernel) a ha
theorem yi4_6 {a : Nat} (ha : a ∈ zids4) : (((a + 7) : Nat) : Int) = zI a 6 := (show ∀ a ∈ zids4, (((a + 7) : Nat) : Int) = zI a 6 by decide +kernel) a ha
theorem yb4 {a : Nat} (ha : a ∈ zids4) : ∀ j ∈ [7, 8, 9, 10, 11], zI a (j : Nat) = ybl a (j : Nat) := (show ∀ a ∈ zids4, ∀ j ∈ [7, 8, 9, 10, 11], zI a (j : Nat) = ybl a (j : Nat) by decide +kernel) a ha
theorem yid7 {a : Nat} (ha : a ∈ zids7) : a + 12 ≤ 526 := (show ∀ a ∈ zids7, a + 12 ≤ 526 by decide +kernel) a ha
theorem yk7_0 {a : Nat} (ha : a ∈ zids7) : zkdN (a) = 7 ∧ zlnN (a) = 16 := (show ∀ a ∈ zids7, zkdN (a) = 7 ∧ zlnN (a) = 16 by decide +kernel) a ha
theorem yk7_1 {a : Nat} (ha : a ∈ zids7) : zkdN ((a + 1)) = 14 ∧ zlnN ((a + 1)) = 40 := (show ∀ a ∈ zids7, zkdN ((a + 1)) = 14 ∧ zlnN ((a + 1)) = 40 by decide +kernel) a ha
theorem yk7_2 {a : Nat} (ha : a ∈ zids7) : zkdN ((a + 2)) = 13 ∧ zlnN ((a + 2)) = 5120 := (show ∀ a ∈ zids7, zkdN ((a + 2)) = 13 ∧ zlnN ((a + 2)) = 5120 by decide +kernel) a ha
theorem yk7_3 {a : Nat} (ha : a ∈ zids7) : zkdN ((a + 3)) = 13 ∧ zlnN ((a + 3)) = 40 := (show ∀ a ∈ zids7, zkdN ((a + 3)) = 13 ∧ zlnN ((a + 3)) = 40 by decide +kernel) a ha
theorem yk7_4 {a : Nat} (ha : a ∈ zids7) : zkdN ((a + 4)) = 13 ∧ zlnN ((a + 4)) = 40 := (show ∀ a ∈ zids7, zkdN ((a + 4)) = 13 ∧ zlnN ((a + 4)) = 40 by decide +kernel) a ha
theorem yk7_5 {a : Nat} (ha : a ∈ zids7) : zkdN ((a + 5)) = 13 ∧ zlnN ((a + 5)) = 40 := (show ∀ a ∈ zids7, zkdN ((a + 5)) = 13 ∧ zlnN ((a + 5)) = 40 by decide +kernel) a ha
theorem yk7_6 {a : Nat} (ha : a ∈ zids7) : zkdN ((a + 6)) = 14 ∧ zlnN ((a + 6)) = 40 := (show ∀ a ∈ zids7, zkdN ((a + 6)) = 14 ∧ zlnN ((a + 6)) = 40 by decide +kernel) a ha
theorem yk7_7 {a : Nat} (ha : a ∈ zids7) : zkdN ((a + 7)) = 14 ∧ zlnN ((a + 7)) = 128 := (show ∀ a ∈ zids7, zkdN ((a + 7)) = 14 ∧ zlnN ((a + 7)) = 128 by decide +kernel) a ha
theorem yk7_8 {a : Nat} (ha : a ∈ zids7) : zkdN ((a + 8)) = 13 ∧ zlnN ((a + 8)) = 40 := (show ∀ a ∈ zids7, zkdN ((a + 8)) = 13 ∧ zlnN ((a + 8)) = 40 by decide +kernel) a ha
theorem yk7_9 {a : Nat} (ha : a ∈ zids7) : zkdN ((a + 9)) = 13 ∧ zlnN ((a + 9)) = 40 := (show ∀ a ∈ zids7, zkdN ((a + 9)) = 13 ∧ zlnN ((a + 9)) = 40 by decide +kernel) a ha
theorem yk7_10 {a : Nat} (ha : a ∈ zids7) : zkdN ((a + 10)) = 13 ∧ zlnN ((a + 10)) = 1600 := (show ∀ a ∈ zids7, zkdN ((a + 10)) = 13 ∧ zlnN ((a + 10)) = 1600 by decide +kernel) a ha
theorem yk7_11 {a : Nat} (ha : a ∈ zids7) : zkdN ((a + 11)) = 13 ∧ zlnN ((a + 11)) = 40 := (show ∀ a ∈ zids7, zkdN ((a + 11)) = 13 ∧ zlnN ((a + 11)) = 40 by decide +kernel) a ha
theorem yi7_1 {a : Nat} (ha : a ∈ zids7) : (((a + 1) : Nat) : Int) = zI a 1 := (show ∀ a ∈ zids7, (((a + 1) : Nat) : Int) = zI a 1 by decide +kernel) a ha
theorem yi7_2 {a : Nat} (ha : a ∈ zids7) : (((a + 2) : Nat) : Int) = zI a 2 := (show ∀ a ∈ zids7, (((a + 2) : Nat) : Int) = zI a 2 by decide +kernel) a ha
theorem yi7_3 {a : Nat} (ha : a ∈ zids7) : (((a + 3) : Nat) : Int) = zI a 3 := (show ∀ a ∈ zids7, (((a + 3) : Nat) : Int) = zI a 3 by decide +kernel) a ha
theorem yi7_4 {a : Nat} (ha : a ∈ zids7) : (((a + 4) : Nat) : Int) = zI a 4 := (show ∀ a ∈ zids7, (((a + 4) : Nat) : Int) = zI a 4 by decide +kernel) a ha
theorem yi7_5 {a : Nat} (ha : a ∈ zids7) : (((a + 5) : Nat) : Int) = zI a 5 := (show ∀ a ∈ zids7, (((a + 5) : Nat) : Int) = zI a 5 by decide +kernel) a ha
theorem yi7_8 {a : Nat} (ha : a ∈ zids7) : (((a + 6) : Nat) : Int) = zI a 8 := (show ∀ a ∈ zids7, (((a + 6) : Nat) : Int) = zI a 8 by decide +kernel) a ha
theorem yi7_9 {a : Nat} (ha : a ∈ zids7) : (((a + 7) : Nat) : Int) = zI a 9 := (show ∀ a ∈ zids7, (((a + 7) : Nat) : Int) = zI a 9 by decide +kernel) a ha
theorem yi7_11 {a : Nat} (ha : a ∈ zids7) : (((a + 8) : Nat) : Int) = zI a 11 := (show ∀ a ∈ zids7, (((a + 8) : Nat) : Int) = zI a 11 by decide +kernel) a ha
theorem yi7_12 {a : Nat} (ha : a ∈ zids7) : (((a + 9) : Nat) : Int) = zI a 12 := (show ∀ a ∈ zids7, (((a + 9) : Nat) : Int) = zI a 12 by decide +kernel) a ha
theorem yi7_13 {a : Nat} (ha : a ∈ zids7) : (((a + 10) : Nat) : Int) = zI a 13 := (show ∀ a ∈ zids7, (((a + 10) : Nat) : Int) = zI a 13 by decide +kernel) a ha
theorem yi7_14 {a : Nat} (ha : a ∈ zids7) : (((a + 11) : Nat) : Int) = zI a 14 := (show ∀ a ∈ zids7, (((a + 11) : Nat) : Int) = zI a 14 by decide +kernel) a ha
theorem yb7 {a : Nat} (ha : a ∈ zids7) : ∀ j ∈ [0, 6, 7, 10, 15], zI a (j : Nat) = ybl a (j : Nat) := (show ∀ a ∈ zids7, ∀ j ∈ [0, 6, 7, 10, 15], zI a (j : Nat) = ybl a (j : Nat) by decide +kernel) a ha
theorem yid9 {a : Nat} (ha : a ∈ zids9) : a + 27 ≤ 526 := (show ∀ a ∈ zids9, a + 27 ≤ 526 by decide +kernel) a ha
theorem yk9_0 {a : Nat} (ha : a ∈ zids9) : zkdN (a) = 9 ∧ zlnN (a) = 3 := (show ∀ a ∈ zids9, zkdN (a) = 9 ∧ zlnN (a) = 3 by decide +kernel) a ha
theorem yk9_1 {a : Nat} (ha : a ∈ zids9) : zkdN ((a + 1)) = 16 ∧ zlnN ((a + 1)) = 12 := (show ∀ a ∈ zids9, zkdN ((a + 1)) = 16 ∧ zlnN ((a + 1)) = 12 by decide +kernel) a ha
theorem yk9_2 {a : Nat} (ha : a ∈ zids9) : zkdN ((a + 2)) = 14 ∧ zlnN ((a + 2)) = 12 := (show ∀ a ∈ zids9, zkdN ((a + 2)) = 14 ∧ zlnN ((a + 2)) = 12 by decide +kernel) a ha
theorem yk9_3 {a : Nat} (ha : a ∈ zids9) : zkdN ((a + 3)) = 3 ∧ zlnN ((a + 3)) = 2 := (show ∀ a ∈ zids9, zkdN ((a + 3)) = 3 ∧ zlnN ((a + 3)) = 2 by decide +kernel) a ha
theorem yk9_4 {a : Nat} (ha : a ∈ zids9) : zkdN ((a + 4)) = 13 ∧ zlnN ((a + 4)) = 48 := (show ∀ a ∈ zids9, zkdN ((a + 4)) = 13 ∧ zlnN ((a + 4)) = 48 by decide +kernel) a ha
theorem yk9_5 {a : Nat} (ha : a ∈ zids9) : zkdN ((a + 5)) = 3 ∧ zlnN ((a + 5)) = 2 := (show ∀ a ∈ zids9, zkdN ((a + 5)) = 3 ∧ zlnN ((a + 5)) = 2 by decide +kernel) a ha
theorem yk9_6 {a : Nat} (ha : a ∈ zids9) : zkdN ((a + 6)) = 13 ∧ zlnN ((a + 6)) = 48 := (show ∀ a ∈ zids9, zkdN ((a + 6)) = 13 ∧ zlnN ((a + 6)) = 48 by decide +kernel) a ha
theorem yk9_7 {a : Nat} (ha : a ∈ zids9) : zkdN ((a + 7)) = 3 ∧ zlnN ((a + 7)) = 2 := (show ∀ a ∈ zids9, zkdN ((a + 7)) = 3 ∧ zlnN ((a + 7)) = 2 by decide +kernel) a ha
theorem yk9_8 {a : Nat} (ha : a ∈ zids9) : zkdN ((a + 8)) = 13 ∧ zlnN ((a + 8)) = 48 := (show ∀ a ∈ zids9, zkdN ((a + 8)) = 13 ∧ zlnN ((a + 8)) = 48 by decide +kernel) a ha
theorem yk9_9 {a : Nat} (ha : a ∈ zids9) : zkdN ((a + 9)) = 3 ∧ zlnN ((a + 9)) = 2 := (show ∀ a ∈ zids9, zkdN ((a + 9)) = 3 ∧ zlnN ((a + 9)) = 2 by decide +kernel) a ha
theorem yk9_10 {a : Nat} (ha : a ∈ zids9) : zkdN ((a + 10)) = 13 ∧ zlnN ((a + 10)) = 48 := (show ∀ a ∈ zids9, zkdN ((a + 10)) = 13 ∧ zlnN ((a + 10)) = 48 by decide +kernel) a ha
theorem yk9_11 {a : Nat} (ha : a ∈ zids9) : zkdN ((a + 11)) = 3 ∧ zlnN ((a + 11)) = 2 := (show ∀ a ∈ zids9, zkdN ((a + 11)) = 3 ∧ zlnN ((a + 11)) = 2 by decide +kernel) a ha
theorem yk9_12 {a : Nat} (ha : a ∈ zids9) : zkdN ((a + 12)) = 13 ∧ zlnN ((a + 12)) = 48 := (show ∀ a ∈ zids9, zkdN ((a + 12)) = 13 ∧ zlnN ((a + 12)) = 48 by decide +kernel) a ha
theorem yk9_13 {a : Nat} (ha : a ∈ zids9) : zkdN ((a + 13)) = 3 ∧ zlnN ((a + 13)) = 2 := (show ∀ a ∈ zids9, zkdN ((a + 13)) = 3 ∧ zlnN ((a + 13)) = 2 by decide +kernel) a ha
theorem yk9_14 {a : Nat} (ha : a ∈ zids9) : zkdN ((a + 14)) = 13 ∧ zlnN ((a + 14)) = 48 := (show ∀ a ∈ zids9, zkdN ((a + 14)) = 13 ∧ zlnN ((a + 14)) = 48 by decide +kernel) a ha
theorem yk9_15 {a : Nat} (ha : a ∈ zids9) : zkdN ((a + 15)) = 3 ∧ zlnN ((a + 15)) = 2 := (show ∀ a ∈ zids9, zkdN ((a + 15)) = 3 ∧ zlnN ((a + 15)) = 2 by decide +kernel) a ha
theorem yk9_16 {a : Nat} (ha : a ∈ zids9) : zkdN ((a + 16)) = 13 ∧ zlnN ((a + 16)) = 48 := (show ∀ a ∈ zids9, zkdN ((a + 16)) = 13 ∧ zlnN ((a + 16)) = 48 by decide +kernel) a ha
theorem yk9_17 {a : Nat} (ha : a ∈ zids9) : zkdN ((a + 17)) = 3 ∧ zlnN ((a + 17)) = 2 := (show ∀ a ∈ zids9, zkdN ((a + 17)) = 3 ∧ zlnN ((a + 17)) = 2 by decide +kernel) a ha
theorem yk9_18 {a : Nat} (ha : a ∈ zids9) : zkdN ((a + 18)) = 13 ∧ zlnN ((a + 18)) = 48 := (show ∀ a ∈ zids9, zkdN ((a + 18)) = 13 ∧ zlnN ((a + 18)) = 48 by decide +kernel) a ha
theorem yk9_19 {a : Nat} (ha : a ∈ zids9) : zkdN ((a + 19)) = 3 ∧ zlnN ((a + 19)) = 2 := (show ∀ a ∈ zids9, zkdN ((a + 19)) = 3 ∧ zlnN ((a + 19)) = 2 by decide +kernel) a ha
theorem yk9_20 {a : Nat} (ha : a ∈ zids9) : zkdN ((a + 20)) = 13 ∧ zlnN ((a + 20)) = 48 := (show ∀ a ∈ zids9, zkdN ((a + 20)) = 13 ∧ zlnN ((a + 20)) = 48 by decide +kernel) a ha
theorem yk9_21 {a : Nat} (ha : a ∈ zids9) : zkdN ((a + 21)) = 3 ∧ zlnN ((a + 21)) = 2 := (show ∀ a ∈ zids9, zkdN ((a + 21)) = 3 ∧ zlnN ((a + 21)) = 2 by decide +kernel) a ha
theorem yk9_22 {a : Nat} (ha : a ∈ zids9) : zkdN ((a + 22)) = 13 ∧ zlnN ((a + 22)) = 48 := (show ∀ a ∈ zids9, zkdN ((a + 22)) = 13 ∧ zlnN ((a + 22)) = 48 by decide +kernel) a ha
theorem yk9_23 {a : Nat} (ha : a ∈ zids9) : zkdN ((a + 23)) = 3 ∧ zlnN ((a + 23)) = 2 := (show ∀ a ∈ zids9, zkdN ((a + 23)) = 3 ∧ zlnN ((a + 23)) = 2 by decide +kernel) a ha
theorem yk9_24 {a : Nat} (ha : a ∈ zids9) : zkdN ((a + 24)) = 13 ∧ zlnN ((a + 24)) = 48 := (show ∀ a ∈ zids9, zkdN ((a + 24)) = 13 ∧ zlnN ((a + 24)) = 48 by decide +kernel) a ha
theorem yk9_25 {a : Nat} (ha : a ∈ zids9) : zkdN ((a + 25)) = 3 ∧ zlnN ((a + 25)) = 2 := (show ∀ a ∈ zids9, zkdN ((a + 25)) = 3 ∧ zlnN ((a + 25)) = 2 by decide +kernel) a ha
theorem yk9_26 {a : Nat} (ha : a ∈ zids9) : zkdN ((a + 26)) = 13 ∧ zlnN ((a + 26)) = 48 := (show ∀ a ∈ zids9, zkdN ((a + 26)) = 13 ∧ zlnN ((a + 26)) = 48 by decide +kernel) a ha
theorem yi9_0 {a : Nat} (ha : a ∈ zids9) : (((a + 1) : Nat) : Int) = zI a 0 := (show ∀ a ∈ zids9, (((a + 1) : Nat) : Int) = zI a 0 by decide +kernel) a ha
theorem yi9_1 {a : Nat} (ha : a ∈ zids9) : (((a + 2) : Nat) : Int) = zI a 1 := (show ∀ a ∈ zids9, (((a + 2) : Nat) : Int) = zI a 1 by decide +kernel) a ha
theorem yb9 {a : Nat} (ha : a ∈ zids9) : ∀ j ∈ [2], zI a (j : Nat) = ybl a (j : Nat) := (show ∀ a ∈ zids9, ∀ j ∈ [2], zI a (j : Nat) = ybl a (j : Nat) by decide +kernel) a ha
theorem yin4_7_7 {a : Nat} (ha : a ∈ zids4) : a + 7 ∈ zids7 := (show ∀ a ∈ zids4, a + 7 ∈ zids7 by decide +kernel) a ha
set_option maxHeartbeats 4000000 in
theorem y_X3 {G : zG} {d : Nat} {a room : Nat} (ha : a ∈ zids3) (hroom : zlnN (a + 1) = room) {h : zH} (hJ : yJ h) : yC G (d + 1) 1 room mX3_init [vr 3 a, vi (room : Int)] ((a + 1), h) (yQ h a (a + 2)) := by
  have hsm : room ≤ 30000 := by have := zln_small (a + 1) (by have := yid3 ha; omega); omega
  refine y_entry (L := [some (vr 3 (a : Int)), some (vi (room : Int))]) (by decide +kernel) (Nat.le_of_ble_eq_true rfl) rfl ?_
  refine y_aload_n 0 dX3_init_0 rfl rfl (Nat.le_of_ble_eq_true rfl) rfl ?_
  refine y_obj (ci := 3) ⟨koX3_3, kobj.1, kobj.2⟩ (by decide) dX3_init_1 ⟨by show 1 ≤ d + 1; omega, (by show _ ≤ 64 * (d + 1); rw [show zcat _ = 0 from rfl]; omega)⟩ rfl ?_
  refine y_aload_n 0 dX3_init_4 rfl rfl (Nat.le_of_ble_eq_true rfl) rfl ?_
  refine y_iload_n 1 dX3_init_5 rfl rfl rfl ?_
  refine y_iconst dX3_init_6 rfl ?_
  refine y_mmax (z := (room : Int)) kX3_9 kmax.1 kmax.2.1 kmax.2.2 dX3_init_7 ⟨by omega, by omega⟩ ⟨by decide, by decide⟩ ⟨by show 1 ≤ d + 1; omega, (by show _ ≤ 64 * (d + 1); rw [show zcat _ = 1 from rfl]; omega), Nat.zero_le _, Nat.zero_le _⟩ (by omega) rfl ?_
  refine y_newI karr_int dX3_init_10 (N := room) (r := (((a + 1) : Nat) : Int)) ⟨(by have := yid3 ha; omega), (yk3_1 ha), hroom, rfl⟩ ⟨by show _ ≤ 1; omega, by show _ ≤ room; omega⟩ rfl rfl ?_
  refine y_set 3 13 pX3_15 rfl rfl (by decide) dX3_init_12 (by omega) hJ (yi3_0 ha) rfl (fun h1 hJ1 hM1 s1 => ?_)
  refine y_kcs (kc' := 1) (ks' := room) (by omega) (by omega) ?_
  exact y_return rfl dX3_init_15 ⟨by omega, hJ1, hM1, yD_eq (yD_app (a := ((a : Nat) : Int)) (b := (((a + 1) : Nat) : Int)) (yD_obj' hJ1 (a := a) (fun j hj => have hl : j < 2 := (by have := (yk3_0 ha).2; omega); match j, hl with | 0, _ => Or.inl s1 | 1, _ => Or.inr (yb3 ha 1 (by decide)) | j + 2, hl => absurd hl (by omega)) (by omega) (by omega)) (show yD _ (((a + 1) : Nat) : Int) (((a + 2) : Nat) : Int) from yD_num' hJ1 (a := (a + 1)) (Or.inl (yk3_1 ha)) (by omega) (by omega))) (by omega) (by omega)⟩
set_option maxHeartbeats 4000000 in
theorem y_X7 {G : zG} {d : Nat} {a : Nat} (ha : a ∈ zids7) {h : zH} (hJ : yJ h) : yC G (d + 1) 11 7168 mX7_init [vr 7 a] ((a + 1), h) (yQ h a (a + 12)) := by
  refine y_entry (L := [some (vr 7 (a : Int))]) (by decide +kernel) (Nat.le_of_ble_eq_true rfl) rfl ?_
  refine y_aload_n 0 dX7_init_0 rfl rfl (Nat.le_of_ble_eq_true rfl) rfl ?_
  refine y_obj (ci := 7) ⟨koX7_3, kobj.1, kobj.2⟩ (by decide) dX7_init_1 ⟨by show 1 ≤ d + 1; omega, (by show _ ≤ 64 * (d + 1); rw [show zcat _ = 0 from rfl]; omega)⟩ rfl ?_
  refine y_aload_n 0 dX7_init_4 rfl rfl (Nat.le_of_ble_eq_true rfl) rfl ?_
  refine y_bipush dX7_init_5 rfl rfl ?_
  refine y_newJ karr_long dX7_init_7 (N := 40) (r := (((a + 1) : Nat) : Int)) ⟨(by have := yid7 ha; omega), (yk7_1 ha).1, (yk7_1 ha).2, rfl⟩ ⟨by show _ ≤ 11; omega, by show _ ≤ 7168; omega⟩ rfl rfl ?_
  refine y_set 7 14 pX7_9 rfl rfl (by decide) dX7_init_9 (by omega) hJ (yi7_1 ha) rfl (fun h1 hJ1 hM1 s1 => ?_)
  refine y_aload_n 0 dX7_init_12 rfl rfl (Nat.le_of_ble_eq_true rfl) rfl ?_
  refine y_sipush dX7_init_13 rfl rfl ?_
  refine y_newI karr_int dX7_init_16 (N := 5120) (r := (((a + 2) : Nat) : Int)) ⟨(by have := yid7 ha; omega), (yk7_2 ha).1, (yk7_2 ha).2, rfl⟩ ⟨by show _ ≤ 11; omega, by show _ ≤ 7168; omega⟩ rfl rfl ?_
  refine y_set 7 13 pX7_15 rfl rfl (by decide) dX7_init_18 (by omega) hJ1 (yi7_2 ha) rfl (fun h2 hJ2 hM2 s2 => ?_)
  refine y_aload_n 0 dX7_init_21 rfl rfl (Nat.le_of_ble_eq_true rfl) rfl ?_
  refine y_bipush dX7_init_22 rfl rfl ?_
  refine y_newI karr_int dX7_init_24 (N := 40) (r := (((a + 3) : Nat) : Int)) ⟨(by have := yid7 ha; omega), (yk7_3 ha).1, (yk7_3 ha).2, rfl⟩ ⟨by show _ ≤ 11; omega, by show _ ≤ 7168; omega⟩ rfl rfl ?_
  refine y_set 7 13 pX7_19 rfl rfl (by decide) dX7_init_26 (by omega) hJ2 (yi7_3 ha) rfl (fun h3 hJ3 hM3 s3 => ?_)
  refine y_aload_n 0 dX7_init_29 rfl rfl (Nat.le_of_ble_eq_true rfl) rfl ?_
  refine y_bipush dX7_init_30 rfl rfl ?_
  refine y_newI karr_int dX7_init_32 (N := 40) (r := (((a + 4) : Nat) : Int)) ⟨(by have := yid7 ha; omega), (yk7_4 ha).1, (yk7_4 ha).2, rfl⟩ ⟨by show _ ≤ 11; omega, by show _ ≤ 7168; omega⟩ rfl rfl ?_
  refine y_set 7 13 pX7_22 rfl rfl (by decide) dX7_init_34 (by omega) hJ3 (yi7_4 ha) rfl (fun h4 hJ4 hM4 s4 => ?_)
  refine y_aload_n 0 dX7_init_37 rfl rfl (Nat.le_of_ble_eq_true rfl) rfl ?_
  refine y_bipush dX7_init_38 rfl rfl ?_
  refine y_newI karr_int dX7_init_40 (N := 40) (r := (((a + 5) : Nat) : Int)) ⟨(by have := yid7 ha; omega), (yk7_5 ha).1, (yk7_5 ha).2, rfl⟩ ⟨by show _ ≤ 11; omega, by show _ ≤ 7168; omega⟩ rfl rfl ?_
  refine y_set 7 13 pX7_25 rfl rfl (by decide) dX7_init_42 (by omega) hJ4 (yi7_5 ha) rfl (fun h5 hJ5 hM5 s5 => ?_)
  refine y_aload_n 0 dX7_init_45 rfl rfl (Nat.le_of_ble_eq_true rfl) rfl ?_
  refine y_bipush dX7_init_46 rfl rfl ?_
  refine y_newJ karr_long dX7_init_48 (N := 40) (r := (((a + 6) : Nat) : Int)) ⟨(by have := yid7 ha; omega), (yk7_6 ha).1, (yk7_6 ha).2, rfl⟩ ⟨by show _ ≤ 11; omega, by show _ ≤ 7168; omega⟩ rfl rfl ?_
  refine y_set 7 14 pX7_28 rfl rfl (by decide) dX7_init_50 (by omega) hJ5 (yi7_8 ha) rfl (fun h6 hJ6 hM6 s6 => ?_)
  refine y_aload_n 0 dX7_init_53 rfl rfl (Nat.le_of_ble_eq_true rfl) rfl ?_
  refine y_sipush dX7_init_54 rfl rfl ?_
  refine y_newJ karr_long dX7_init_57 (N := 128) (r := (((a + 7) : Nat) : Int)) ⟨(by have := yid7 ha; omega), (yk7_7 ha).1, (yk7_7 ha).2, rfl⟩ ⟨by show _ ≤ 11; omega, by show _ ≤ 7168; omega⟩ rfl rfl ?_
  refine y_set 7 14 pX7_31 rfl rfl (by decide) dX7_init_59 (by omega) hJ6 (yi7_9 ha) rfl (fun h7 hJ7 hM7 s7 => ?_)
  refine y_aload_n 0 dX7_init_62 rfl rfl (Nat.le_of_ble_eq_true rfl) rfl ?_
  refine y_bipush dX7_init_63 rfl rfl ?_
  refine y_newI karr_int dX7_init_65 (N := 40) (r := (((a + 8) : Nat) : Int)) ⟨(by have := yid7 ha; omega), (yk7_8 ha).1, (yk7_8 ha).2, rfl⟩ ⟨by show _ ≤ 11; omega, by show _ ≤ 7168; omega⟩ rfl rfl ?_
  refine y_set 7 13 pX7_34 rfl rfl (by decide) dX7_init_67 (by omega) hJ7 (yi7_11 ha) rfl (fun h8 hJ8 hM8 s8 => ?_)
  refine y_aload_n 0 dX7_init_70 rfl rfl (Nat.le_of_ble_eq_true rfl) rfl ?_
  refine y_bipush dX7_init_71 rfl rfl ?_
  refine y_newI karr_int dX7_init_73 (N := 40) (r := (((a + 9) : Nat) : Int)) ⟨(by have := yid7 ha; omega), (yk7_9 ha).1, (yk7_9 ha).2, rfl⟩ ⟨by show _ ≤ 11; omega, by show _ ≤ 7168; omega⟩ rfl rfl ?_
  refine y_set 7 13 pX7_37 rfl rfl (by decide) dX7_init_75 (by omega) hJ8 (yi7_12 ha) rfl (fun h9 hJ9 hM9 s9 => ?_)
  refine y_aload_n 0 dX7_init_78 rfl rfl (Nat.le_of_ble_eq_true rfl) rfl ?_
  refine y_sipush dX7_init_79 rfl rfl ?_
  refine y_newI karr_int dX7_init_82 (N := 1600) (r := (((a + 10) : Nat) : Int)) ⟨(by have := yid7 ha; omega), (yk7_10 ha).1, (yk7_10 ha).2, rfl⟩ ⟨by show _ ≤ 11; omega, by show _ ≤ 7168; omega⟩ rfl rfl ?_
  refine y_set 7 13 pX7_40 rfl rfl (by decide) dX7_init_84 (by omega) hJ9 (yi7_13 ha) rfl (fun h10 hJ10 hM10 s10 => ?_)
  refine y_aload_n 0 dX7_init_87 rfl rfl (Nat.le_of_ble_eq_true rfl) rfl ?_
  refine y_bipush dX7_init_88 rfl rfl ?_
  refine y_newI karr_int dX7_init_90 (N := 40) (r := (((a + 11) : Nat) : Int)) ⟨(by have := yid7 ha; omega), (yk7_11 ha).1, (yk7_11 ha).2, rfl⟩ ⟨by show _ ≤ 11; omega, by show _ ≤ 7168; omega⟩ rfl rfl ?_
  refine y_set 7 13 pX7_43 rfl rfl (by decide) dX7_init_92 (by omega) hJ10 (yi7_14 ha) rfl (fun h11 hJ11 hM11 s11 => ?_)
  refine y_kcs (kc' := 11) (ks' := 7168) (by omega) (by omega) ?_
  exact y_return rfl dX7_init_95 ⟨by omega, hJ11, (yM_tr (yM_tr (yM_tr (yM_tr (yM_tr (yM_tr (yM_tr (yM_tr (yM_tr (yM_tr hM1 hM2) hM3) hM4) hM5) hM6) hM7) hM8) hM9) hM10) hM11), yD_eq (yD_app (a := ((a : Nat) : Int)) (b := (((a + 1) : Nat) : Int)) (yD_obj' hJ11 (a := a) (fun j hj => have hl : j < 16 := (by have := (yk7_0 ha).2; omega); match j, hl with | 0, _ => Or.inr (yb7 ha 0 (by decide)) | 1, _ => Or.inl (hM11 _ _ (hM10 _ _ (hM9 _ _ (hM8 _ _ (hM7 _ _ (hM6 _ _ (hM5 _ _ (hM4 _ _ (hM3 _ _ (hM2 _ _ s1)))))))))) | 2, _ => Or.inl (hM11 _ _ (hM10 _ _ (hM9 _ _ (hM8 _ _ (hM7 _ _ (hM6 _ _ (hM5 _ _ (hM4 _ _ (hM3 _ _ s2))))))))) | 3, _ => Or.inl (hM11 _ _ (hM10 _ _ (hM9 _ _ (hM8 _ _ (hM7 _ _ (hM6 _ _ (hM5 _ _ (hM4 _ _ s3)))))))) | 4, _ => Or.inl (hM11 _ _ (hM10 _ _ (hM9 _ _ (hM8 _ _ (hM7 _ _ (hM6 _ _ (hM5 _ _ s4))))))) | 5, _ => Or.inl (hM11 _ _ (hM10 _ _ (hM9 _ _ (hM8 _ _ (hM7 _ _ (hM6 _ _ s5)))))) | 6, _ => Or.inr (yb7 ha 6 (by decide)) | 7, _ => Or.inr (yb7 ha 7 (by decide)) | 8, _ => Or.inl (hM11 _ _ (hM10 _ _ (hM9 _ _ (hM8 _ _ (hM7 _ _ s6))))) | 9, _ => Or.inl (hM11 _ _ (hM10 _ _ (hM9 _ _ (hM8 _ _ s7)))) | 10, _ => Or.inr (yb7 ha 10 (by decide)) | 11, _ => Or.inl (hM11 _ _ (hM10 _ _ (hM9 _ _ s8))) | 12, _ => Or.inl (hM11 _ _ (hM10 _ _ s9)) | 13, _ => Or.inl (hM11 _ _ s10) | 14, _ => Or.inl s11 | 15, _ => Or.inr (yb7 ha 15 (by decide)) | j + 16, hl => absurd hl (by omega)) (by omega) (by omega)) (yD_app (a := (((a + 1) : Nat) : Int)) (b := (((a + 2) : Nat) : Int)) (yD_num' hJ11 (a := (a + 1)) (Or.inr (Or.inl (yk7_1 ha).1)) (by omega) (by omega)) (yD_app (a := (((a + 2) : Nat) : Int)) (b := (((a + 3) : Nat) : Int)) (yD_num' hJ11 (a := (a + 2)) (Or.inl (yk7_2 ha).1) (by omega) (by omega)) (yD_app (a := (((a + 3) : Nat) : Int)) (b := (((a + 4) : Nat) : Int)) (yD_num' hJ11 (a := (a + 3)) (Or.inl (yk7_3 ha).1) (by omega) (by omega)) (yD_app (a := (((a + 4) : Nat) : Int)) (b := (((a + 5) : Nat) : Int)) (yD_num' hJ11 (a := (a + 4)) (Or.inl (yk7_4 ha).1) (by omega) (by omega)) (yD_app (a := (((a + 5) : Nat) : Int)) (b := (((a + 6) : Nat) : Int)) (yD_num' hJ11 (a := (a + 5)) (Or.inl (yk7_5 ha).1) (by omega) (by omega)) (yD_app (a := (((a + 6) : Nat) : Int)) (b := (((a + 7) : Nat) : Int)) (yD_num' hJ11 (a := (a + 6)) (Or.inr (Or.inl (yk7_6 ha).1)) (by omega) (by omega)) (yD_app (a := (((a + 7) : Nat) : Int)) (b := (((a + 8) : Nat) : Int)) (yD_num' hJ11 (a := (a + 7)) (Or.inr (Or.inl (yk7_7 ha).1)) (by omega) (by omega)) (yD_app (a := (((a + 8) : Nat) : Int)) (b := (((a + 9) : Nat) : Int)) (yD_num' hJ11 (a := (a + 8)) (Or.inl (yk7_8 ha).1) (by omega) (by omega)) (yD_app (a := (((a + 9) : Nat) : Int)) (b := (((a + 10) : Nat) : Int)) (yD_num' hJ11 (a := (a + 9)) (Or.inl (yk7_9 ha).1) (by omega) (by omega)) (yD_app (a := (((a + 10) : Nat) : Int)) (b := (((a + 11) : Nat) : Int)) (yD_num' hJ11 (a := (a + 10)) (Or.inl (yk7_10 ha).1) (by omega) (by omega)) (show yD _ (((a + 11) : Nat) : Int) (((a + 12) : Nat) : Int) from yD_num' hJ11 (a := (a + 11)) (Or.inl (yk7_11 ha).1) (by omega) (by omega))))))))))))) (by omega) (by omega)⟩
set_option maxHeartbeats 4000000 in
theorem y_X1 {G : zG} {d : Nat} {h : zH} (hJ : yJ h) : yC G (d + 1) 1 160 mX1_init [vr 1 242] (243, h) (yQ h 242 244) := by
  refine y_entry (L := [some (vr 1 242)]) (by decide +kernel) (Nat.le_of_ble_eq_true rfl) rfl ?_
  refine y_aload_n 0 dX1_init_0 rfl rfl (Nat.le_of_ble_eq_true rfl) rfl ?_
  refine y_obj (ci := 1) ⟨koX1_3, kobj.1, kobj.2⟩ (by decide) dX1_init_1 ⟨by show 1 ≤ d + 1; omega, (by show _ ≤ 64 * (d + 1); rw [show zcat _ = 0 from rfl]; omega)⟩ rfl ?_
  refine y_aload_n 0 dX1_init_4 rfl rfl (Nat.le_of_ble_eq_true rfl) rfl ?_
  refine y_sipush dX1_init_5 rfl rfl ?_
  refine y_newJ karr_long dX1_init_8 (N := 160) (r := 243) ⟨(by decide), (by decide +kernel), (by decide +kernel), rfl⟩ ⟨by show _ ≤ 1; omega, by show _ ≤ 160; omega⟩ rfl rfl ?_
  refine y_set 1 14 pX1_9 rfl rfl (by decide) dX1_init_10 (by omega) hJ (by decide +kernel) rfl (fun h1 hJ1 hM1 s1 => ?_)
  refine y_kcs (kc' := 1) (ks' := 160) (by omega) (by omega) ?_
  exact y_return rfl dX1_init_13 ⟨by omega, hJ1, hM1, yD_eq (yD_app (a := (242 : Int)) (b := (243 : Int)) (yD_obj' hJ1 (a := 242) (fun j hj => have hl : j < 1 := (by have := (show zlnN 242 = 1 by decide +kernel); omega); match j, hl with | 0, _ => Or.inl s1 | j + 1, hl => absurd hl (by omega)) (by omega) (by omega)) (show yD _ (243 : Int) (244 : Int) from yD_num' hJ1 (a := 243) (Or.inr (Or.inl (by decide +kernel))) (by omega) (by omega))) (by omega) (by omega)⟩
set_option maxHeartbeats 4000000 in
theorem y_X2 {G : zG} {d : Nat} {h : zH} (hJ : yJ h) : yC G (d + 1) 7 1600 mX2_init [vr 2 4] (5, h) (yQ h 4 12) := by
  refine y_entry (L := [some (vr 2 4)]) (by decide +kernel) (Nat.le_of_ble_eq_true rfl) rfl ?_
  refine y_aload_n 0 dX2_init_0 rfl rfl (Nat.le_of_ble_eq_true rfl) rfl ?_
  refine y_obj (ci := 2) ⟨koX2_3, kobj.1, kobj.2⟩ (by decide) dX2_init_1 ⟨by show 1 ≤ d + 1; omega, (by show _ ≤ 64 * (d + 1); rw [show zcat _ = 0 from rfl]; omega)⟩ rfl ?_
  refine y_aload_n 0 dX2_init_4 rfl rfl (Nat.le_of_ble_eq_true rfl) rfl ?_
  refine y_sipush dX2_init_5 rfl rfl ?_
  refine y_newI karr_int dX2_init_8 (N := 160) (r := 5) ⟨(by decide), (by decide +kernel), (by decide +kernel), rfl⟩ ⟨by show _ ≤ 7; omega, by show _ ≤ 1600; omega⟩ rfl rfl ?_
  refine y_set 2 13 pX2_9 rfl rfl (by decide) dX2_init_10 (by omega) hJ (by decide +kernel) rfl (fun h1 hJ1 hM1 s1 => ?_)
  refine y_aload_n 0 dX2_init_13 rfl rfl (Nat.le_of_ble_eq_true rfl) rfl ?_
  refine y_sipush dX2_init_14 rfl rfl ?_
  refine y_newI karr_int dX2_init_17 (N := 160) (r := 6) ⟨(by decide), (by decide +kernel), (by decide +kernel), rfl⟩ ⟨by show _ ≤ 7; omega, by show _ ≤ 1600; omega⟩ rfl rfl ?_
  refine y_set 2 13 pX2_15 rfl rfl (by decide) dX2_init_19 (by omega) hJ1 (by decide +kernel) rfl (fun h2 hJ2 hM2 s2 => ?_)
  refine y_aload_n 0 dX2_init_22 rfl rfl (Nat.le_of_ble_eq_true rfl) rfl ?_
  refine y_sipush dX2_init_23 rfl rfl ?_
  refine y_newJ karr_long dX2_init_26 (N := 640) (r := 7) ⟨(by decide), (by decide +kernel), (by decide +kernel), rfl⟩ ⟨by show _ ≤ 7; omega, by show _ ≤ 1600; omega⟩ rfl rfl ?_
  refine y_set 2 14 pX2_18 rfl rfl (by decide) dX2_init_28 (by omega) hJ2 (by decide +kernel) rfl (fun h3 hJ3 hM3 s3 => ?_)
  refine y_aload_n 0 dX2_init_31 rfl rfl (Nat.le_of_ble_eq_true rfl) rfl ?_
  refine y_bipush dX2_init_32 rfl rfl ?_
  refine y_newI karr_int dX2_init_34 (N := 64) (r := 8) ⟨(by decide), (by decide +kernel), (by decide +kernel), rfl⟩ ⟨by show _ ≤ 7; omega, by show _ ≤ 1600; omega⟩ rfl rfl ?_
  refine y_set 2 13 pX2_22 rfl rfl (by decide) dX2_init_36 (by omega) hJ3 (by decide +kernel) rfl (fun h4 hJ4 hM4 s4 => ?_)
  refine y_aload_n 0 dX2_init_39 rfl rfl (Nat.le_of_ble_eq_true rfl) rfl ?_
  refine y_bipush dX2_init_40 rfl rfl ?_
  refine y_newI karr_int dX2_init_42 (N := 64) (r := 9) ⟨(by decide), (by decide +kernel), (by decide +kernel), rfl⟩ ⟨by show _ ≤ 7; omega, by show _ ≤ 1600; omega⟩ rfl rfl ?_
  refine y_set 2 13 pX2_25 rfl rfl (by decide) dX2_init_44 (by omega) hJ4 (by decide +kernel) rfl (fun h5 hJ5 hM5 s5 => ?_)
  refine y_aload_n 0 dX2_init_47 rfl rfl (Nat.le_of_ble_eq_true rfl) rfl ?_
  refine y_sipush dX2_init_48 rfl rfl ?_
  refine y_newI karr_int dX2_init_51 (N := 256) (r := 10) ⟨(by decide), (by decide +kernel), (by decide +kernel), rfl⟩ ⟨by show _ ≤ 7; omega, by show _ ≤ 1600; omega⟩ rfl rfl ?_
  refine y_set 2 13 pX2_28 rfl rfl (by decide) dX2_init_53 (by omega) hJ5 (by decide +kernel) rfl (fun h6 hJ6 hM6 s6 => ?_)
  refine y_aload_n 0 dX2_init_56 rfl rfl (Nat.le_of_ble_eq_true rfl) rfl ?_
  refine y_sipush dX2_init_57 rfl rfl ?_
  refine y_newI karr_int dX2_init_60 (N := 256) (r := 11) ⟨(by decide), (by decide +kernel), (by decide +kernel), rfl⟩ ⟨by show _ ≤ 7; omega, by show _ ≤ 1600; omega⟩ rfl rfl ?_
  refine y_set 2 13 pX2_31 rfl rfl (by decide) dX2_init_62 (by omega) hJ6 (by decide +kernel) rfl (fun h7 hJ7 hM7 s7 => ?_)
  refine y_kcs (kc' := 7) (ks' := 1600) (by omega) (by omega) ?_
  exact y_return rfl dX2_init_65 ⟨by omega, hJ7, (yM_tr (yM_tr (yM_tr (yM_tr (yM_tr (yM_tr hM1 hM2) hM3) hM4) hM5) hM6) hM7), yD_eq (yD_app (a := (4 : Int)) (b := (5 : Int)) (yD_obj' hJ7 (a := 4) (fun j hj => have hl : j < 13 := (by have := (show zlnN 4 = 13 by decide +kernel); omega); match j, hl with | 0, _ => Or.inl (hM7 _ _ (hM6 _ _ (hM5 _ _ (hM4 _ _ (hM3 _ _ (hM2 _ _ s1)))))) | 1, _ => Or.inl (hM7 _ _ (hM6 _ _ (hM5 _ _ (hM4 _ _ (hM3 _ _ s2))))) | 2, _ => Or.inl (hM7 _ _ (hM6 _ _ (hM5 _ _ (hM4 _ _ s3)))) | 3, _ => Or.inl (hM7 _ _ (hM6 _ _ (hM5 _ _ s4))) | 4, _ => Or.inl (hM7 _ _ (hM6 _ _ s5)) | 5, _ => Or.inl (hM7 _ _ s6) | 6, _ => Or.inl s7 | 7, _ => Or.inr (by decide +kernel) | 8, _ => Or.inr (by decide +kernel) | 9, _ => Or.inr (by decide +kernel) | 10, _ => Or.inr (by decide +kernel) | 11, _ => Or.inr (by decide +kernel) | 12, _ => Or.inr (by decide +kernel) | j + 13, hl => absurd hl (by omega)) (by omega) (by omega)) (yD_app (a := (5 : Int)) (b := (6 : Int)) (yD_num' hJ7 (a := 5) (Or.inl (by decide +kernel)) (by omega) (by omega)) (yD_app (a := (6 : Int)) (b := (7 : Int)) (yD_num' hJ7 (a := 6) (Or.inl (by decide +kernel)) (by omega) (by omega)) (yD_app (a := (7 : Int)) (b := (8 : Int)) (yD_num' hJ7 (a := 7) (Or.inr (Or.inl (by decide +kernel))) (by omega) (by omega)) (yD_app (a := (8 : Int)) (b := (9 : Int)) (yD_num' hJ7 (a := 8) (Or.inl (by decide +kernel)) (by omega) (by omega)) (yD_app (a := (9 : Int)) (b := (10 : Int)) (yD_num' hJ7 (a := 9) (Or.inl (by decide +kernel)) (by omega) (by omega)) (yD_app (a := (10 : Int)) (b := (11 : Int)) (yD_num' hJ7 (a := 10) (Or.inl (by decide +kernel)) (by omega) (by omega)) (show yD _ (11 : Int) (12 : Int) from yD_num' hJ7 (a := 11) (Or.inl (by decide +kernel)) (by omega) (by omega))))))))) (by omega) (by omega)⟩
set_option maxHeartbeats 4000000 in
theorem y_X5 {G : zG} {d : Nat} {h : zH} (hJ : yJ h) : yC G (d + 1) 2 384 mX5_init [vr 5 244] (245, h) (yQ h 244 247) := by
  refine y_entry (L := [some (vr 5 244)]) (by decide +kernel) (Nat.le_of_ble_eq_true rfl) rfl ?_
  refine y_aload_n 0 dX5_init_0 rfl rfl (Nat.le_of_ble_eq_true rfl) rfl ?_
  refine y_obj (ci := 5) ⟨koX5_3, kobj.1, kobj.2⟩ (by decide) dX5_init_1 ⟨by show 1 ≤ d + 1; omega, (by show _ ≤ 64 * (d + 1); rw [show zcat _ = 0 from rfl]; omega)⟩ rfl ?_
  refine y_aload_n 0 dX5_init_4 rfl rfl (Nat.le_of_ble_eq_true rfl) rfl ?_
  refine y_sipush dX5_init_5 rfl rfl ?_
  refine y_newI karr_int dX5_init_8 (N := 128) (r := 245) ⟨(by decide), (by decide +kernel), (by decide +kernel), rfl⟩ ⟨by show _ ≤ 2; omega, by show _ ≤ 384; omega⟩ rfl rfl ?_
  refine y_set 5 13 pX5_9 rfl rfl (by decide) dX5_init_10 (by omega) hJ (by decide +kernel) rfl (fun h1 hJ1 hM1 s1 => ?_)
  refine y_aload_n 0 dX5_init_13 rfl rfl (Nat.le_of_ble_eq_true rfl) rfl ?_
  refine y_sipush dX5_init_14 rfl rfl ?_
  refine y_newI karr_int dX5_init_17 (N := 256) (r := 246) ⟨(by decide), (by decide +kernel), (by decide +kernel), rfl⟩ ⟨by show _ ≤ 2; omega, by show _ ≤ 384; omega⟩ rfl rfl ?_
  refine y_set 5 13 pX5_15 rfl rfl (by decide) dX5_init_19 (by omega) hJ1 (by decide +kernel) rfl (fun h2 hJ2 hM2 s2 => ?_)
  refine y_kcs (kc' := 2) (ks' := 384) (by omega) (by omega) ?_
  exact y_return rfl dX5_init_22 ⟨by omega, hJ2, (yM_tr hM1 hM2), yD_eq (yD_app (a := (244 : Int)) (b := (245 : Int)) (yD_obj' hJ2 (a := 244) (fun j hj => have hl : j < 3 := (by have := (show zlnN 244 = 3 by decide +kernel); omega); match j, hl with | 0, _ => Or.inl (hM2 _ _ s1) | 1, _ => Or.inl s2 | 2, _ => Or.inr (by decide +kernel) | j + 3, hl => absurd hl (by omega)) (by omega) (by omega)) (yD_app (a := (245 : Int)) (b := (246 : Int)) (yD_num' hJ2 (a := 245) (Or.inl (by decide +kernel)) (by omega) (by omega)) (show yD _ (246 : Int) (247 : Int) from yD_num' hJ2 (a := 246) (Or.inl (by decide +kernel)) (by omega) (by omega)))) (by omega) (by omega)⟩
set_option maxHeartbeats 4000000 in
theorem y_X6 {G : zG} {d : Nat} {h : zH} (hJ : yJ h) : yC G (d + 1) 8 10112 mX6_init [vr 6 233, vr 2 4] (234, h) (yQ h 233 242) := by
  refine y_entry (L := [some (vr 6 233), some (vr 2 4)]) (by decide +kernel) (Nat.le_of_ble_eq_true rfl) rfl ?_
  refine y_aload_n 0 dX6_init_0 rfl rfl (Nat.le_of_ble_eq_true rfl) rfl ?_
  refine y_obj (ci := 6) ⟨koX6_3, kobj.1, kobj.2⟩ (by decide) dX6_init_1 ⟨by show 1 ≤ d + 1; omega, (by show _ ≤ 64 * (d + 1); rw [show zcat _ = 0 from rfl]; omega)⟩ rfl ?_
  refine y_aload_n 0 dX6_init_4 rfl rfl (Nat.le_of_ble_eq_true rfl) rfl ?_
  refine y_sipush dX6_init_5 rfl rfl ?_
  refine y_newI karr_int dX6_init_8 (N := 1600) (r := 234) ⟨(by decide), (by decide +kernel), (by decide +kernel), rfl⟩ ⟨by show _ ≤ 8; omega, by show _ ≤ 10112; omega⟩ rfl rfl ?_
  refine y_set 6 13 pX6_9 rfl rfl (by decide) dX6_init_10 (by omega) hJ (by decide +kernel) rfl (fun h1 hJ1 hM1 s1 => ?_)
  refine y_aload_n 0 dX6_init_13 rfl rfl (Nat.le_of_ble_eq_true rfl) rfl ?_
  refine y_sipush dX6_init_14 rfl rfl ?_
  refine y_newI karr_int dX6_init_17 (N := 1600) (r := 235) ⟨(by decide), (by decide +kernel), (by decide +kernel), rfl⟩ ⟨by show _ ≤ 8; omega, by show _ ≤ 10112; omega⟩ rfl rfl ?_
  refine y_set 6 13 pX6_15 rfl rfl (by decide) dX6_init_19 (by omega) hJ1 (by decide +kernel) rfl (fun h2 hJ2 hM2 s2 => ?_)
  refine y_aload_n 0 dX6_init_22 rfl rfl (Nat.le_of_ble_eq_true rfl) rfl ?_
  refine y_sipush dX6_init_23 rfl rfl ?_
  refine y_newI karr_int dX6_init_26 (N := 1600) (r := 236) ⟨(by decide), (by decide +kernel), (by decide +kernel), rfl⟩ ⟨by show _ ≤ 8; omega, by show _ ≤ 10112; omega⟩ rfl rfl ?_
  refine y_set 6 13 pX6_18 rfl rfl (by decide) dX6_init_28 (by omega) hJ2 (by decide +kernel) rfl (fun h3 hJ3 hM3 s3 => ?_)
  refine y_aload_n 0 dX6_init_31 rfl rfl (Nat.le_of_ble_eq_true rfl) rfl ?_
  refine y_sipush dX6_init_32 rfl rfl ?_
  refine y_newI karr_int dX6_init_35 (N := 1600) (r := 237) ⟨(by decide), (by decide +kernel), (by decide +kernel), rfl⟩ ⟨by show _ ≤ 8; omega, by show _ ≤ 10112; omega⟩ rfl rfl ?_
  refine y_set 6 13 pX6_21 rfl rfl (by decide) dX6_init_37 (by omega) hJ3 (by decide +kernel) rfl (fun h4 hJ4 hM4 s4 => ?_)
  refine y_aload_n 0 dX6_init_40 rfl rfl (Nat.le_of_ble_eq_true rfl) rfl ?_
  refine y_sipush dX6_init_41 rfl rfl ?_
  refine y_newI karr_int dX6_init_44 (N := 1600) (r := 238) ⟨(by decide), (by decide +kernel), (by decide +kernel), rfl⟩ ⟨by show _ ≤ 8; omega, by show _ ≤ 10112; omega⟩ rfl rfl ?_
  refine y_set 6 13 pX6_24 rfl rfl (by decide) dX6_init_46 (by omega) hJ4 (by decide +kernel) rfl (fun h5 hJ5 hM5 s5 => ?_)
  refine y_aload_n 0 dX6_init_49 rfl rfl (Nat.le_of_ble_eq_true rfl) rfl ?_
  refine y_sipush dX6_init_50 rfl rfl ?_
  refine y_newI karr_int dX6_init_53 (N := 1600) (r := 239) ⟨(by decide), (by decide +kernel), (by decide +kernel), rfl⟩ ⟨by show _ ≤ 8; omega, by show _ ≤ 10112; omega⟩ rfl rfl ?_
  refine y_set 6 13 pX6_27 rfl rfl (by decide) dX6_init_55 (by omega) hJ5 (by decide +kernel) rfl (fun h6 hJ6 hM6 s6 => ?_)
  refine y_aload_n 0 dX6_init_58 rfl rfl (Nat.le_of_ble_eq_true rfl) rfl ?_
  refine y_sipush dX6_init_59 rfl rfl ?_
  refine y_newI karr_int dX6_init_62 (N := 256) (r := 240) ⟨(by decide), (by decide +kernel), (by decide +kernel), rfl⟩ ⟨by show _ ≤ 8; omega, by show _ ≤ 10112; omega⟩ rfl rfl ?_
  refine y_set 6 13 pX6_30 rfl rfl (by decide) dX6_init_64 (by omega) hJ6 (by decide +kernel) rfl (fun h7 hJ7 hM7 s7 => ?_)
  refine y_aload_n 0 dX6_init_67 rfl rfl (Nat.le_of_ble_eq_true rfl) rfl ?_
  refine y_sipush dX6_init_68 rfl rfl ?_
  refine y_newI karr_int dX6_init_71 (N := 256) (r := 241) ⟨(by decide), (by decide +kernel), (by decide +kernel), rfl⟩ ⟨by show _ ≤ 8; omega, by show _ ≤ 10112; omega⟩ rfl rfl ?_
  refine y_set 6 13 pX6_33 rfl rfl (by decide) dX6_init_73 (by omega) hJ7 (by decide +kernel) rfl (fun h8 hJ8 hM8 s8 => ?_)
  refine y_aload_n 0 dX6_init_76 rfl rfl (Nat.le_of_ble_eq_true rfl) rfl ?_
  refine y_aload_n 1 dX6_init_77 rfl rfl (Nat.le_of_ble_eq_true rfl) rfl ?_
  refine y_set 6 2 pX6_36 rfl rfl (by decide) dX6_init_78 (by omega) hJ8 (by decide +kernel) rfl (fun h9 hJ9 hM9 s9 => ?_)
  refine y_kcs (kc' := 8) (ks' := 10112) (by omega) (by omega) ?_
  exact y_return rfl dX6_init_81 ⟨by omega, hJ9, (yM_tr (yM_tr (yM_tr (yM_tr (yM_tr (yM_tr (yM_tr (yM_tr hM1 hM2) hM3) hM4) hM5) hM6) hM7) hM8) hM9), yD_eq (yD_app (a := (233 : Int)) (b := (234 : Int)) (yD_obj' hJ9 (a := 233) (fun j hj => have hl : j < 10 := (by have := (show zlnN 233 = 10 by decide +kernel); omega); match j, hl with | 0, _ => Or.inl s9 | 1, _ => Or.inl (hM9 _ _ (hM8 _ _ (hM7 _ _ (hM6 _ _ (hM5 _ _ (hM4 _ _ (hM3 _ _ (hM2 _ _ s1)))))))) | 2, _ => Or.inl (hM9 _ _ (hM8 _ _ (hM7 _ _ (hM6 _ _ (hM5 _ _ (hM4 _ _ (hM3 _ _ s2))))))) | 3, _ => Or.inl (hM9 _ _ (hM8 _ _ (hM7 _ _ (hM6 _ _ (hM5 _ _ (hM4 _ _ s3)))))) | 4, _ => Or.inl (hM9 _ _ (hM8 _ _ (hM7 _ _ (hM6 _ _ (hM5 _ _ s4))))) | 5, _ => Or.inl (hM9 _ _ (hM8 _ _ (hM7 _ _ (hM6 _ _ s5)))) | 6, _ => Or.inl (hM9 _ _ (hM8 _ _ (hM7 _ _ s6))) | 7, _ => Or.inl (hM9 _ _ (hM8 _ _ s7)) | 8, _ => Or.inl (hM9 _ _ s8) | 9, _ => Or.inr (by decide +kernel) | j + 10, hl => absurd hl (by omega)) (by omega) (by omega)) (yD_app (a := (234 : Int)) (b := (235 : Int)) (yD_num' hJ9 (a := 234) (Or.inl (by decide +kernel)) (by omega) (by omega)) (yD_app (a := (235 : Int)) (b := (236 : Int)) (yD_num' hJ9 (a := 235) (Or.inl (by decide +kernel)) (by omega) (by omega)) (yD_app (a := (236 : Int)) (b := (237 : Int)) (yD_num' hJ9 (a := 236) (Or.inl (by decide +kernel)) (by omega) (by omega)) (yD_app (a := (237 : Int)) (b := (238 : Int)) (yD_num' hJ9 (a := 237) (Or.inl (by decide +kernel)) (by omega) (by omega)) (yD_app (a := (238 : Int)) (b := (239 : Int)) (yD_num' hJ9 (a := 238) (Or.inl (by decide +kernel)) (by omega) (by omega)) (yD_app (a := (239 : Int)) (b := (240 : Int)) (yD_num' hJ9 (a := 239) (Or.inl (by decide +kernel)) (by omega) (by omega)) (yD_app (a := (240 : Int)) (b := (241 : Int)) (yD_num' hJ9 (a := 240) (Or.inl (by decide +kernel)) (by omega) (by omega)) (show yD _ (241 : Int) (242 : Int) from yD_num' hJ9 (a := 241) (Or.inl (by decide +kernel)) (by omega) (by omega)))))))))) (by omega) (by omega)⟩
set_option maxHeartbeats 4000000 in
theorem y_X10 {G : zG} {d : Nat} {h : zH} (hJ : yJ h) : yC G (d + 1) 3 2703 mX10_init [vr 10 13] (14, h) (yQ h 13 17) := by
  refine y_entry (L := [some (vr 10 13)]) (by decide +kernel) (Nat.le_of_ble_eq_true rfl) rfl ?_
  refine y_aload_n 0 dX10_init_0 rfl rfl (Nat.le_of_ble_eq_true rfl) rfl ?_
  refine y_obj (ci := 10) ⟨koX10_3, kobj.1, kobj.2⟩ (by decide) dX10_init_1 ⟨by show 1 ≤ d + 1; omega, (by show _ ≤ 64 * (d + 1); rw [show zcat _ = 0 from rfl]; omega)⟩ rfl ?_
  refine y_aload_n 0 dX10_init_4 rfl rfl (Nat.le_of_ble_eq_true rfl) rfl ?_
  refine y_sipush dX10_init_5 rfl rfl ?_
  refine y_newI karr_int dX10_init_8 (N := 901) (r := 14) ⟨(by decide), (by decide +kernel), (by decide +kernel), rfl⟩ ⟨by show _ ≤ 3; omega, by show _ ≤ 2703; omega⟩ rfl rfl ?_
  refine y_set 10 13 pX10_9 rfl rfl (by decide) dX10_init_10 (by omega) hJ (by decide +kernel) rfl (fun h1 hJ1 hM1 s1 => ?_)
  refine y_aload_n 0 dX10_init_13 rfl rfl (Nat.le_of_ble_eq_true rfl) rfl ?_
  refine y_sipush dX10_init_14 rfl rfl ?_
  refine y_newI karr_int dX10_init_17 (N := 901) (r := 15) ⟨(by decide), (by decide +kernel), (by decide +kernel), rfl⟩ ⟨by show _ ≤ 3; omega, by show _ ≤ 2703; omega⟩ rfl rfl ?_
  refine y_set 10 13 pX10_15 rfl rfl (by decide) dX10_init_19 (by omega) hJ1 (by decide +kernel) rfl (fun h2 hJ2 hM2 s2 => ?_)
  refine y_aload_n 0 dX10_init_22 rfl rfl (Nat.le_of_ble_eq_true rfl) rfl ?_
  refine y_sipush dX10_init_23 rfl rfl ?_
  refine y_newJ karr_long dX10_init_26 (N := 901) (r := 16) ⟨(by decide), (by decide +kernel), (by decide +kernel), rfl⟩ ⟨by show _ ≤ 3; omega, by show _ ≤ 2703; omega⟩ rfl rfl ?_
  refine y_set 10 14 pX10_18 rfl rfl (by decide) dX10_init_28 (by omega) hJ2 (by decide +kernel) rfl (fun h3 hJ3 hM3 s3 => ?_)
  refine y_kcs (kc' := 3) (ks' := 2703) (by omega) (by omega) ?_
  exact y_return rfl dX10_init_31 ⟨by omega, hJ3, (yM_tr (yM_tr hM1 hM2) hM3), yD_eq (yD_app (a := (13 : Int)) (b := (14 : Int)) (yD_obj' hJ3 (a := 13) (fun j hj => have hl : j < 10 := (by have := (show zlnN 13 = 10 by decide +kernel); omega); match j, hl with | 0, _ => Or.inl (hM3 _ _ (hM2 _ _ s1)) | 1, _ => Or.inl (hM3 _ _ s2) | 2, _ => Or.inl s3 | 3, _ => Or.inr (by decide +kernel) | 4, _ => Or.inr (by decide +kernel) | 5, _ => Or.inr (by decide +kernel) | 6, _ => Or.inr (by decide +kernel) | 7, _ => Or.inr (by decide +kernel) | 8, _ => Or.inr (by decide +kernel) | 9, _ => Or.inr (by decide +kernel) | j + 10, hl => absurd hl (by omega)) (by omega) (by omega)) (yD_app (a := (14 : Int)) (b := (15 : Int)) (yD_num' hJ3 (a := 14) (Or.inl (by decide +kernel)) (by omega) (by omega)) (yD_app (a := (15 : Int)) (b := (16 : Int)) (yD_num' hJ3 (a := 15) (Or.inl (by decide +kernel)) (by omega) (by omega)) (show yD _ (16 : Int) (17 : Int) from yD_num' hJ3 (a := 16) (Or.inr (Or.inl (by decide +kernel))) (by omega) (by omega))))) (by omega) (by omega)⟩
set_option maxHeartbeats 4000000 in
theorem y_X12 {G : zG} {d : Nat} {h : zH} (hJ : yJ h) : yC G (d + 1) 58 111955 mX12_init [vr 12 466] (467, h) (yQ h 466 525) := by
  refine y_entry (L := [some (vr 12 466)]) (by decide +kernel) (Nat.le_of_ble_eq_true rfl) rfl ?_
  refine y_aload_n 0 dX12_init_0 rfl rfl (Nat.le_of_ble_eq_true rfl) rfl ?_
  refine y_obj (ci := 12) ⟨koX12_3, kobj.1, kobj.2⟩ (by decide) dX12_init_1 ⟨by show 1 ≤ d + 1; omega, (by show _ ≤ 64 * (d + 1); rw [show zcat _ = 0 from rfl]; omega)⟩ rfl ?_
  refine y_aload_n 0 dX12_init_4 rfl rfl (Nat.le_of_ble_eq_true rfl) rfl ?_
  refine y_iconst dX12_init_5 rfl ?_
  refine y_setI 12 pX12_9 rfl rfl dX12_init_6 (by omega) hJ (by decide +kernel) rfl (fun h1 hJ1 hM1 s1 => ?_)
  refine y_aload_n 0 dX12_init_9 rfl rfl (Nat.le_of_ble_eq_true rfl) rfl ?_
  refine y_sipush dX12_init_10 rfl rfl ?_
  refine y_newB karr_byte dX12_init_13 (N := 900) (r := 467) ⟨(by decide), (by decide +kernel), (by decide +kernel), rfl⟩ ⟨by show _ ≤ 58; omega, by show _ ≤ 111955; omega⟩ rfl rfl ?_
  refine y_set 12 15 pX12_13 rfl rfl (by decide) dX12_init_15 (by omega) hJ1 (by decide +kernel) rfl (fun h2 hJ2 hM2 s2 => ?_)
  refine y_aload_n 0 dX12_init_18 rfl rfl (Nat.le_of_ble_eq_true rfl) rfl ?_
  refine y_sipush dX12_init_19 rfl rfl ?_
  refine y_newJ karr_long dX12_init_22 (N := 28672) (r := 468) ⟨(by decide), (by decide +kernel), (by decide +kernel), rfl⟩ ⟨by show _ ≤ 58; omega, by show _ ≤ 111955; omega⟩ rfl rfl ?_
  refine y_set 12 14 pX12_17 rfl rfl (by decide) dX12_init_24 (by omega) hJ2 (by decide +kernel) rfl (fun h3 hJ3 hM3 s3 => ?_)
  refine y_aload_n 0 dX12_init_27 rfl rfl (Nat.le_of_ble_eq_true rfl) rfl ?_
  refine y_bipush dX12_init_28 rfl rfl ?_
  refine y_newI karr_int dX12_init_30 (N := 24) (r := 469) ⟨(by decide), (by decide +kernel), (by decide +kernel), rfl⟩ ⟨by show _ ≤ 58; omega, by show _ ≤ 111955; omega⟩ rfl rfl ?_
  refine y_set 12 13 pX12_21 rfl rfl (by decide) dX12_init_32 (by omega) hJ3 (by decide +kernel) rfl (fun h4 hJ4 hM4 s4 => ?_)
  refine y_aload_n 0 dX12_init_35 rfl rfl (Nat.le_of_ble_eq_true rfl) rfl ?_
  refine y_bipush dX12_init_36 rfl rfl ?_
  refine y_newI karr_int dX12_init_38 (N := 24) (r := 470) ⟨(by decide), (by decide +kernel), (by decide +kernel), rfl⟩ ⟨by show _ ≤ 58; omega, by show _ ≤ 111955; omega⟩ rfl rfl ?_
  refine y_set 12 13 pX12_25 rfl rfl (by decide) dX12_init_40 (by omega) hJ4 (by decide +kernel) rfl (fun h5 hJ5 hM5 s5 => ?_)
  refine y_aload_n 0 dX12_init_43 rfl rfl (Nat.le_of_ble_eq_true rfl) rfl ?_
  refine y_bipush dX12_init_44 rfl rfl ?_
  refine y_newI karr_int dX12_init_46 (N := 24) (r := 471) ⟨(by decide), (by decide +kernel), (by decide +kernel), rfl⟩ ⟨by show _ ≤ 58; omega, by show _ ≤ 111955; omega⟩ rfl rfl ?_
  refine y_set 12 13 pX12_28 rfl rfl (by decide) dX12_init_48 (by omega) hJ5 (by decide +kernel) rfl (fun h6 hJ6 hM6 s6 => ?_)
  refine y_aload_n 0 dX12_init_51 rfl rfl (Nat.le_of_ble_eq_true rfl) rfl ?_
  refine y_sipush dX12_init_52 rfl rfl ?_
  refine y_newI karr_int dX12_init_55 (N := 576) (r := 472) ⟨(by decide), (by decide +kernel), (by decide +kernel), rfl⟩ ⟨by show _ ≤ 58; omega, by show _ ≤ 111955; omega⟩ rfl rfl ?_
  refine y_set 12 13 pX12_31 rfl rfl (by decide) dX12_init_57 (by omega) hJ6 (by decide +kernel) rfl (fun h7 hJ7 hM7 s7 => ?_)
  refine y_aload_n 0 dX12_init_60 rfl rfl (Nat.le_of_ble_eq_true rfl) rfl ?_
  refine y_sipush dX12_init_61 rfl rfl ?_
  refine y_newI karr_int dX12_init_64 (N := 576) (r := 473) ⟨(by decide), (by decide +kernel), (by decide +kernel), rfl⟩ ⟨by show _ ≤ 58; omega, by show _ ≤ 111955; omega⟩ rfl rfl ?_
  refine y_set 12 13 pX12_34 rfl rfl (by decide) dX12_init_66 (by omega) hJ7 (by decide +kernel) rfl (fun h8 hJ8 hM8 s8 => ?_)
  refine y_aload_n 0 dX12_init_69 rfl rfl (Nat.le_of_ble_eq_true rfl) rfl ?_
  refine y_bipush dX12_init_70 rfl rfl ?_
  refine y_newJ karr_long dX12_init_72 (N := 12) (r := 474) ⟨(by decide), (by decide +kernel), (by decide +kernel), rfl⟩ ⟨by show _ ≤ 58; omega, by show _ ≤ 111955; omega⟩ rfl rfl ?_
  refine y_set 12 14 pX12_37 rfl rfl (by decide) dX12_init_74 (by omega) hJ8 (by decide +kernel) rfl (fun h9 hJ9 hM9 s9 => ?_)
  refine y_aload_n 0 dX12_init_77 rfl rfl (Nat.le_of_ble_eq_true rfl) rfl ?_
  refine y_iconst dX12_init_78 rfl ?_
  refine y_newI karr_int dX12_init_79 (N := 4) (r := 475) ⟨(by decide), (by decide +kernel), (by decide +kernel), rfl⟩ ⟨by show _ ≤ 58; omega, by show _ ≤ 111955; omega⟩ rfl rfl ?_
  refine y_set 12 13 pX12_40 rfl rfl (by decide) dX12_init_81 (by omega) hJ9 (by decide +kernel) rfl (fun h10 hJ10 hM10 s10 => ?_)
  refine y_aload_n 0 dX12_init_84 rfl rfl (Nat.le_of_ble_eq_true rfl) rfl ?_
  refine y_iconst dX12_init_85 rfl ?_
  refine y_newI karr_int dX12_init_86 (N := 4) (r := 476) ⟨(by decide), (by decide +kernel), (by decide +kernel), rfl⟩ ⟨by show _ ≤ 58; omega, by show _ ≤ 111955; omega⟩ rfl rfl ?_
  refine y_set 12 13 pX12_43 rfl rfl (by decide) dX12_init_88 (by omega) hJ10 (by decide +kernel) rfl (fun h11 hJ11 hM11 s11 => ?_)
  refine y_aload_n 0 dX12_init_91 rfl rfl (Nat.le_of_ble_eq_true rfl) rfl ?_
  refine y_iconst dX12_init_92 rfl ?_
  refine y_newI karr_int dX12_init_93 (N := 4) (r := 477) ⟨(by decide), (by decide +kernel), (by decide +kernel), rfl⟩ ⟨by show _ ≤ 58; omega, by show _ ≤ 111955; omega⟩ rfl rfl ?_
  refine y_set 12 13 pX12_46 rfl rfl (by decide) dX12_init_95 (by omega) hJ11 (by decide +kernel) rfl (fun h12 hJ12 hM12 s12 => ?_)
  refine y_aload_n 0 dX12_init_98 rfl rfl (Nat.le_of_ble_eq_true rfl) rfl ?_
  refine y_bipush dX12_init_99 rfl rfl ?_
  refine y_newI karr_int dX12_init_101 (N := 96) (r := 478) ⟨(by decide), (by decide +kernel), (by decide +kernel), rfl⟩ ⟨by show _ ≤ 58; omega, by show _ ≤ 111955; omega⟩ rfl rfl ?_
  refine y_set 12 13 pX12_49 rfl rfl (by decide) dX12_init_103 (by omega) hJ12 (by decide +kernel) rfl (fun h13 hJ13 hM13 s13 => ?_)
  refine y_aload_n 0 dX12_init_106 rfl rfl (Nat.le_of_ble_eq_true rfl) rfl ?_
  refine y_bipush dX12_init_107 rfl rfl ?_
  refine y_newI karr_int dX12_init_109 (N := 96) (r := 479) ⟨(by decide), (by decide +kernel), (by decide +kernel), rfl⟩ ⟨by show _ ≤ 58; omega, by show _ ≤ 111955; omega⟩ rfl rfl ?_
  refine y_set 12 13 pX12_52 rfl rfl (by decide) dX12_init_111 (by omega) hJ13 (by decide +kernel) rfl (fun h14 hJ14 hM14 s14 => ?_)
  refine y_aload_n 0 dX12_init_114 rfl rfl (Nat.le_of_ble_eq_true rfl) rfl ?_
  refine y_bipush dX12_init_115 rfl rfl ?_
  refine y_newI karr_int dX12_init_117 (N := 96) (r := 480) ⟨(by decide), (by decide +kernel), (by decide +kernel), rfl⟩ ⟨by show _ ≤ 58; omega, by show _ ≤ 111955; omega⟩ rfl rfl ?_
  refine y_set 12 13 pX12_55 rfl rfl (by decide) dX12_init_119 (by omega) hJ14 (by decide +kernel) rfl (fun h15 hJ15 hM15 s15 => ?_)
  refine y_aload_n 0 dX12_init_122 rfl rfl (Nat.le_of_ble_eq_true rfl) rfl ?_
  refine y_sipush dX12_init_123 rfl rfl ?_
  refine y_newI karr_int dX12_init_126 (N := 2304) (r := 481) ⟨(by decide), (by decide +kernel), (by decide +kernel), rfl⟩ ⟨by show _ ≤ 58; omega, by show _ ≤ 111955; omega⟩ rfl rfl ?_
  refine y_set 12 13 pX12_58 rfl rfl (by decide) dX12_init_128 (by omega) hJ15 (by decide +kernel) rfl (fun h16 hJ16 hM16 s16 => ?_)
  refine y_aload_n 0 dX12_init_131 rfl rfl (Nat.le_of_ble_eq_true rfl) rfl ?_
  refine y_sipush dX12_init_132 rfl rfl ?_
  refine y_newI karr_int dX12_init_135 (N := 2304) (r := 482) ⟨(by decide), (by decide +kernel), (by decide +kernel), rfl⟩ ⟨by show _ ≤ 58; omega, by show _ ≤ 111955; omega⟩ rfl rfl ?_
  refine y_set 12 13 pX12_61 rfl rfl (by decide) dX12_init_137 (by omega) hJ16 (by decide +kernel) rfl (fun h17 hJ17 hM17 s17 => ?_)
  refine y_aload_n 0 dX12_init_140 rfl rfl (Nat.le_of_ble_eq_true rfl) rfl ?_
  refine y_bipush dX12_init_141 rfl rfl ?_
  refine y_newI karr_int dX12_init_143 (N := 32) (r := 483) ⟨(by decide), (by decide +kernel), (by decide +kernel), rfl⟩ ⟨by show _ ≤ 58; omega, by show _ ≤ 111955; omega⟩ rfl rfl ?_
  refine y_set 12 13 pX12_64 rfl rfl (by decide) dX12_init_145 (by omega) hJ17 (by decide +kernel) rfl (fun h18 hJ18 hM18 s18 => ?_)
  refine y_aload_n 0 dX12_init_148 rfl rfl (Nat.le_of_ble_eq_true rfl) rfl ?_
  refine y_bipush dX12_init_149 rfl rfl ?_
  refine y_newI karr_int dX12_init_151 (N := 32) (r := 484) ⟨(by decide), (by decide +kernel), (by decide +kernel), rfl⟩ ⟨by show _ ≤ 58; omega, by show _ ≤ 111955; omega⟩ rfl rfl ?_
  refine y_set 12 13 pX12_67 rfl rfl (by decide) dX12_init_153 (by omega) hJ18 (by decide +kernel) rfl (fun h19 hJ19 hM19 s19 => ?_)
  refine y_aload_n 0 dX12_init_156 rfl rfl (Nat.le_of_ble_eq_true rfl) rfl ?_
  refine y_iconst dX12_init_157 rfl ?_
  refine y_newJ karr_long dX12_init_158 (N := 4) (r := 485) ⟨(by decide), (by decide +kernel), (by decide +kernel), rfl⟩ ⟨by show _ ≤ 58; omega, by show _ ≤ 111955; omega⟩ rfl rfl ?_
  refine y_set 12 14 pX12_70 rfl rfl (by decide) dX12_init_160 (by omega) hJ19 (by decide +kernel) rfl (fun h20 hJ20 hM20 s20 => ?_)
  refine y_aload_n 0 dX12_init_163 rfl rfl (Nat.le_of_ble_eq_true rfl) rfl ?_
  refine y_sipush dX12_init_164 rfl rfl ?_
  refine y_newI karr_int dX12_init_167 (N := 160) (r := 486) ⟨(by decide), (by decide +kernel), (by decide +kernel), rfl⟩ ⟨by show _ ≤ 58; omega, by show _ ≤ 111955; omega⟩ rfl rfl ?_
  refine y_set 12 13 pX12_73 rfl rfl (by decide) dX12_init_169 (by omega) hJ20 (by decide +kernel) rfl (fun h21 hJ21 hM21 s21 => ?_)
  refine y_aload_n 0 dX12_init_172 rfl rfl (Nat.le_of_ble_eq_true rfl) rfl ?_
  refine y_sipush dX12_init_173 rfl rfl ?_
  refine y_newI karr_int dX12_init_176 (N := 160) (r := 487) ⟨(by decide), (by decide +kernel), (by decide +kernel), rfl⟩ ⟨by show _ ≤ 58; omega, by show _ ≤ 111955; omega⟩ rfl rfl ?_
  refine y_set 12 13 pX12_76 rfl rfl (by decide) dX12_init_178 (by omega) hJ21 (by decide +kernel) rfl (fun h22 hJ22 hM22 s22 => ?_)
  refine y_aload_n 0 dX12_init_181 rfl rfl (Nat.le_of_ble_eq_true rfl) rfl ?_
  refine y_sipush dX12_init_182 rfl rfl ?_
  refine y_newI karr_int dX12_init_185 (N := 161) (r := 488) ⟨(by decide), (by decide +kernel), (by decide +kernel), rfl⟩ ⟨by show _ ≤ 58; omega, by show _ ≤ 111955; omega⟩ rfl rfl ?_
  refine y_set 12 13 pX12_79 rfl rfl (by decide) dX12_init_187 (by omega) hJ22 (by decide +kernel) rfl (fun h23 hJ23 hM23 s23 => ?_)
  refine y_aload_n 0 dX12_init_190 rfl rfl (Nat.le_of_ble_eq_true rfl) rfl ?_
  refine y_sipush dX12_init_191 rfl rfl ?_
  refine y_newI karr_int dX12_init_194 (N := 14000) (r := 489) ⟨(by decide), (by decide +kernel), (by decide +kernel), rfl⟩ ⟨by show _ ≤ 58; omega, by show _ ≤ 111955; omega⟩ rfl rfl ?_
  refine y_set 12 13 pX12_82 rfl rfl (by decide) dX12_init_196 (by omega) hJ23 (by decide +kernel) rfl (fun h24 hJ24 hM24 s24 => ?_)
  refine y_aload_n 0 dX12_init_199 rfl rfl (Nat.le_of_ble_eq_true rfl) rfl ?_
  refine y_sipush dX12_init_200 rfl rfl ?_
  refine y_newI karr_int dX12_init_203 (N := 14000) (r := 490) ⟨(by decide), (by decide +kernel), (by decide +kernel), rfl⟩ ⟨by show _ ≤ 58; omega, by show _ ≤ 111955; omega⟩ rfl rfl ?_
  refine y_set 12 13 pX12_85 rfl rfl (by decide) dX12_init_205 (by omega) hJ24 (by decide +kernel) rfl (fun h25 hJ25 hM25 s25 => ?_)
  refine y_aload_n 0 dX12_init_208 rfl rfl (Nat.le_of_ble_eq_true rfl) rfl ?_
  refine y_bipush dX12_init_209 rfl rfl ?_
  refine y_newI karr_int dX12_init_211 (N := 64) (r := 491) ⟨(by decide), (by decide +kernel), (by decide +kernel), rfl⟩ ⟨by show _ ≤ 58; omega, by show _ ≤ 111955; omega⟩ rfl rfl ?_
  refine y_set 12 13 pX12_88 rfl rfl (by decide) dX12_init_213 (by omega) hJ25 (by decide +kernel) rfl (fun h26 hJ26 hM26 s26 => ?_)
  refine y_aload_n 0 dX12_init_216 rfl rfl (Nat.le_of_ble_eq_true rfl) rfl ?_
  refine y_bipush dX12_init_217 rfl rfl ?_
  refine y_newI karr_int dX12_init_219 (N := 64) (r := 492) ⟨(by decide), (by decide +kernel), (by decide +kernel), rfl⟩ ⟨by show _ ≤ 58; omega, by show _ ≤ 111955; omega⟩ rfl rfl ?_
  refine y_set 12 13 pX12_91 rfl rfl (by decide) dX12_init_221 (by omega) hJ26 (by decide +kernel) rfl (fun h27 hJ27 hM27 s27 => ?_)
  refine y_aload_n 0 dX12_init_224 rfl rfl (Nat.le_of_ble_eq_true rfl) rfl ?_
  refine y_bipush dX12_init_225 rfl rfl ?_
  refine y_newI karr_int dX12_init_227 (N := 14) (r := 493) ⟨(by decide), (by decide +kernel), (by decide +kernel), rfl⟩ ⟨by show _ ≤ 58; omega, by show _ ≤ 111955; omega⟩ rfl rfl ?_
  refine y_set 12 13 pX12_94 rfl rfl (by decide) dX12_init_229 (by omega) hJ27 (by decide +kernel) rfl (fun h28 hJ28 hM28 s28 => ?_)
  refine y_aload_n 0 dX12_init_232 rfl rfl (Nat.le_of_ble_eq_true rfl) rfl ?_
  refine y_bipush dX12_init_233 rfl rfl ?_
  refine y_newI karr_int dX12_init_235 (N := 14) (r := 494) ⟨(by decide), (by decide +kernel), (by decide +kernel), rfl⟩ ⟨by show _ ≤ 58; omega, by show _ ≤ 111955; omega⟩ rfl rfl ?_
  refine y_set 12 13 pX12_97 rfl rfl (by decide) dX12_init_237 (by omega) hJ28 (by decide +kernel) rfl (fun h29 hJ29 hM29 s29 => ?_)
  refine y_aload_n 0 dX12_init_240 rfl rfl (Nat.le_of_ble_eq_true rfl) rfl ?_
  refine y_bipush dX12_init_241 rfl rfl ?_
  refine y_newI karr_int dX12_init_243 (N := 14) (r := 495) ⟨(by decide), (by decide +kernel), (by decide +kernel), rfl⟩ ⟨by show _ ≤ 58; omega, by show _ ≤ 111955; omega⟩ rfl rfl ?_
  refine y_set 12 13 pX12_100 rfl rfl (by decide) dX12_init_245 (by omega) hJ29 (by decide +kernel) rfl (fun h30 hJ30 hM30 s30 => ?_)
  refine y_aload_n 0 dX12_init_248 rfl rfl (Nat.le_of_ble_eq_true rfl) rfl ?_
  refine y_bipush dX12_init_249 rfl rfl ?_
  refine y_newI karr_int dX12_init_251 (N := 14) (r := 496) ⟨(by decide), (by decide +kernel), (by decide +kernel), rfl⟩ ⟨by show _ ≤ 58; omega, by show _ ≤ 111955; omega⟩ rfl rfl ?_
  refine y_set 12 13 pX12_103 rfl rfl (by decide) dX12_init_253 (by omega) hJ30 (by decide +kernel) rfl (fun h31 hJ31 hM31 s31 => ?_)
  refine y_aload_n 0 dX12_init_256 rfl rfl (Nat.le_of_ble_eq_true rfl) rfl ?_
  refine y_sipush dX12_init_257 rfl rfl ?_
  refine y_newI karr_int dX12_init_260 (N := 1792) (r := 497) ⟨(by decide), (by decide +kernel), (by decide +kernel), rfl⟩ ⟨by show _ ≤ 58; omega, by show _ ≤ 111955; omega⟩ rfl rfl ?_
  refine y_set 12 13 pX12_106 rfl rfl (by decide) dX12_init_262 (by omega) hJ31 (by decide +kernel) rfl (fun h32 hJ32 hM32 s32 => ?_)
  refine y_aload_n 0 dX12_init_265 rfl rfl (Nat.le_of_ble_eq_true rfl) rfl ?_
  refine y_sipush dX12_init_266 rfl rfl ?_
  refine y_newI karr_int dX12_init_269 (N := 2240) (r := 498) ⟨(by decide), (by decide +kernel), (by decide +kernel), rfl⟩ ⟨by show _ ≤ 58; omega, by show _ ≤ 111955; omega⟩ rfl rfl ?_
  refine y_set 12 13 pX12_109 rfl rfl (by decide) dX12_init_271 (by omega) hJ32 (by decide +kernel) rfl (fun h33 hJ33 hM33 s33 => ?_)
  refine y_aload_n 0 dX12_init_274 rfl rfl (Nat.le_of_ble_eq_true rfl) rfl ?_
  refine y_sipush dX12_init_275 rfl rfl ?_
  refine y_newI karr_int dX12_init_278 (N := 2240) (r := 499) ⟨(by decide), (by decide +kernel), (by decide +kernel), rfl⟩ ⟨by show _ ≤ 58; omega, by show _ ≤ 111955; omega⟩ rfl rfl ?_
  refine y_set 12 13 pX12_112 rfl rfl (by decide) dX12_init_280 (by omega) hJ33 (by decide +kernel) rfl (fun h34 hJ34 hM34 s34 => ?_)
  refine y_aload_n 0 dX12_init_283 rfl rfl (Nat.le_of_ble_eq_true rfl) rfl ?_
  refine y_sipush dX12_init_284 rfl rfl ?_
  refine y_newI karr_int dX12_init_287 (N := 896) (r := 500) ⟨(by decide), (by decide +kernel), (by decide +kernel), rfl⟩ ⟨by show _ ≤ 58; omega, by show _ ≤ 111955; omega⟩ rfl rfl ?_
  refine y_set 12 13 pX12_115 rfl rfl (by decide) dX12_init_289 (by omega) hJ34 (by decide +kernel) rfl (fun h35 hJ35 hM35 s35 => ?_)
  refine y_aload_n 0 dX12_init_292 rfl rfl (Nat.le_of_ble_eq_true rfl) rfl ?_
  refine y_sipush dX12_init_293 rfl rfl ?_
  refine y_newI karr_int dX12_init_296 (N := 896) (r := 501) ⟨(by decide), (by decide +kernel), (by decide +kernel), rfl⟩ ⟨by show _ ≤ 58; omega, by show _ ≤ 111955; omega⟩ rfl rfl ?_
  refine y_set 12 13 pX12_118 rfl rfl (by decide) dX12_init_298 (by omega) hJ35 (by decide +kernel) rfl (fun h36 hJ36 hM36 s36 => ?_)
  refine y_aload_n 0 dX12_init_301 rfl rfl (Nat.le_of_ble_eq_true rfl) rfl ?_
  refine y_bipush dX12_init_302 rfl rfl ?_
  refine y_newJ karr_long dX12_init_304 (N := 14) (r := 502) ⟨(by decide), (by decide +kernel), (by decide +kernel), rfl⟩ ⟨by show _ ≤ 58; omega, by show _ ≤ 111955; omega⟩ rfl rfl ?_
  refine y_set 12 14 pX12_121 rfl rfl (by decide) dX12_init_306 (by omega) hJ36 (by decide +kernel) rfl (fun h37 hJ37 hM37 s37 => ?_)
  refine y_aload_n 0 dX12_init_309 rfl rfl (Nat.le_of_ble_eq_true rfl) rfl ?_
  refine y_sipush dX12_init_310 rfl rfl ?_
  refine y_newJ karr_long dX12_init_313 (N := 2240) (r := 503) ⟨(by decide), (by decide +kernel), (by decide +kernel), rfl⟩ ⟨by show _ ≤ 58; omega, by show _ ≤ 111955; omega⟩ rfl rfl ?_
  refine y_set 12 14 pX12_124 rfl rfl (by decide) dX12_init_315 (by omega) hJ37 (by decide +kernel) rfl (fun h38 hJ38 hM38 s38 => ?_)
  refine y_aload_n 0 dX12_init_318 rfl rfl (Nat.le_of_ble_eq_true rfl) rfl ?_
  refine y_sipush dX12_init_319 rfl rfl ?_
  refine y_newJ karr_long dX12_init_322 (N := 2240) (r := 504) ⟨(by decide), (by decide +kernel), (by decide +kernel), rfl⟩ ⟨by show _ ≤ 58; omega, by show _ ≤ 111955; omega⟩ rfl rfl ?_
  refine y_set 12 14 pX12_127 rfl rfl (by decide) dX12_init_324 (by omega) hJ38 (by decide +kernel) rfl (fun h39 hJ39 hM39 s39 => ?_)
  refine y_aload_n 0 dX12_init_327 rfl rfl (Nat.le_of_ble_eq_true rfl) rfl ?_
  refine y_bipush dX12_init_328 rfl rfl ?_
  refine y_newJ karr_long dX12_init_330 (N := 80) (r := 505) ⟨(by decide), (by decide +kernel), (by decide +kernel), rfl⟩ ⟨by show _ ≤ 58; omega, by show _ ≤ 111955; omega⟩ rfl rfl ?_
  refine y_set 12 14 pX12_130 rfl rfl (by decide) dX12_init_332 (by omega) hJ39 (by decide +kernel) rfl (fun h40 hJ40 hM40 s40 => ?_)
  refine y_aload_n 0 dX12_init_335 rfl rfl (Nat.le_of_ble_eq_true rfl) rfl ?_
  refine y_iconst dX12_init_336 rfl ?_
  refine y_newI karr_int dX12_init_337 (N := 2) (r := 506) ⟨(by decide), (by decide +kernel), (by decide +kernel), rfl⟩ ⟨by show _ ≤ 58; omega, by show _ ≤ 111955; omega⟩ rfl rfl ?_
  refine y_set 12 13 pX12_133 rfl rfl (by decide) dX12_init_339 (by omega) hJ40 (by decide +kernel) rfl (fun h41 hJ41 hM41 s41 => ?_)
  refine y_aload_n 0 dX12_init_342 rfl rfl (Nat.le_of_ble_eq_true rfl) rfl ?_
  refine y_sipush dX12_init_343 rfl rfl ?_
  refine y_newI karr_int dX12_init_346 (N := 10240) (r := 507) ⟨(by decide), (by decide +kernel), (by decide +kernel), rfl⟩ ⟨by show _ ≤ 58; omega, by show _ ≤ 111955; omega⟩ rfl rfl ?_
  refine y_set 12 13 pX12_136 rfl rfl (by decide) dX12_init_348 (by omega) hJ41 (by decide +kernel) rfl (fun h42 hJ42 hM42 s42 => ?_)
  refine y_aload_n 0 dX12_init_351 rfl rfl (Nat.le_of_ble_eq_true rfl) rfl ?_
  refine y_bipush dX12_init_352 rfl rfl ?_
  refine y_newI karr_int dX12_init_354 (N := 80) (r := 508) ⟨(by decide), (by decide +kernel), (by decide +kernel), rfl⟩ ⟨by show _ ≤ 58; omega, by show _ ≤ 111955; omega⟩ rfl rfl ?_
  refine y_set 12 13 pX12_139 rfl rfl (by decide) dX12_init_356 (by omega) hJ42 (by decide +kernel) rfl (fun h43 hJ43 hM43 s43 => ?_)
  refine y_aload_n 0 dX12_init_359 rfl rfl (Nat.le_of_ble_eq_true rfl) rfl ?_
  refine y_bipush dX12_init_360 rfl rfl ?_
  refine y_newI karr_int dX12_init_362 (N := 80) (r := 509) ⟨(by decide), (by decide +kernel), (by decide +kernel), rfl⟩ ⟨by show _ ≤ 58; omega, by show _ ≤ 111955; omega⟩ rfl rfl ?_
  refine y_set 12 13 pX12_142 rfl rfl (by decide) dX12_init_364 (by omega) hJ43 (by decide +kernel) rfl (fun h44 hJ44 hM44 s44 => ?_)
  refine y_aload_n 0 dX12_init_367 rfl rfl (Nat.le_of_ble_eq_true rfl) rfl ?_
  refine y_bipush dX12_init_368 rfl rfl ?_
  refine y_newI karr_int dX12_init_370 (N := 80) (r := 510) ⟨(by decide), (by decide +kernel), (by decide +kernel), rfl⟩ ⟨by show _ ≤ 58; omega, by show _ ≤ 111955; omega⟩ rfl rfl ?_
  refine y_set 12 13 pX12_145 rfl rfl (by decide) dX12_init_372 (by omega) hJ44 (by decide +kernel) rfl (fun h45 hJ45 hM45 s45 => ?_)
  refine y_aload_n 0 dX12_init_375 rfl rfl (Nat.le_of_ble_eq_true rfl) rfl ?_
  refine y_bipush dX12_init_376 rfl rfl ?_
  refine y_newI karr_int dX12_init_378 (N := 80) (r := 511) ⟨(by decide), (by decide +kernel), (by decide +kernel), rfl⟩ ⟨by show _ ≤ 58; omega, by show _ ≤ 111955; omega⟩ rfl rfl ?_
  refine y_set 12 13 pX12_148 rfl rfl (by decide) dX12_init_380 (by omega) hJ45 (by decide +kernel) rfl (fun h46 hJ46 hM46 s46 => ?_)
  refine y_aload_n 0 dX12_init_383 rfl rfl (Nat.le_of_ble_eq_true rfl) rfl ?_
  refine y_iconst dX12_init_384 rfl ?_
  refine y_newI karr_int dX12_init_385 (N := 2) (r := 512) ⟨(by decide), (by decide +kernel), (by decide +kernel), rfl⟩ ⟨by show _ ≤ 58; omega, by show _ ≤ 111955; omega⟩ rfl rfl ?_
  refine y_set 12 13 pX12_151 rfl rfl (by decide) dX12_init_387 (by omega) hJ46 (by decide +kernel) rfl (fun h47 hJ47 hM47 s47 => ?_)
  refine y_aload_n 0 dX12_init_390 rfl rfl (Nat.le_of_ble_eq_true rfl) rfl ?_
  refine y_sipush dX12_init_391 rfl rfl ?_
  refine y_newI karr_int dX12_init_394 (N := 1600) (r := 513) ⟨(by decide), (by decide +kernel), (by decide +kernel), rfl⟩ ⟨by show _ ≤ 58; omega, by show _ ≤ 111955; omega⟩ rfl rfl ?_
  refine y_set 12 13 pX12_154 rfl rfl (by decide) dX12_init_396 (by omega) hJ47 (by decide +kernel) rfl (fun h48 hJ48 hM48 s48 => ?_)
  refine y_aload_n 0 dX12_init_399 rfl rfl (Nat.le_of_ble_eq_true rfl) rfl ?_
  refine y_bipush dX12_init_400 rfl rfl ?_
  refine y_newI karr_int dX12_init_402 (N := 16) (r := 514) ⟨(by decide), (by decide +kernel), (by decide +kernel), rfl⟩ ⟨by show _ ≤ 58; omega, by show _ ≤ 111955; omega⟩ rfl rfl ?_
  refine y_set 12 13 pX12_157 rfl rfl (by decide) dX12_init_404 (by omega) hJ48 (by decide +kernel) rfl (fun h49 hJ49 hM49 s49 => ?_)
  refine y_aload_n 0 dX12_init_407 rfl rfl (Nat.le_of_ble_eq_true rfl) rfl ?_
  refine y_sipush dX12_init_408 rfl rfl ?_
  refine y_newJ karr_long dX12_init_411 (N := 160) (r := 515) ⟨(by decide), (by decide +kernel), (by decide +kernel), rfl⟩ ⟨by show _ ≤ 58; omega, by show _ ≤ 111955; omega⟩ rfl rfl ?_
  refine y_set 12 14 pX12_160 rfl rfl (by decide) dX12_init_413 (by omega) hJ49 (by decide +kernel) rfl (fun h50 hJ50 hM50 s50 => ?_)
  refine y_aload_n 0 dX12_init_416 rfl rfl (Nat.le_of_ble_eq_true rfl) rfl ?_
  refine y_sipush dX12_init_417 rfl rfl ?_
  refine y_newI karr_int dX12_init_420 (N := 256) (r := 516) ⟨(by decide), (by decide +kernel), (by decide +kernel), rfl⟩ ⟨by show _ ≤ 58; omega, by show _ ≤ 111955; omega⟩ rfl rfl ?_
  refine y_set 12 13 pX12_163 rfl rfl (by decide) dX12_init_422 (by omega) hJ50 (by decide +kernel) rfl (fun h51 hJ51 hM51 s51 => ?_)
  refine y_aload_n 0 dX12_init_425 rfl rfl (Nat.le_of_ble_eq_true rfl) rfl ?_
  refine y_sipush dX12_init_426 rfl rfl ?_
  refine y_newI karr_int dX12_init_429 (N := 256) (r := 517) ⟨(by decide), (by decide +kernel), (by decide +kernel), rfl⟩ ⟨by show _ ≤ 58; omega, by show _ ≤ 111955; omega⟩ rfl rfl ?_
  refine y_set 12 13 pX12_166 rfl rfl (by decide) dX12_init_431 (by omega) hJ51 (by decide +kernel) rfl (fun h52 hJ52 hM52 s52 => ?_)
  refine y_aload_n 0 dX12_init_434 rfl rfl (Nat.le_of_ble_eq_true rfl) rfl ?_
  refine y_sipush dX12_init_435 rfl rfl ?_
  refine y_newI karr_int dX12_init_438 (N := 256) (r := 518) ⟨(by decide), (by decide +kernel), (by decide +kernel), rfl⟩ ⟨by show _ ≤ 58; omega, by show _ ≤ 111955; omega⟩ rfl rfl ?_
  refine y_set 12 13 pX12_169 rfl rfl (by decide) dX12_init_440 (by omega) hJ52 (by decide +kernel) rfl (fun h53 hJ53 hM53 s53 => ?_)
  refine y_aload_n 0 dX12_init_443 rfl rfl (Nat.le_of_ble_eq_true rfl) rfl ?_
  refine y_sipush dX12_init_444 rfl rfl ?_
  refine y_newI karr_int dX12_init_447 (N := 1600) (r := 519) ⟨(by decide), (by decide +kernel), (by decide +kernel), rfl⟩ ⟨by show _ ≤ 58; omega, by show _ ≤ 111955; omega⟩ rfl rfl ?_
  refine y_set 12 13 pX12_172 rfl rfl (by decide) dX12_init_449 (by omega) hJ53 (by decide +kernel) rfl (fun h54 hJ54 hM54 s54 => ?_)
  refine y_aload_n 0 dX12_init_452 rfl rfl (Nat.le_of_ble_eq_true rfl) rfl ?_
  refine y_sipush dX12_init_453 rfl rfl ?_
  refine y_newI karr_int dX12_init_456 (N := 1600) (r := 520) ⟨(by decide), (by decide +kernel), (by decide +kernel), rfl⟩ ⟨by show _ ≤ 58; omega, by show _ ≤ 111955; omega⟩ rfl rfl ?_
  refine y_set 12 13 pX12_175 rfl rfl (by decide) dX12_init_458 (by omega) hJ54 (by decide +kernel) rfl (fun h55 hJ55 hM55 s55 => ?_)
  refine y_aload_n 0 dX12_init_461 rfl rfl (Nat.le_of_ble_eq_true rfl) rfl ?_
  refine y_sipush dX12_init_462 rfl rfl ?_
  refine y_newI karr_int dX12_init_465 (N := 1600) (r := 521) ⟨(by decide), (by decide +kernel), (by decide +kernel), rfl⟩ ⟨by show _ ≤ 58; omega, by show _ ≤ 111955; omega⟩ rfl rfl ?_
  refine y_set 12 13 pX12_178 rfl rfl (by decide) dX12_init_467 (by omega) hJ55 (by decide +kernel) rfl (fun h56 hJ56 hM56 s56 => ?_)
  refine y_aload_n 0 dX12_init_470 rfl rfl (Nat.le_of_ble_eq_true rfl) rfl ?_
  refine y_sipush dX12_init_471 rfl rfl ?_
  refine y_newI karr_int dX12_init_474 (N := 1600) (r := 522) ⟨(by decide), (by decide +kernel), (by decide +kernel), rfl⟩ ⟨by show _ ≤ 58; omega, by show _ ≤ 111955; omega⟩ rfl rfl ?_
  refine y_set 12 13 pX12_181 rfl rfl (by decide) dX12_init_476 (by omega) hJ56 (by decide +kernel) rfl (fun h57 hJ57 hM57 s57 => ?_)
  refine y_aload_n 0 dX12_init_479 rfl rfl (Nat.le_of_ble_eq_true rfl) rfl ?_
  refine y_sipush dX12_init_480 rfl rfl ?_
  refine y_newI karr_int dX12_init_483 (N := 10240) (r := 523) ⟨(by decide), (by decide +kernel), (by decide +kernel), rfl⟩ ⟨by show _ ≤ 58; omega, by show _ ≤ 111955; omega⟩ rfl rfl ?_
  refine y_set 12 13 pX12_184 rfl rfl (by decide) dX12_init_485 (by omega) hJ57 (by decide +kernel) rfl (fun h58 hJ58 hM58 s58 => ?_)
  refine y_aload_n 0 dX12_init_488 rfl rfl (Nat.le_of_ble_eq_true rfl) rfl ?_
  refine y_sipush dX12_init_489 rfl rfl ?_
  refine y_newI karr_int dX12_init_492 (N := 5120) (r := 524) ⟨(by decide), (by decide +kernel), (by decide +kernel), rfl⟩ ⟨by show _ ≤ 58; omega, by show _ ≤ 111955; omega⟩ rfl rfl ?_
  refine y_set 12 13 pX12_187 rfl rfl (by decide) dX12_init_494 (by omega) hJ58 (by decide +kernel) rfl (fun h59 hJ59 hM59 s59 => ?_)
  refine y_kcs (kc' := 58) (ks' := 111955) (by omega) (by omega) ?_
  exact y_return rfl dX12_init_497 ⟨by omega, hJ59, (yM_tr (yM_tr (yM_tr (yM_tr (yM_tr (yM_tr (yM_tr (yM_tr (yM_tr (yM_tr (yM_tr (yM_tr (yM_tr (yM_tr (yM_tr (yM_tr (yM_tr (yM_tr (yM_tr (yM_tr (yM_tr (yM_tr (yM_tr (yM_tr (yM_tr (yM_tr (yM_tr (yM_tr (yM_tr (yM_tr (yM_tr (yM_tr (yM_tr (yM_tr (yM_tr (yM_tr (yM_tr (yM_tr (yM_tr (yM_tr (yM_tr (yM_tr (yM_tr (yM_tr (yM_tr (yM_tr (yM_tr (yM_tr (yM_tr (yM_tr (yM_tr (yM_tr (yM_tr (yM_tr (yM_tr (yM_tr (yM_tr (yM_tr hM1 hM2) hM3) hM4) hM5) hM6) hM7) hM8) hM9) hM10) hM11) hM12) hM13) hM14) hM15) hM16) hM17) hM18) hM19) hM20) hM21) hM22) hM23) hM24) hM25) hM26) hM27) hM28) hM29) hM30) hM31) hM32) hM33) hM34) hM35) hM36) hM37) hM38) hM39) hM40) hM41) hM42) hM43) hM44) hM45) hM46) hM47) hM48) hM49) hM50) hM51) hM52) hM53) hM54) hM55) hM56) hM57) hM58) hM59), yD_eq (yD_app (a := (466 : Int)) (b := (467 : Int)) (yD_obj' hJ59 (a := 466) (fun j hj => have hl : j < 90 := (by have := (show zlnN 466 = 90 by decide +kernel); omega); match j, hl with | 0, _ => Or.inr (by decide +kernel) | 1, _ => Or.inr (by decide +kernel) | 2, _ => Or.inl (hM59 _ _ (hM58 _ _ (hM57 _ _ (hM56 _ _ (hM55 _ _ (hM54 _ _ (hM53 _ _ (hM52 _ _ (hM51 _ _ (hM50 _ _ (hM49 _ _ (hM48 _ _ (hM47 _ _ (hM46 _ _ (hM45 _ _ (hM44 _ _ (hM43 _ _ (hM42 _ _ (hM41 _ _ (hM40 _ _ (hM39 _ _ (hM38 _ _ (hM37 _ _ (hM36 _ _ (hM35 _ _ (hM34 _ _ (hM33 _ _ (hM32 _ _ (hM31 _ _ (hM30 _ _ (hM29 _ _ (hM28 _ _ (hM27 _ _ (hM26 _ _ (hM25 _ _ (hM24 _ _ (hM23 _ _ (hM22 _ _ (hM21 _ _ (hM20 _ _ (hM19 _ _ (hM18 _ _ (hM17 _ _ (hM16 _ _ (hM15 _ _ (hM14 _ _ (hM13 _ _ (hM12 _ _ (hM11 _ _ (hM10 _ _ (hM9 _ _ (hM8 _ _ (hM7 _ _ (hM6 _ _ (hM5 _ _ (hM4 _ _ (hM3 _ _ (hM2 _ _ s1)))))))))))))))))))))))))))))))))))))))))))))))))))))))))) | 3, _ => Or.inl (hM59 _ _ (hM58 _ _ (hM57 _ _ (hM56 _ _ (hM55 _ _ (hM54 _ _ (hM53 _ _ (hM52 _ _ (hM51 _ _ (hM50 _ _ (hM49 _ _ (hM48 _ _ (hM47 _ _ (hM46 _ _ (hM45 _ _ (hM44 _ _ (hM43 _ _ (hM42 _ _ (hM41 _ _ (hM40 _ _ (hM39 _ _ (hM38 _ _ (hM37 _ _ (hM36 _ _ (hM35 _ _ (hM34 _ _ (hM33 _ _ (hM32 _ _ (hM31 _ _ (hM30 _ _ (hM29 _ _ (hM28 _ _ (hM27 _ _ (hM26 _ _ (hM25 _ _ (hM24 _ _ (hM23 _ _ (hM22 _ _ (hM21 _ _ (hM20 _ _ (hM19 _ _ (hM18 _ _ (hM17 _ _ (hM16 _ _ (hM15 _ _ (hM14 _ _ (hM13 _ _ (hM12 _ _ (hM11 _ _ (hM10 _ _ (hM9 _ _ (hM8 _ _ (hM7 _ _ (hM6 _ _ (hM5 _ _ (hM4 _ _ (hM3 _ _ s2))))))))))))))))))))))))))))))))))))))))))))))))))))))))) | 4, _ => Or.inr (by decide +kernel) | 5, _ => Or.inr (by decide +kernel) | 6, _ => Or.inr (by decide +kernel) | 7, _ => Or.inr (by decide +kernel) | 8, _ => Or.inr (by decide +kernel) | 9, _ => Or.inr (by decide +kernel) | 10, _ => Or.inr (by decide +kernel) | 11, _ => Or.inr (by decide +kernel) | 12, _ => Or.inl (hM59 _ _ (hM58 _ _ (hM57 _ _ (hM56 _ _ (hM55 _ _ (hM54 _ _ (hM53 _ _ (hM52 _ _ (hM51 _ _ (hM50 _ _ (hM49 _ _ (hM48 _ _ (hM47 _ _ (hM46 _ _ (hM45 _ _ (hM44 _ _ (hM43 _ _ (hM42 _ _ (hM41 _ _ (hM40 _ _ (hM39 _ _ (hM38 _ _ (hM37 _ _ (hM36 _ _ (hM35 _ _ (hM34 _ _ (hM33 _ _ (hM32 _ _ (hM31 _ _ (hM30 _ _ (hM29 _ _ (hM28 _ _ (hM27 _ _ (hM26 _ _ (hM25 _ _ (hM24 _ _ (hM23 _ _ (hM22 _ _ (hM21 _ _ (hM20 _ _ (hM19 _ _ (hM18 _ _ (hM17 _ _ (hM16 _ _ (hM15 _ _ (hM14 _ _ (hM13 _ _ (hM12 _ _ (hM11 _ _ (hM10 _ _ (hM9 _ _ (hM8 _ _ (hM7 _ _ (hM6 _ _ (hM5 _ _ (hM4 _ _ s3)))))))))))))))))))))))))))))))))))))))))))))))))))))))) | 13, _ => Or.inr (by decide +kernel) | 14, _ => Or.inr (by decide +kernel) | 15, _ => Or.inl (hM59 _ _ (hM58 _ _ (hM57 _ _ (hM56 _ _ (hM55 _ _ (hM54 _ _ (hM53 _ _ (hM52 _ _ (hM51 _ _ (hM50 _ _ (hM49 _ _ (hM48 _ _ (hM47 _ _ (hM46 _ _ (hM45 _ _ (hM44 _ _ (hM43 _ _ (hM42 _ _ (hM41 _ _ (hM40 _ _ (hM39 _ _ (hM38 _ _ (hM37 _ _ (hM36 _ _ (hM35 _ _ (hM34 _ _ (hM33 _ _ (hM32 _ _ (hM31 _ _ (hM30 _ _ (hM29 _ _ (hM28 _ _ (hM27 _ _ (hM26 _ _ (hM25 _ _ (hM24 _ _ (hM23 _ _ (hM22 _ _ (hM21 _ _ (hM20 _ _ (hM19 _ _ (hM18 _ _ (hM17 _ _ (hM16 _ _ (hM15 _ _ (hM14 _ _ (hM13 _ _ (hM12 _ _ (hM11 _ _ (hM10 _ _ (hM9 _ _ (hM8 _ _ (hM7 _ _ (hM6 _ _ (hM5 _ _ s4))))))))))))))))))))))))))))))))))))))))))))))))))))))) | 16, _ => Or.inl (hM59 _ _ (hM58 _ _ (hM57 _ _ (hM56 _ _ (hM55 _ _ (hM54 _ _ (hM53 _ _ (hM52 _ _ (hM51 _ _ (hM50 _ _ (hM49 _ _ (hM48 _ _ (hM47 _ _ (hM46 _ _ (hM45 _ _ (hM44 _ _ (hM43 _ _ (hM42 _ _ (hM41 _ _ (hM40 _ _ (hM39 _ _ (hM38 _ _ (hM37 _ _ (hM36 _ _ (hM35 _ _ (hM34 _ _ (hM33 _ _ (hM32 _ _ (hM31 _ _ (hM30 _ _ (hM29 _ _ (hM28 _ _ (hM27 _ _ (hM26 _ _ (hM25 _ _ (hM24 _ _ (hM23 _ _ (hM22 _ _ (hM21 _ _ (hM20 _ _ (hM19 _ _ (hM18 _ _ (hM17 _ _ (hM16 _ _ (hM15 _ _ (hM14 _ _ (hM13 _ _ (hM12 _ _ (hM11 _ _ (hM10 _ _ (hM9 _ _ (hM8 _ _ (hM7 _ _ (hM6 _ _ s5)))))))))))))))))))))))))))))))))))))))))))))))))))))) | 17, _ => Or.inr (by decide +kernel) | 18, _ => Or.inl (hM59 _ _ (hM58 _ _ (hM57 _ _ (hM56 _ _ (hM55 _ _ (hM54 _ _ (hM53 _ _ (hM52 _ _ (hM51 _ _ (hM50 _ _ (hM49 _ _ (hM48 _ _ (hM47 _ _ (hM46 _ _ (hM45 _ _ (hM44 _ _ (hM43 _ _ (hM42 _ _ (hM41 _ _ (hM40 _ _ (hM39 _ _ (hM38 _ _ (hM37 _ _ (hM36 _ _ (hM35 _ _ (hM34 _ _ (hM33 _ _ (hM32 _ _ (hM31 _ _ (hM30 _ _ (hM29 _ _ (hM28 _ _ (hM27 _ _ (hM26 _ _ (hM25 _ _ (hM24 _ _ (hM23 _ _ (hM22 _ _ (hM21 _ _ (hM20 _ _ (hM19 _ _ (hM18 _ _ (hM17 _ _ (hM16 _ _ (hM15 _ _ (hM14 _ _ (hM13 _ _ (hM12 _ _ (hM11 _ _ (hM10 _ _ (hM9 _ _ (hM8 _ _ (hM7 _ _ s6))))))))))))))))))))))))))))))))))))))))))))))))))))) | 19, _ => Or.inl (hM59 _ _ (hM58 _ _ (hM57 _ _ (hM56 _ _ (hM55 _ _ (hM54 _ _ (hM53 _ _ (hM52 _ _ (hM51 _ _ (hM50 _ _ (hM49 _ _ (hM48 _ _ (hM47 _ _ (hM46 _ _ (hM45 _ _ (hM44 _ _ (hM43 _ _ (hM42 _ _ (hM41 _ _ (hM40 _ _ (hM39 _ _ (hM38 _ _ (hM37 _ _ (hM36 _ _ (hM35 _ _ (hM34 _ _ (hM33 _ _ (hM32 _ _ (hM31 _ _ (hM30 _ _ (hM29 _ _ (hM28 _ _ (hM27 _ _ (hM26 _ _ (hM25 _ _ (hM24 _ _ (hM23 _ _ (hM22 _ _ (hM21 _ _ (hM20 _ _ (hM19 _ _ (hM18 _ _ (hM17 _ _ (hM16 _ _ (hM15 _ _ (hM14 _ _ (hM13 _ _ (hM12 _ _ (hM11 _ _ (hM10 _ _ (hM9 _ _ (hM8 _ _ s7)))))))))))))))))))))))))))))))))))))))))))))))))))) | 20, _ => Or.inl (hM59 _ _ (hM58 _ _ (hM57 _ _ (hM56 _ _ (hM55 _ _ (hM54 _ _ (hM53 _ _ (hM52 _ _ (hM51 _ _ (hM50 _ _ (hM49 _ _ (hM48 _ _ (hM47 _ _ (hM46 _ _ (hM45 _ _ (hM44 _ _ (hM43 _ _ (hM42 _ _ (hM41 _ _ (hM40 _ _ (hM39 _ _ (hM38 _ _ (hM37 _ _ (hM36 _ _ (hM35 _ _ (hM34 _ _ (hM33 _ _ (hM32 _ _ (hM31 _ _ (hM30 _ _ (hM29 _ _ (hM28 _ _ (hM27 _ _ (hM26 _ _ (hM25 _ _ (hM24 _ _ (hM23 _ _ (hM22 _ _ (hM21 _ _ (hM20 _ _ (hM19 _ _ (hM18 _ _ (hM17 _ _ (hM16 _ _ (hM15 _ _ (hM14 _ _ (hM13 _ _ (hM12 _ _ (hM11 _ _ (hM10 _ _ (hM9 _ _ s8))))))))))))))))))))))))))))))))))))))))))))))))))) | 21, _ => Or.inl (hM59 _ _ (hM58 _ _ (hM57 _ _ (hM56 _ _ (hM55 _ _ (hM54 _ _ (hM53 _ _ (hM52 _ _ (hM51 _ _ (hM50 _ _ (hM49 _ _ (hM48 _ _ (hM47 _ _ (hM46 _ _ (hM45 _ _ (hM44 _ _ (hM43 _ _ (hM42 _ _ (hM41 _ _ (hM40 _ _ (hM39 _ _ (hM38 _ _ (hM37 _ _ (hM36 _ _ (hM35 _ _ (hM34 _ _ (hM33 _ _ (hM32 _ _ (hM31 _ _ (hM30 _ _ (hM29 _ _ (hM28 _ _ (hM27 _ _ (hM26 _ _ (hM25 _ _ (hM24 _ _ (hM23 _ _ (hM22 _ _ (hM21 _ _ (hM20 _ _ (hM19 _ _ (hM18 _ _ (hM17 _ _ (hM16 _ _ (hM15 _ _ (hM14 _ _ (hM13 _ _ (hM12 _ _ (hM11 _ _ (hM10 _ _ s9)))))))))))))))))))))))))))))))))))))))))))))))))) | 22, _ => Or.inr (by decide +kernel) | 23, _ => Or.inr (by decide +kernel) | 24, _ => Or.inl (hM59 _ _ (hM58 _ _ (hM57 _ _ (hM56 _ _ (hM55 _ _ (hM54 _ _ (hM53 _ _ (hM52 _ _ (hM51 _ _ (hM50 _ _ (hM49 _ _ (hM48 _ _ (hM47 _ _ (hM46 _ _ (hM45 _ _ (hM44 _ _ (hM43 _ _ (hM42 _ _ (hM41 _ _ (hM40 _ _ (hM39 _ _ (hM38 _ _ (hM37 _ _ (hM36 _ _ (hM35 _ _ (hM34 _ _ (hM33 _ _ (hM32 _ _ (hM31 _ _ (hM30 _ _ (hM29 _ _ (hM28 _ _ (hM27 _ _ (hM26 _ _ (hM25 _ _ (hM24 _ _ (hM23 _ _ (hM22 _ _ (hM21 _ _ (hM20 _ _ (hM19 _ _ (hM18 _ _ (hM17 _ _ (hM16 _ _ (hM15 _ _ (hM14 _ _ (hM13 _ _ (hM12 _ _ (hM11 _ _ s10))))))))))))))))))))))))))))))))))))))))))))))))) | 25, _ => Or.inl (hM59 _ _ (hM58 _ _ (hM57 _ _ (hM56 _ _ (hM55 _ _ (hM54 _ _ (hM53 _ _ (hM52 _ _ (hM51 _ _ (hM50 _ _ (hM49 _ _ (hM48 _ _ (hM47 _ _ (hM46 _ _ (hM45 _ _ (hM44 _ _ (hM43 _ _ (hM42 _ _ (hM41 _ _ (hM40 _ _ (hM39 _ _ (hM38 _ _ (hM37 _ _ (hM36 _ _ (hM35 _ _ (hM34 _ _ (hM33 _ _ (hM32 _ _ (hM31 _ _ (hM30 _ _ (hM29 _ _ (hM28 _ _ (hM27 _ _ (hM26 _ _ (hM25 _ _ (hM24 _ _ (hM23 _ _ (hM22 _ _ (hM21 _ _ (hM20 _ _ (hM19 _ _ (hM18 _ _ (hM17 _ _ (hM16 _ _ (hM15 _ _ (hM14 _ _ (hM13 _ _ (hM12 _ _ s11)))))))))))))))))))))))))))))))))))))))))))))))) | 26, _ => Or.inl (hM59 _ _ (hM58 _ _ (hM57 _ _ (hM56 _ _ (hM55 _ _ (hM54 _ _ (hM53 _ _ (hM52 _ _ (hM51 _ _ (hM50 _ _ (hM49 _ _ (hM48 _ _ (hM47 _ _ (hM46 _ _ (hM45 _ _ (hM44 _ _ (hM43 _ _ (hM42 _ _ (hM41 _ _ (hM40 _ _ (hM39 _ _ (hM38 _ _ (hM37 _ _ (hM36 _ _ (hM35 _ _ (hM34 _ _ (hM33 _ _ (hM32 _ _ (hM31 _ _ (hM30 _ _ (hM29 _ _ (hM28 _ _ (hM27 _ _ (hM26 _ _ (hM25 _ _ (hM24 _ _ (hM23 _ _ (hM22 _ _ (hM21 _ _ (hM20 _ _ (hM19 _ _ (hM18 _ _ (hM17 _ _ (hM16 _ _ (hM15 _ _ (hM14 _ _ (hM13 _ _ s12))))))))))))))))))))))))))))))))))))))))))))))) | 27, _ => Or.inl (hM59 _ _ (hM58 _ _ (hM57 _ _ (hM56 _ _ (hM55 _ _ (hM54 _ _ (hM53 _ _ (hM52 _ _ (hM51 _ _ (hM50 _ _ (hM49 _ _ (hM48 _ _ (hM47 _ _ (hM46 _ _ (hM45 _ _ (hM44 _ _ (hM43 _ _ (hM42 _ _ (hM41 _ _ (hM40 _ _ (hM39 _ _ (hM38 _ _ (hM37 _ _ (hM36 _ _ (hM35 _ _ (hM34 _ _ (hM33 _ _ (hM32 _ _ (hM31 _ _ (hM30 _ _ (hM29 _ _ (hM28 _ _ (hM27 _ _ (hM26 _ _ (hM25 _ _ (hM24 _ _ (hM23 _ _ (hM22 _ _ (hM21 _ _ (hM20 _ _ (hM19 _ _ (hM18 _ _ (hM17 _ _ (hM16 _ _ (hM15 _ _ (hM14 _ _ s13)))))))))))))))))))))))))))))))))))))))))))))) | 28, _ => Or.inl (hM59 _ _ (hM58 _ _ (hM57 _ _ (hM56 _ _ (hM55 _ _ (hM54 _ _ (hM53 _ _ (hM52 _ _ (hM51 _ _ (hM50 _ _ (hM49 _ _ (hM48 _ _ (hM47 _ _ (hM46 _ _ (hM45 _ _ (hM44 _ _ (hM43 _ _ (hM42 _ _ (hM41 _ _ (hM40 _ _ (hM39 _ _ (hM38 _ _ (hM37 _ _ (hM36 _ _ (hM35 _ _ (hM34 _ _ (hM33 _ _ (hM32 _ _ (hM31 _ _ (hM30 _ _ (hM29 _ _ (hM28 _ _ (hM27 _ _ (hM26 _ _ (hM25 _ _ (hM24 _ _ (hM23 _ _ (hM22 _ _ (hM21 _ _ (hM20 _ _ (hM19 _ _ (hM18 _ _ (hM17 _ _ (hM16 _ _ (hM15 _ _ s14))))))))))))))))))))))))))))))))))))))))))))) | 29, _ => Or.inl (hM59 _ _ (hM58 _ _ (hM57 _ _ (hM56 _ _ (hM55 _ _ (hM54 _ _ (hM53 _ _ (hM52 _ _ (hM51 _ _ (hM50 _ _ (hM49 _ _ (hM48 _ _ (hM47 _ _ (hM46 _ _ (hM45 _ _ (hM44 _ _ (hM43 _ _ (hM42 _ _ (hM41 _ _ (hM40 _ _ (hM39 _ _ (hM38 _ _ (hM37 _ _ (hM36 _ _ (hM35 _ _ (hM34 _ _ (hM33 _ _ (hM32 _ _ (hM31 _ _ (hM30 _ _ (hM29 _ _ (hM28 _ _ (hM27 _ _ (hM26 _ _ (hM25 _ _ (hM24 _ _ (hM23 _ _ (hM22 _ _ (hM21 _ _ (hM20 _ _ (hM19 _ _ (hM18 _ _ (hM17 _ _ (hM16 _ _ s15)))))))))))))))))))))))))))))))))))))))))))) | 30, _ => Or.inl (hM59 _ _ (hM58 _ _ (hM57 _ _ (hM56 _ _ (hM55 _ _ (hM54 _ _ (hM53 _ _ (hM52 _ _ (hM51 _ _ (hM50 _ _ (hM49 _ _ (hM48 _ _ (hM47 _ _ (hM46 _ _ (hM45 _ _ (hM44 _ _ (hM43 _ _ (hM42 _ _ (hM41 _ _ (hM40 _ _ (hM39 _ _ (hM38 _ _ (hM37 _ _ (hM36 _ _ (hM35 _ _ (hM34 _ _ (hM33 _ _ (hM32 _ _ (hM31 _ _ (hM30 _ _ (hM29 _ _ (hM28 _ _ (hM27 _ _ (hM26 _ _ (hM25 _ _ (hM24 _ _ (hM23 _ _ (hM22 _ _ (hM21 _ _ (hM20 _ _ (hM19 _ _ (hM18 _ _ (hM17 _ _ s16))))))))))))))))))))))))))))))))))))))))))) | 31, _ => Or.inl (hM59 _ _ (hM58 _ _ (hM57 _ _ (hM56 _ _ (hM55 _ _ (hM54 _ _ (hM53 _ _ (hM52 _ _ (hM51 _ _ (hM50 _ _ (hM49 _ _ (hM48 _ _ (hM47 _ _ (hM46 _ _ (hM45 _ _ (hM44 _ _ (hM43 _ _ (hM42 _ _ (hM41 _ _ (hM40 _ _ (hM39 _ _ (hM38 _ _ (hM37 _ _ (hM36 _ _ (hM35 _ _ (hM34 _ _ (hM33 _ _ (hM32 _ _ (hM31 _ _ (hM30 _ _ (hM29 _ _ (hM28 _ _ (hM27 _ _ (hM26 _ _ (hM25 _ _ (hM24 _ _ (hM23 _ _ (hM22 _ _ (hM21 _ _ (hM20 _ _ (hM19 _ _ (hM18 _ _ s17)))))))))))))))))))))))))))))))))))))))))) | 32, _ => Or.inl (hM59 _ _ (hM58 _ _ (hM57 _ _ (hM56 _ _ (hM55 _ _ (hM54 _ _ (hM53 _ _ (hM52 _ _ (hM51 _ _ (hM50 _ _ (hM49 _ _ (hM48 _ _ (hM47 _ _ (hM46 _ _ (hM45 _ _ (hM44 _ _ (hM43 _ _ (hM42 _ _ (hM41 _ _ (hM40 _ _ (hM39 _ _ (hM38 _ _ (hM37 _ _ (hM36 _ _ (hM35 _ _ (hM34 _ _ (hM33 _ _ (hM32 _ _ (hM31 _ _ (hM30 _ _ (hM29 _ _ (hM28 _ _ (hM27 _ _ (hM26 _ _ (hM25 _ _ (hM24 _ _ (hM23 _ _ (hM22 _ _ (hM21 _ _ (hM20 _ _ (hM19 _ _ s18))))))))))))))))))))))))))))))))))))))))) | 33, _ => Or.inl (hM59 _ _ (hM58 _ _ (hM57 _ _ (hM56 _ _ (hM55 _ _ (hM54 _ _ (hM53 _ _ (hM52 _ _ (hM51 _ _ (hM50 _ _ (hM49 _ _ (hM48 _ _ (hM47 _ _ (hM46 _ _ (hM45 _ _ (hM44 _ _ (hM43 _ _ (hM42 _ _ (hM41 _ _ (hM40 _ _ (hM39 _ _ (hM38 _ _ (hM37 _ _ (hM36 _ _ (hM35 _ _ (hM34 _ _ (hM33 _ _ (hM32 _ _ (hM31 _ _ (hM30 _ _ (hM29 _ _ (hM28 _ _ (hM27 _ _ (hM26 _ _ (hM25 _ _ (hM24 _ _ (hM23 _ _ (hM22 _ _ (hM21 _ _ (hM20 _ _ s19)))))))))))))))))))))))))))))))))))))))) | 34, _ => Or.inl (hM59 _ _ (hM58 _ _ (hM57 _ _ (hM56 _ _ (hM55 _ _ (hM54 _ _ (hM53 _ _ (hM52 _ _ (hM51 _ _ (hM50 _ _ (hM49 _ _ (hM48 _ _ (hM47 _ _ (hM46 _ _ (hM45 _ _ (hM44 _ _ (hM43 _ _ (hM42 _ _ (hM41 _ _ (hM40 _ _ (hM39 _ _ (hM38 _ _ (hM37 _ _ (hM36 _ _ (hM35 _ _ (hM34 _ _ (hM33 _ _ (hM32 _ _ (hM31 _ _ (hM30 _ _ (hM29 _ _ (hM28 _ _ (hM27 _ _ (hM26 _ _ (hM25 _ _ (hM24 _ _ (hM23 _ _ (hM22 _ _ (hM21 _ _ s20))))))))))))))))))))))))))))))))))))))) | 35, _ => Or.inr (by decide +kernel) | 36, _ => Or.inr (by decide +kernel) | 37, _ => Or.inr (by decide +kernel) | 38, _ => Or.inr (by decide +kernel) | 39, _ => Or.inr (by decide +kernel) | 40, _ => Or.inl (hM59 _ _ (hM58 _ _ (hM57 _ _ (hM56 _ _ (hM55 _ _ (hM54 _ _ (hM53 _ _ (hM52 _ _ (hM51 _ _ (hM50 _ _ (hM49 _ _ (hM48 _ _ (hM47 _ _ (hM46 _ _ (hM45 _ _ (hM44 _ _ (hM43 _ _ (hM42 _ _ (hM41 _ _ (hM40 _ _ (hM39 _ _ (hM38 _ _ (hM37 _ _ (hM36 _ _ (hM35 _ _ (hM34 _ _ (hM33 _ _ (hM32 _ _ (hM31 _ _ (hM30 _ _ (hM29 _ _ (hM28 _ _ (hM27 _ _ (hM26 _ _ (hM25 _ _ (hM24 _ _ (hM23 _ _ (hM22 _ _ s21)))))))))))))))))))))))))))))))))))))) | 41, _ => Or.inl (hM59 _ _ (hM58 _ _ (hM57 _ _ (hM56 _ _ (hM55 _ _ (hM54 _ _ (hM53 _ _ (hM52 _ _ (hM51 _ _ (hM50 _ _ (hM49 _ _ (hM48 _ _ (hM47 _ _ (hM46 _ _ (hM45 _ _ (hM44 _ _ (hM43 _ _ (hM42 _ _ (hM41 _ _ (hM40 _ _ (hM39 _ _ (hM38 _ _ (hM37 _ _ (hM36 _ _ (hM35 _ _ (hM34 _ _ (hM33 _ _ (hM32 _ _ (hM31 _ _ (hM30 _ _ (hM29 _ _ (hM28 _ _ (hM27 _ _ (hM26 _ _ (hM25 _ _ (hM24 _ _ (hM23 _ _ s22))))))))))))))))))))))))))))))))))))) | 42, _ => Or.inl (hM59 _ _ (hM58 _ _ (hM57 _ _ (hM56 _ _ (hM55 _ _ (hM54 _ _ (hM53 _ _ (hM52 _ _ (hM51 _ _ (hM50 _ _ (hM49 _ _ (hM48 _ _ (hM47 _ _ (hM46 _ _ (hM45 _ _ (hM44 _ _ (hM43 _ _ (hM42 _ _ (hM41 _ _ (hM40 _ _ (hM39 _ _ (hM38 _ _ (hM37 _ _ (hM36 _ _ (hM35 _ _ (hM34 _ _ (hM33 _ _ (hM32 _ _ (hM31 _ _ (hM30 _ _ (hM29 _ _ (hM28 _ _ (hM27 _ _ (hM26 _ _ (hM25 _ _ (hM24 _ _ s23)))))))))))))))))))))))))))))))))))) | 43, _ => Or.inl (hM59 _ _ (hM58 _ _ (hM57 _ _ (hM56 _ _ (hM55 _ _ (hM54 _ _ (hM53 _ _ (hM52 _ _ (hM51 _ _ (hM50 _ _ (hM49 _ _ (hM48 _ _ (hM47 _ _ (hM46 _ _ (hM45 _ _ (hM44 _ _ (hM43 _ _ (hM42 _ _ (hM41 _ _ (hM40 _ _ (hM39 _ _ (hM38 _ _ (hM37 _ _ (hM36 _ _ (hM35 _ _ (hM34 _ _ (hM33 _ _ (hM32 _ _ (hM31 _ _ (hM30 _ _ (hM29 _ _ (hM28 _ _ (hM27 _ _ (hM26 _ _ (hM25 _ _ s24))))))))))))))))))))))))))))))))))) | 44, _ => Or.inl (hM59 _ _ (hM58 _ _ (hM57 _ _ (hM56 _ _ (hM55 _ _ (hM54 _ _ (hM53 _ _ (hM52 _ _ (hM51 _ _ (hM50 _ _ (hM49 _ _ (hM48 _ _ (hM47 _ _ (hM46 _ _ (hM45 _ _ (hM44 _ _ (hM43 _ _ (hM42 _ _ (hM41 _ _ (hM40 _ _ (hM39 _ _ (hM38 _ _ (hM37 _ _ (hM36 _ _ (hM35 _ _ (hM34 _ _ (hM33 _ _ (hM32 _ _ (hM31 _ _ (hM30 _ _ (hM29 _ _ (hM28 _ _ (hM27 _ _ (hM26 _ _ s25)))))))))))))))))))))))))))))))))) | 45, _ => Or.inl (hM59 _ _ (hM58 _ _ (hM57 _ _ (hM56 _ _ (hM55 _ _ (hM54 _ _ (hM53 _ _ (hM52 _ _ (hM51 _ _ (hM50 _ _ (hM49 _ _ (hM48 _ _ (hM47 _ _ (hM46 _ _ (hM45 _ _ (hM44 _ _ (hM43 _ _ (hM42 _ _ (hM41 _ _ (hM40 _ _ (hM39 _ _ (hM38 _ _ (hM37 _ _ (hM36 _ _ (hM35 _ _ (hM34 _ _ (hM33 _ _ (hM32 _ _ (hM31 _ _ (hM30 _ _ (hM29 _ _ (hM28 _ _ (hM27 _ _ s26))))))))))))))))))))))))))))))))) | 46, _ => Or.inl (hM59 _ _ (hM58 _ _ (hM57 _ _ (hM56 _ _ (hM55 _ _ (hM54 _ _ (hM53 _ _ (hM52 _ _ (hM51 _ _ (hM50 _ _ (hM49 _ _ (hM48 _ _ (hM47 _ _ (hM46 _ _ (hM45 _ _ (hM44 _ _ (hM43 _ _ (hM42 _ _ (hM41 _ _ (hM40 _ _ (hM39 _ _ (hM38 _ _ (hM37 _ _ (hM36 _ _ (hM35 _ _ (hM34 _ _ (hM33 _ _ (hM32 _ _ (hM31 _ _ (hM30 _ _ (hM29 _ _ (hM28 _ _ s27)))))))))))))))))))))))))))))))) | 47, _ => Or.inr (by decide +kernel) | 48, _ => Or.inr (by decide +kernel) | 49, _ => Or.inr (by decide +kernel) | 50, _ => Or.inr (by decide +kernel) | 51, _ => Or.inr (by decide +kernel) | 52, _ => Or.inl (hM59 _ _ (hM58 _ _ (hM57 _ _ (hM56 _ _ (hM55 _ _ (hM54 _ _ (hM53 _ _ (hM52 _ _ (hM51 _ _ (hM50 _ _ (hM49 _ _ (hM48 _ _ (hM47 _ _ (hM46 _ _ (hM45 _ _ (hM44 _ _ (hM43 _ _ (hM42 _ _ (hM41 _ _ (hM40 _ _ (hM39 _ _ (hM38 _ _ (hM37 _ _ (hM36 _ _ (hM35 _ _ (hM34 _ _ (hM33 _ _ (hM32 _ _ (hM31 _ _ (hM30 _ _ (hM29 _ _ s28))))))))))))))))))))))))))))))) | 53, _ => Or.inl (hM59 _ _ (hM58 _ _ (hM57 _ _ (hM56 _ _ (hM55 _ _ (hM54 _ _ (hM53 _ _ (hM52 _ _ (hM51 _ _ (hM50 _ _ (hM49 _ _ (hM48 _ _ (hM47 _ _ (hM46 _ _ (hM45 _ _ (hM44 _ _ (hM43 _ _ (hM42 _ _ (hM41 _ _ (hM40 _ _ (hM39 _ _ (hM38 _ _ (hM37 _ _ (hM36 _ _ (hM35 _ _ (hM34 _ _ (hM33 _ _ (hM32 _ _ (hM31 _ _ (hM30 _ _ s29)))))))))))))))))))))))))))))) | 54, _ => Or.inl (hM59 _ _ (hM58 _ _ (hM57 _ _ (hM56 _ _ (hM55 _ _ (hM54 _ _ (hM53 _ _ (hM52 _ _ (hM51 _ _ (hM50 _ _ (hM49 _ _ (hM48 _ _ (hM47 _ _ (hM46 _ _ (hM45 _ _ (hM44 _ _ (hM43 _ _ (hM42 _ _ (hM41 _ _ (hM40 _ _ (hM39 _ _ (hM38 _ _ (hM37 _ _ (hM36 _ _ (hM35 _ _ (hM34 _ _ (hM33 _ _ (hM32 _ _ (hM31 _ _ s30))))))))))))))))))))))))))))) | 55, _ => Or.inl (hM59 _ _ (hM58 _ _ (hM57 _ _ (hM56 _ _ (hM55 _ _ (hM54 _ _ (hM53 _ _ (hM52 _ _ (hM51 _ _ (hM50 _ _ (hM49 _ _ (hM48 _ _ (hM47 _ _ (hM46 _ _ (hM45 _ _ (hM44 _ _ (hM43 _ _ (hM42 _ _ (hM41 _ _ (hM40 _ _ (hM39 _ _ (hM38 _ _ (hM37 _ _ (hM36 _ _ (hM35 _ _ (hM34 _ _ (hM33 _ _ (hM32 _ _ s31)))))))))))))))))))))))))))) | 56, _ => Or.inl (hM59 _ _ (hM58 _ _ (hM57 _ _ (hM56 _ _ (hM55 _ _ (hM54 _ _ (hM53 _ _ (hM52 _ _ (hM51 _ _ (hM50 _ _ (hM49 _ _ (hM48 _ _ (hM47 _ _ (hM46 _ _ (hM45 _ _ (hM44 _ _ (hM43 _ _ (hM42 _ _ (hM41 _ _ (hM40 _ _ (hM39 _ _ (hM38 _ _ (hM37 _ _ (hM36 _ _ (hM35 _ _ (hM34 _ _ (hM33 _ _ s32))))))))))))))))))))))))))) | 57, _ => Or.inl (hM59 _ _ (hM58 _ _ (hM57 _ _ (hM56 _ _ (hM55 _ _ (hM54 _ _ (hM53 _ _ (hM52 _ _ (hM51 _ _ (hM50 _ _ (hM49 _ _ (hM48 _ _ (hM47 _ _ (hM46 _ _ (hM45 _ _ (hM44 _ _ (hM43 _ _ (hM42 _ _ (hM41 _ _ (hM40 _ _ (hM39 _ _ (hM38 _ _ (hM37 _ _ (hM36 _ _ (hM35 _ _ (hM34 _ _ s33)))))))))))))))))))))))))) | 58, _ => Or.inl (hM59 _ _ (hM58 _ _ (hM57 _ _ (hM56 _ _ (hM55 _ _ (hM54 _ _ (hM53 _ _ (hM52 _ _ (hM51 _ _ (hM50 _ _ (hM49 _ _ (hM48 _ _ (hM47 _ _ (hM46 _ _ (hM45 _ _ (hM44 _ _ (hM43 _ _ (hM42 _ _ (hM41 _ _ (hM40 _ _ (hM39 _ _ (hM38 _ _ (hM37 _ _ (hM36 _ _ (hM35 _ _ s34))))))))))))))))))))))))) | 59, _ => Or.inl (hM59 _ _ (hM58 _ _ (hM57 _ _ (hM56 _ _ (hM55 _ _ (hM54 _ _ (hM53 _ _ (hM52 _ _ (hM51 _ _ (hM50 _ _ (hM49 _ _ (hM48 _ _ (hM47 _ _ (hM46 _ _ (hM45 _ _ (hM44 _ _ (hM43 _ _ (hM42 _ _ (hM41 _ _ (hM40 _ _ (hM39 _ _ (hM38 _ _ (hM37 _ _ (hM36 _ _ s35)))))))))))))))))))))))) | 60, _ => Or.inl (hM59 _ _ (hM58 _ _ (hM57 _ _ (hM56 _ _ (hM55 _ _ (hM54 _ _ (hM53 _ _ (hM52 _ _ (hM51 _ _ (hM50 _ _ (hM49 _ _ (hM48 _ _ (hM47 _ _ (hM46 _ _ (hM45 _ _ (hM44 _ _ (hM43 _ _ (hM42 _ _ (hM41 _ _ (hM40 _ _ (hM39 _ _ (hM38 _ _ (hM37 _ _ s36))))))))))))))))))))))) | 61, _ => Or.inl (hM59 _ _ (hM58 _ _ (hM57 _ _ (hM56 _ _ (hM55 _ _ (hM54 _ _ (hM53 _ _ (hM52 _ _ (hM51 _ _ (hM50 _ _ (hM49 _ _ (hM48 _ _ (hM47 _ _ (hM46 _ _ (hM45 _ _ (hM44 _ _ (hM43 _ _ (hM42 _ _ (hM41 _ _ (hM40 _ _ (hM39 _ _ (hM38 _ _ s37)))))))))))))))))))))) | 62, _ => Or.inl (hM59 _ _ (hM58 _ _ (hM57 _ _ (hM56 _ _ (hM55 _ _ (hM54 _ _ (hM53 _ _ (hM52 _ _ (hM51 _ _ (hM50 _ _ (hM49 _ _ (hM48 _ _ (hM47 _ _ (hM46 _ _ (hM45 _ _ (hM44 _ _ (hM43 _ _ (hM42 _ _ (hM41 _ _ (hM40 _ _ (hM39 _ _ s38))))))))))))))))))))) | 63, _ => Or.inl (hM59 _ _ (hM58 _ _ (hM57 _ _ (hM56 _ _ (hM55 _ _ (hM54 _ _ (hM53 _ _ (hM52 _ _ (hM51 _ _ (hM50 _ _ (hM49 _ _ (hM48 _ _ (hM47 _ _ (hM46 _ _ (hM45 _ _ (hM44 _ _ (hM43 _ _ (hM42 _ _ (hM41 _ _ (hM40 _ _ s39)))))))))))))))))))) | 64, _ => Or.inr (by decide +kernel) | 65, _ => Or.inr (by decide +kernel) | 66, _ => Or.inl (hM59 _ _ (hM58 _ _ (hM57 _ _ (hM56 _ _ (hM55 _ _ (hM54 _ _ (hM53 _ _ (hM52 _ _ (hM51 _ _ (hM50 _ _ (hM49 _ _ (hM48 _ _ (hM47 _ _ (hM46 _ _ (hM45 _ _ (hM44 _ _ (hM43 _ _ (hM42 _ _ (hM41 _ _ s40))))))))))))))))))) | 67, _ => Or.inl (hM59 _ _ (hM58 _ _ (hM57 _ _ (hM56 _ _ (hM55 _ _ (hM54 _ _ (hM53 _ _ (hM52 _ _ (hM51 _ _ (hM50 _ _ (hM49 _ _ (hM48 _ _ (hM47 _ _ (hM46 _ _ (hM45 _ _ (hM44 _ _ (hM43 _ _ (hM42 _ _ s41)))))))))))))))))) | 68, _ => Or.inl (hM59 _ _ (hM58 _ _ (hM57 _ _ (hM56 _ _ (hM55 _ _ (hM54 _ _ (hM53 _ _ (hM52 _ _ (hM51 _ _ (hM50 _ _ (hM49 _ _ (hM48 _ _ (hM47 _ _ (hM46 _ _ (hM45 _ _ (hM44 _ _ (hM43 _ _ s42))))))))))))))))) | 69, _ => Or.inl (hM59 _ _ (hM58 _ _ (hM57 _ _ (hM56 _ _ (hM55 _ _ (hM54 _ _ (hM53 _ _ (hM52 _ _ (hM51 _ _ (hM50 _ _ (hM49 _ _ (hM48 _ _ (hM47 _ _ (hM46 _ _ (hM45 _ _ (hM44 _ _ s43)))))))))))))))) | 70, _ => Or.inl (hM59 _ _ (hM58 _ _ (hM57 _ _ (hM56 _ _ (hM55 _ _ (hM54 _ _ (hM53 _ _ (hM52 _ _ (hM51 _ _ (hM50 _ _ (hM49 _ _ (hM48 _ _ (hM47 _ _ (hM46 _ _ (hM45 _ _ s44))))))))))))))) | 71, _ => Or.inl (hM59 _ _ (hM58 _ _ (hM57 _ _ (hM56 _ _ (hM55 _ _ (hM54 _ _ (hM53 _ _ (hM52 _ _ (hM51 _ _ (hM50 _ _ (hM49 _ _ (hM48 _ _ (hM47 _ _ (hM46 _ _ s45)))))))))))))) | 72, _ => Or.inl (hM59 _ _ (hM58 _ _ (hM57 _ _ (hM56 _ _ (hM55 _ _ (hM54 _ _ (hM53 _ _ (hM52 _ _ (hM51 _ _ (hM50 _ _ (hM49 _ _ (hM48 _ _ (hM47 _ _ s46))))))))))))) | 73, _ => Or.inl (hM59 _ _ (hM58 _ _ (hM57 _ _ (hM56 _ _ (hM55 _ _ (hM54 _ _ (hM53 _ _ (hM52 _ _ (hM51 _ _ (hM50 _ _ (hM49 _ _ (hM48 _ _ s47)))))))))))) | 74, _ => Or.inl (hM59 _ _ (hM58 _ _ (hM57 _ _ (hM56 _ _ (hM55 _ _ (hM54 _ _ (hM53 _ _ (hM52 _ _ (hM51 _ _ (hM50 _ _ (hM49 _ _ s48))))))))))) | 75, _ => Or.inr (by decide +kernel) | 76, _ => Or.inl (hM59 _ _ (hM58 _ _ (hM57 _ _ (hM56 _ _ (hM55 _ _ (hM54 _ _ (hM53 _ _ (hM52 _ _ (hM51 _ _ (hM50 _ _ s49)))))))))) | 77, _ => Or.inr (by decide +kernel) | 78, _ => Or.inl (hM59 _ _ (hM58 _ _ (hM57 _ _ (hM56 _ _ (hM55 _ _ (hM54 _ _ (hM53 _ _ (hM52 _ _ (hM51 _ _ s50))))))))) | 79, _ => Or.inl (hM59 _ _ (hM58 _ _ (hM57 _ _ (hM56 _ _ (hM55 _ _ (hM54 _ _ (hM53 _ _ (hM52 _ _ s51)))))))) | 80, _ => Or.inl (hM59 _ _ (hM58 _ _ (hM57 _ _ (hM56 _ _ (hM55 _ _ (hM54 _ _ (hM53 _ _ s52))))))) | 81, _ => Or.inl (hM59 _ _ (hM58 _ _ (hM57 _ _ (hM56 _ _ (hM55 _ _ (hM54 _ _ s53)))))) | 82, _ => Or.inl (hM59 _ _ (hM58 _ _ (hM57 _ _ (hM56 _ _ (hM55 _ _ s54))))) | 83, _ => Or.inl (hM59 _ _ (hM58 _ _ (hM57 _ _ (hM56 _ _ s55)))) | 84, _ => Or.inl (hM59 _ _ (hM58 _ _ (hM57 _ _ s56))) | 85, _ => Or.inl (hM59 _ _ (hM58 _ _ s57)) | 86, _ => Or.inl (hM59 _ _ s58) | 87, _ => Or.inr (by decide +kernel) | 88, _ => Or.inr (by decide +kernel) | 89, _ => Or.inl s59 | j + 90, hl => absurd hl (by omega)) (by omega) (by omega)) (yD_app (a := (467 : Int)) (b := (468 : Int)) (yD_num' hJ59 (a := 467) (Or.inr (Or.inr (by decide +kernel))) (by omega) (by omega)) (yD_app (a := (468 : Int)) (b := (469 : Int)) (yD_num' hJ59 (a := 468) (Or.inr (Or.inl (by decide +kernel))) (by omega) (by omega)) (yD_app (a := (469 : Int)) (b := (470 : Int)) (yD_num' hJ59 (a := 469) (Or.inl (by decide +kernel)) (by omega) (by omega)) (yD_app (a := (470 : Int)) (b := (471 : Int)) (yD_num' hJ59 (a := 470) (Or.inl (by decide +kernel)) (by omega) (by omega)) (yD_app (a := (471 : Int)) (b := (472 : Int)) (yD_num' hJ59 (a := 471) (Or.inl (by decide +kernel)) (by omega) (by omega)) (yD_app (a := (472 : Int)) (b := (473 : Int)) (yD_num' hJ59 (a := 472) (Or.inl (by decide +kernel)) (by omega) (by omega)) (yD_app (a := (473 : Int)) (b := (474 : Int)) (yD_num' hJ59 (a := 473) (Or.inl (by decide +kernel)) (by omega) (by omega)) (yD_app (a := (474 : Int)) (b := (475 : Int)) (yD_num' hJ59 (a := 474) (Or.inr (Or.inl (by decide +kernel))) (by omega) (by omega)) (yD_app (a := (475 : Int)) (b := (476 : Int)) (yD_num' hJ59 (a := 475) (Or.inl (by decide +kernel)) (by omega) (by omega)) (yD_app (a := (476 : Int)) (b := (477 : Int)) (yD_num' hJ59 (a := 476) (Or.inl (by decide +kernel)) (by omega) (by omega)) (yD_app (a := (477 : Int)) (b := (478 : Int)) (yD_num' hJ59 (a := 477) (Or.inl (by decide +kernel)) (by omega) (by omega)) (yD_app (a := (478 : Int)) (b := (479 : Int)) (yD_num' hJ59 (a := 478) (Or.inl (by decide +kernel)) (by omega) (by omega)) (yD_app (a := (479 : Int)) (b := (480 : Int)) (yD_num' hJ59 (a := 479) (Or.inl (by decide +kernel)) (by omega) (by omega)) (yD_app (a := (480 : Int)) (b := (481 : Int)) (yD_num' hJ59 (a := 480) (Or.inl (by decide +kernel)) (by omega) (by omega)) (yD_app (a := (481 : Int)) (b := (482 : Int)) (yD_num' hJ59 (a := 481) (Or.inl (by decide +kernel)) (by omega) (by omega)) (yD_app (a := (482 : Int)) (b := (483 : Int)) (yD_num' hJ59 (a := 482) (Or.inl (by decide +kernel)) (by omega) (by omega)) (yD_app (a := (483 : Int)) (b := (484 : Int)) (yD_num' hJ59 (a := 483) (Or.inl (by decide +kernel)) (by omega) (by omega)) (yD_app (a := (484 : Int)) (b := (485 : Int)) (yD_num' hJ59 (a := 484) (Or.inl (by decide +kernel)) (by omega) (by omega)) (yD_app (a := (485 : Int)) (b := (486 : Int)) (yD_num' hJ59 (a := 485) (Or.inr (Or.inl (by decide +kernel))) (by omega) (by omega)) (yD_app (a := (486 : Int)) (b := (487 : Int)) (yD_num' hJ59 (a := 486) (Or.inl (by decide +kernel)) (by omega) (by omega)) (yD_app (a := (487 : Int)) (b := (488 : Int)) (yD_num' hJ59 (a := 487) (Or.inl (by decide +kernel)) (by omega) (by omega)) (yD_app (a := (488 : Int)) (b := (489 : Int)) (yD_num' hJ59 (a := 488) (Or.inl (by decide +kernel)) (by omega) (by omega)) (yD_app (a := (489 : Int)) (b := (490 : Int)) (yD_num' hJ59 (a := 489) (Or.inl (by decide +kernel)) (by omega) (by omega)) (yD_app (a := (490 : Int)) (b := (491 : Int)) (yD_num' hJ59 (a := 490) (Or.inl (by decide +kernel)) (by omega) (by omega)) (yD_app (a := (491 : Int)) (b := (492 : Int)) (yD_num' hJ59 (a := 491) (Or.inl (by decide +kernel)) (by omega) (by omega)) (yD_app (a := (492 : Int)) (b := (493 : Int)) (yD_num' hJ59 (a := 492) (Or.inl (by decide +kernel)) (by omega) (by omega)) (yD_app (a := (493 : Int)) (b := (494 : Int)) (yD_num' hJ59 (a := 493) (Or.inl (by decide +kernel)) (by omega) (by omega)) (yD_app (a := (494 : Int)) (b := (495 : Int)) (yD_num' hJ59 (a := 494) (Or.inl (by decide +kernel)) (by omega) (by omega)) (yD_app (a := (495 : Int)) (b := (496 : Int)) (yD_num' hJ59 (a := 495) (Or.inl (by decide +kernel)) (by omega) (by omega)) (yD_app (a := (496 : Int)) (b := (497 : Int)) (yD_num' hJ59 (a := 496) (Or.inl (by decide +kernel)) (by omega) (by omega)) (yD_app (a := (497 : Int)) (b := (498 : Int)) (yD_num' hJ59 (a := 497) (Or.inl (by decide +kernel)) (by omega) (by omega)) (yD_app (a := (498 : Int)) (b := (499 : Int)) (yD_num' hJ59 (a := 498) (Or.inl (by decide +kernel)) (by omega) (by omega)) (yD_app (a := (499 : Int)) (b := (500 : Int)) (yD_num' hJ59 (a := 499) (Or.inl (by decide +kernel)) (by omega) (by omega)) (yD_app (a := (500 : Int)) (b := (501 : Int)) (yD_num' hJ59 (a := 500) (Or.inl (by decide +kernel)) (by omega) (by omega)) (yD_app (a := (501 : Int)) (b := (502 : Int)) (yD_num' hJ59 (a := 501) (Or.inl (by decide +kernel)) (by omega) (by omega)) (yD_app (a := (502 : Int)) (b := (503 : Int)) (yD_num' hJ59 (a := 502) (Or.inr (Or.inl (by decide +kernel))) (by omega) (by omega)) (yD_app (a := (503 : Int)) (b := (504 : Int)) (yD_num' hJ59 (a := 503) (Or.inr (Or.inl (by decide +kernel))) (by omega) (by omega)) (yD_app (a := (504 : Int)) (b := (505 : Int)) (yD_num' hJ59 (a := 504) (Or.inr (Or.inl (by decide +kernel))) (by omega) (by omega)) (yD_app (a := (505 : Int)) (b := (506 : Int)) (yD_num' hJ59 (a := 505) (Or.inr (Or.inl (by decide +kernel))) (by omega) (by omega)) (yD_app (a := (506 : Int)) (b := (507 : Int)) (yD_num' hJ59 (a := 506) (Or.inl (by decide +kernel)) (by omega) (by omega)) (yD_app (a := (507 : Int)) (b := (508 : Int)) (yD_num' hJ59 (a := 507) (Or.inl (by decide +kernel)) (by omega) (by omega)) (yD_app (a := (508 : Int)) (b := (509 : Int)) (yD_num' hJ59 (a := 508) (Or.inl (by decide +kernel)) (by omega) (by omega)) (yD_app (a := (509 : Int)) (b := (510 : Int)) (yD_num' hJ59 (a := 509) (Or.inl (by decide +kernel)) (by omega) (by omega)) (yD_app (a := (510 : Int)) (b := (511 : Int)) (yD_num' hJ59 (a := 510) (Or.inl (by decide +kernel)) (by omega) (by omega)) (yD_app (a := (511 : Int)) (b := (512 : Int)) (yD_num' hJ59 (a := 511) (Or.inl (by decide +kernel)) (by omega) (by omega)) (yD_app (a := (512 : Int)) (b := (513 : Int)) (yD_num' hJ59 (a := 512) (Or.inl (by decide +kernel)) (by omega) (by omega)) (yD_app (a := (513 : Int)) (b := (514 : Int)) (yD_num' hJ59 (a := 513) (Or.inl (by decide +kernel)) (by omega) (by omega)) (yD_app (a := (514 : Int)) (b := (515 : Int)) (yD_num' hJ59 (a := 514) (Or.inl (by decide +kernel)) (by omega) (by omega)) (yD_app (a := (515 : Int)) (b := (516 : Int)) (yD_num' hJ59 (a := 515) (Or.inr (Or.inl (by decide +kernel))) (by omega) (by omega)) (yD_app (a := (516 : Int)) (b := (517 : Int)) (yD_num' hJ59 (a := 516) (Or.inl (by decide +kernel)) (by omega) (by omega)) (yD_app (a := (517 : Int)) (b := (518 : Int)) (yD_num' hJ59 (a := 517) (Or.inl (by decide +kernel)) (by omega) (by omega)) (yD_app (a := (518 : Int)) (b := (519 : Int)) (yD_num' hJ59 (a := 518) (Or.inl (by decide +kernel)) (by omega) (by omega)) (yD_app (a := (519 : Int)) (b := (520 : Int)) (yD_num' hJ59 (a := 519) (Or.inl (by decide +kernel)) (by omega) (by omega)) (yD_app (a := (520 : Int)) (b := (521 : Int)) (yD_num' hJ59 (a := 520) (Or.inl (by decide +kernel)) (by omega) (by omega)) (yD_app (a := (521 : Int)) (b := (522 : Int)) (yD_num' hJ59 (a := 521) (Or.inl (by decide +kernel)) (by omega) (by omega)) (yD_app (a := (522 : Int)) (b := (523 : Int)) (yD_num' hJ59 (a := 522) (Or.inl (by decide +kernel)) (by omega) (by omega)) (yD_app (a := (523 : Int)) (b := (524 : Int)) (yD_num' hJ59 (a := 523) (Or.inl (by decide +kernel)) (by omega) (by omega)) (show yD _ (524 : Int) (525 : Int) from yD_num' hJ59 (a := 524) (Or.inl (by decide +kernel)) (by omega) (by omega)))))))))))))))))))))))))))))))))))))))))))))))))))))))))))) (by omega) (by omega)⟩
set_option maxHeartbeats 4000000 in
theorem y_X4 {G : zG} {d : Nat} {a : Nat} (ha : a ∈ zids4) {h : zH} (hJ : yJ h) : yC G (d + 2) 18 8080 mX4_init [vr 4 a] ((a + 1), h) (yQ h a (a + 19)) := by
  refine y_entry (L := [some (vr 4 (a : Int))]) (by decide +kernel) (Nat.le_of_ble_eq_true rfl) rfl ?_
  refine y_aload_n 0 dX4_init_0 rfl rfl (Nat.le_of_ble_eq_true rfl) rfl ?_
  refine y_obj (ci := 4) ⟨koX4_3, kobj.1, kobj.2⟩ (by decide) dX4_init_1 ⟨by show 1 ≤ d + 2; omega, (by show _ ≤ 64 * (d + 2); rw [show zcat _ = 0 from rfl]; omega)⟩ rfl ?_
  refine y_aload_n 0 dX4_init_4 rfl rfl (Nat.le_of_ble_eq_true rfl) rfl ?_
  refine y_sipush dX4_init_5 rfl rfl ?_
  refine y_newI karr_int dX4_init_8 (N := 160) (r := (((a + 1) : Nat) : Int)) ⟨(by have := yid4 ha; omega), (yk4_1 ha).1, (yk4_1 ha).2, rfl⟩ ⟨by show _ ≤ 18; omega, by show _ ≤ 8080; omega⟩ rfl rfl ?_
  refine y_set 4 13 pX4_9 rfl rfl (by decide) dX4_init_10 (by omega) hJ (yi4_0 ha) rfl (fun h1 hJ1 hM1 s1 => ?_)
  refine y_aload_n 0 dX4_init_13 rfl rfl (Nat.le_of_ble_eq_true rfl) rfl ?_
  refine y_sipush dX4_init_14 rfl rfl ?_
  refine y_newI karr_int dX4_init_17 (N := 160) (r := (((a + 2) : Nat) : Int)) ⟨(by have := yid4 ha; omega), (yk4_2 ha).1, (yk4_2 ha).2, rfl⟩ ⟨by show _ ≤ 18; omega, by show _ ≤ 8080; omega⟩ rfl rfl ?_
  refine y_set 4 13 pX4_15 rfl rfl (by decide) dX4_init_19 (by omega) hJ1 (yi4_1 ha) rfl (fun h2 hJ2 hM2 s2 => ?_)
  refine y_aload_n 0 dX4_init_22 rfl rfl (Nat.le_of_ble_eq_true rfl) rfl ?_
  refine y_sipush dX4_init_23 rfl rfl ?_
  refine y_newJ karr_long dX4_init_26 (N := 320) (r := (((a + 3) : Nat) : Int)) ⟨(by have := yid4 ha; omega), (yk4_3 ha).1, (yk4_3 ha).2, rfl⟩ ⟨by show _ ≤ 18; omega, by show _ ≤ 8080; omega⟩ rfl rfl ?_
  refine y_set 4 14 pX4_18 rfl rfl (by decide) dX4_init_28 (by omega) hJ2 (yi4_2 ha) rfl (fun h3 hJ3 hM3 s3 => ?_)
  refine y_aload_n 0 dX4_init_31 rfl rfl (Nat.le_of_ble_eq_true rfl) rfl ?_
  refine y_bipush dX4_init_32 rfl rfl ?_
  refine y_newI karr_int dX4_init_34 (N := 64) (r := (((a + 4) : Nat) : Int)) ⟨(by have := yid4 ha; omega), (yk4_4 ha).1, (yk4_4 ha).2, rfl⟩ ⟨by show _ ≤ 18; omega, by show _ ≤ 8080; omega⟩ rfl rfl ?_
  refine y_set 4 13 pX4_22 rfl rfl (by decide) dX4_init_36 (by omega) hJ3 (yi4_3 ha) rfl (fun h4 hJ4 hM4 s4 => ?_)
  refine y_aload_n 0 dX4_init_39 rfl rfl (Nat.le_of_ble_eq_true rfl) rfl ?_
  refine y_bipush dX4_init_40 rfl rfl ?_
  refine y_newI karr_int dX4_init_42 (N := 64) (r := (((a + 5) : Nat) : Int)) ⟨(by have := yid4 ha; omega), (yk4_5 ha).1, (yk4_5 ha).2, rfl⟩ ⟨by show _ ≤ 18; omega, by show _ ≤ 8080; omega⟩ rfl rfl ?_
  refine y_set 4 13 pX4_25 rfl rfl (by decide) dX4_init_44 (by omega) hJ4 (yi4_4 ha) rfl (fun h5 hJ5 hM5 s5 => ?_)
  refine y_aload_n 0 dX4_init_47 rfl rfl (Nat.le_of_ble_eq_true rfl) rfl ?_
  refine y_sipush dX4_init_48 rfl rfl ?_
  refine y_newI karr_int dX4_init_51 (N := 128) (r := (((a + 6) : Nat) : Int)) ⟨(by have := yid4 ha; omega), (yk4_6 ha).1, (yk4_6 ha).2, rfl⟩ ⟨by show _ ≤ 18; omega, by show _ ≤ 8080; omega⟩ rfl rfl ?_
  refine y_set 4 13 pX4_28 rfl rfl (by decide) dX4_init_53 (by omega) hJ5 (yi4_5 ha) rfl (fun h6 hJ6 hM6 s6 => ?_)
  refine y_aload_n 0 dX4_init_56 rfl rfl (Nat.le_of_ble_eq_true rfl) rfl ?_
  refine y_new 7 (r := (((a + 7) : Nat) : Int)) zc7 ydef7 kcX4_31 nX7_init.1 nX7_init.2 dX4_init_57 ⟨(by have := yid4 ha; omega), (yk4_7 ha).1⟩ ⟨by show _ ≤ 18; omega, by show _ ≤ 8080; omega⟩ rfl rfl ?_
  refine y_dup dX4_init_60 (fun q => by cases q) rfl ?_
  refine y_callIN (ci := 7) (d := d + 1) (mc := 11) (ms := 7168) (host := "RangedMachines") iX7_init (by decide) (by decide +kernel) dX4_init_61 rfl ⟨by show d + 1 + 1 ≤ d + 2; omega, by show 64 * (d + 1 + 1) ≤ 64 * (d + 2); omega, by show _ ≤ 18; omega, by show _ ≤ 8080; omega⟩ (as := []) (rest := [vr 7 (((a + 7) : Nat) : Int), vr 4 (a : Int)]) (Nat.le_of_ble_eq_true rfl) rfl rfl (yC_mono (fun h9 q9 => ?_) (y_X7 (d := d) (a := (a + 7)) (yin4_7_7 ha) hJ6))
  obtain ⟨n9, h7⟩ := h9
  obtain ⟨e9, hJ7, hM7, hD7⟩ := q9
  dsimp only at e9 hJ7 hM7 hD7
  subst e9
  refine ⟨by show _ = _ + _; omega, ?_⟩
  refine y_set 4 7 pX4_34 rfl rfl (by decide) dX4_init_64 (by omega) hJ7 (yi4_6 ha) rfl (fun h8 hJ8 hM8 s8 => ?_)
  refine y_kcs (kc' := 18) (ks' := 8080) (by omega) (by omega) ?_
  exact y_return rfl dX4_init_67 ⟨by omega, hJ8, (yM_tr (yM_tr (yM_tr (yM_tr (yM_tr (yM_tr (yM_tr hM1 hM2) hM3) hM4) hM5) hM6) hM7) hM8), yD_eq (yD_app (a := ((a : Nat) : Int)) (b := (((a + 1) : Nat) : Int)) (yD_obj' hJ8 (a := a) (fun j hj => have hl : j < 12 := (by have := (yk4_0 ha).2; omega); match j, hl with | 0, _ => Or.inl (hM8 _ _ (hM7 _ _ (hM6 _ _ (hM5 _ _ (hM4 _ _ (hM3 _ _ (hM2 _ _ s1))))))) | 1, _ => Or.inl (hM8 _ _ (hM7 _ _ (hM6 _ _ (hM5 _ _ (hM4 _ _ (hM3 _ _ s2)))))) | 2, _ => Or.inl (hM8 _ _ (hM7 _ _ (hM6 _ _ (hM5 _ _ (hM4 _ _ s3))))) | 3, _ => Or.inl (hM8 _ _ (hM7 _ _ (hM6 _ _ (hM5 _ _ s4)))) | 4, _ => Or.inl (hM8 _ _ (hM7 _ _ (hM6 _ _ s5))) | 5, _ => Or.inl (hM8 _ _ (hM7 _ _ s6)) | 6, _ => Or.inl s8 | 7, _ => Or.inr (yb4 ha 7 (by decide)) | 8, _ => Or.inr (yb4 ha 8 (by decide)) | 9, _ => Or.inr (yb4 ha 9 (by decide)) | 10, _ => Or.inr (yb4 ha 10 (by decide)) | 11, _ => Or.inr (yb4 ha 11 (by decide)) | j + 12, hl => absurd hl (by omega)) (by omega) (by omega)) (yD_app (a := (((a + 1) : Nat) : Int)) (b := (((a + 2) : Nat) : Int)) (yD_num' hJ8 (a := (a + 1)) (Or.inl (yk4_1 ha).1) (by omega) (by omega)) (yD_app (a := (((a + 2) : Nat) : Int)) (b := (((a + 3) : Nat) : Int)) (yD_num' hJ8 (a := (a + 2)) (Or.inl (yk4_2 ha).1) (by omega) (by omega)) (yD_app (a := (((a + 3) : Nat) : Int)) (b := (((a + 4) : Nat) : Int)) (yD_num' hJ8 (a := (a + 3)) (Or.inr (Or.inl (yk4_3 ha).1)) (by omega) (by omega)) (yD_app (a := (((a + 4) : Nat) : Int)) (b := (((a + 5) : Nat) : Int)) (yD_num' hJ8 (a := (a + 4)) (Or.inl (yk4_4 ha).1) (by omega) (by omega)) (yD_app (a := (((a + 5) : Nat) : Int)) (b := (((a + 6) : Nat) : Int)) (yD_num' hJ8 (a := (a + 5)) (Or.inl (yk4_5 ha).1) (by omega) (by omega)) (yD_app (a := (((a + 6) : Nat) : Int)) (b := (((a + 7) : Nat) : Int)) (yD_num' hJ8 (a := (a + 6)) (Or.inl (yk4_6 ha).1) (by omega) (by omega)) (show yD _ (((a + 7) : Nat) : Int) (((a + 19) : Nat) : Int) from yD_eq (yD_M hD7 hM8) (by omega) (by omega))))))))) (by omega) (by omega)⟩
