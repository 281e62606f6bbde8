/-! ===== answers by their types ===== -/
def bi (b : Bool) : Int := if b then 1 else 0
theorem bi_01 (b : Bool) : bi b = 0 ∨ bi b = 1 := by cases b <;> simp [bi]
theorem bi_R (b : Bool) : zR (bi b) := by cases b <;> exact ⟨by decide, by decide⟩
theorem bi_0 {b : Bool} : bi b = 0 ↔ b = false := by cases b <;> simp [bi]
theorem bi_n {b : Bool} : ¬ bi b = 0 ↔ b = true := by cases b <;> simp [bi]
def zCb (G : zG) (d : Nat) (M : zM) (as : List zV) (h : zH) (Q : Bool → zH → Prop) : Prop := zC G d M as h (fun r h' => ∃ x, r = some (vi (bi x)) ∧ Q x h')
abbrev zTi (G : zG) (d : Nat) (M : zM) (K : Int → zH → Prop) (pc : Nat) (L : List (Option zV)) (st : List zV) (h : zH) : Prop := zT G d M (fun r h' => ∃ x, r = some (vi x) ∧ K x h') pc L st h
abbrev zTb (G : zG) (d : Nat) (M : zM) (K : Bool → zH → Prop) (pc : Nat) (L : List (Option zV)) (st : List zV) (h : zH) : Prop := zT G d M (fun r h' => ∃ x, r = some (vi (bi x)) ∧ K x h') pc L st h
abbrev zTl (G : zG) (d : Nat) (M : zM) (K : Int → zH → Prop) (pc : Nat) (L : List (Option zV)) (st : List zV) (h : zH) : Prop := zT G d M (fun r h' => ∃ x, r = some (vl x) ∧ K x h') pc L st h
abbrev zTv (G : zG) (d : Nat) (M : zM) (K : zH → Prop) (pc : Nat) (L : List (Option zV)) (st : List zV) (h : zH) : Prop := zT G d M (fun r h' => r = none ∧ K h') pc L st h
section ZY
variable {G : zG} {R : Room} {kc ks : Nat} {Z : State → Array Value → List Frame → State → Prop} {M Mc : zM} {pc pc' : Nat} {L : List (Option zV)} {st : List zV} {h : zH} {d : Nat}
theorem zC_mono {as : List zV} {Q Q' : Option zV → zH → Prop} (hq : ∀ r h', Q r h' → Q' r h') (k : zC G d M as h Q) : zC G d M as h Q' := by
  unfold zC Met at k ⊢
  intro p e ha hc hk s m args below hf happ hP hT
  obtain ⟨n, o, h1, h2, h3, ⟨h4, h5⟩⟩ := k p e ha hc hk s m args below hf happ hP hT
  exact ⟨n, o, h1, h2, h3, ⟨zQc_mono hq h4, h5⟩⟩
theorem zCi_mono {as : List zV} {K K' : Int → zH → Prop} (hq : ∀ x h', K x h' → K' x h') (k : zCi G d M as h K) : zCi G d M as h K' := zC_mono (fun r h' ⟨x, e, q⟩ => ⟨x, e, hq x h' q⟩) k
theorem zCl_mono {as : List zV} {K K' : Int → zH → Prop} (hq : ∀ x h', K x h' → K' x h') (k : zCl G d M as h K) : zCl G d M as h K' := zC_mono (fun r h' ⟨x, e, q⟩ => ⟨x, e, hq x h' q⟩) k
theorem zCb_mono {as : List zV} {K K' : Bool → zH → Prop} (hq : ∀ x h', K x h' → K' x h') (k : zCb G d M as h K) : zCb G d M as h K' := zC_mono (fun r h' ⟨x, e, q⟩ => ⟨x, e, hq x h' q⟩) k
theorem zCv_mono {as : List zV} {K K' : zH → Prop} (hq : ∀ h', K h' → K' h') (k : zCv G d M as h K) : zCv G d M as h K' := zC_mono (fun r h' ⟨e, q⟩ => ⟨e, hq h' q⟩) k
theorem z_callVi {ci n idx : Nat} {r : Int} {as rest stk : List zV} (hM : zMv Mc ci n) (hl : Cond.methodLink M.1.cls idx Mc.1 ∈ zUU) (hd : decode M.2.1 pc = .ok (.invokevirtual idx, 3)) (hn : as.length = n) (hR : zRo R kc ks d) (hcat : zcat rest ≤ 8) (hs : as.reverse ++ vr ci r :: rest = stk) (hp : pc + 3 = pc') (k : zCi G d Mc (vr ci r :: as) h (fun x h' => zB G R kc ks Z M pc' L (vi x :: rest) h')) : zB G R kc ks Z M pc L stk h :=
  z_callV hM hl hd hn hR hcat hs hp (zC_mono (fun r h' ⟨x, e, q⟩ => by subst e; exact q) k)
theorem z_callVb {ci n idx : Nat} {r : Int} {as rest stk : List zV} (hM : zMv Mc ci n) (hl : Cond.methodLink M.1.cls idx Mc.1 ∈ zUU) (hd : decode M.2.1 pc = .ok (.invokevirtual idx, 3)) (hn : as.length = n) (hR : zRo R kc ks d) (hcat : zcat rest ≤ 8) (hs : as.reverse ++ vr ci r :: rest = stk) (hp : pc + 3 = pc') (k : zCb G d Mc (vr ci r :: as) h (fun x h' => zB G R kc ks Z M pc' L (vi (bi x) :: rest) h')) : zB G R kc ks Z M pc L stk h :=
  z_callV hM hl hd hn hR hcat hs hp (zC_mono (fun r h' ⟨x, e, q⟩ => by subst e; exact q) k)
theorem z_callVl {ci n idx : Nat} {r : Int} {as rest stk : List zV} (hM : zMv Mc ci n) (hl : Cond.methodLink M.1.cls idx Mc.1 ∈ zUU) (hd : decode M.2.1 pc = .ok (.invokevirtual idx, 3)) (hn : as.length = n) (hR : zRo R kc ks d) (hcat : zcat rest ≤ 8) (hs : as.reverse ++ vr ci r :: rest = stk) (hp : pc + 3 = pc') (k : zCl G d Mc (vr ci r :: as) h (fun x h' => zB G R kc ks Z M pc' L (vl x :: rest) h')) : zB G R kc ks Z M pc L stk h :=
  z_callV hM hl hd hn hR hcat hs hp (zC_mono (fun r h' ⟨x, e, q⟩ => by subst e; exact q) k)
theorem z_callVv {ci n idx : Nat} {r : Int} {as rest stk : List zV} (hM : zMv Mc ci n) (hl : Cond.methodLink M.1.cls idx Mc.1 ∈ zUU) (hd : decode M.2.1 pc = .ok (.invokevirtual idx, 3)) (hn : as.length = n) (hR : zRo R kc ks d) (hcat : zcat rest ≤ 8) (hs : as.reverse ++ vr ci r :: rest = stk) (hp : pc + 3 = pc') (k : zCv G d Mc (vr ci r :: as) h (fun h' => zB G R kc ks Z M pc' L rest h')) : zB G R kc ks Z M pc L stk h :=
  z_callV hM hl hd hn hR hcat hs hp (zC_mono (fun r h' ⟨e, q⟩ => by subst e; exact q) k)
theorem z_callSi {n idx : Nat} {as rest stk : List zV} (hM : zMs Mc n) (hl : Cond.methodLink M.1.cls idx Mc.1 ∈ zUU) (hd : decode M.2.1 pc = .ok (.invokestatic idx, 3)) (hn : as.length = n) (hR : zRo R kc ks d) (hcat : zcat rest ≤ 8) (hs : as.reverse ++ rest = stk) (hp : pc + 3 = pc') (k : zCi G d Mc as h (fun x h' => zB G R kc ks Z M pc' L (vi x :: rest) h')) : zB G R kc ks Z M pc L stk h :=
  z_callS hM hl hd hn hR hcat hs hp (zC_mono (fun r h' ⟨x, e, q⟩ => by subst e; exact q) k)
theorem z_callSb {n idx : Nat} {as rest stk : List zV} (hM : zMs Mc n) (hl : Cond.methodLink M.1.cls idx Mc.1 ∈ zUU) (hd : decode M.2.1 pc = .ok (.invokestatic idx, 3)) (hn : as.length = n) (hR : zRo R kc ks d) (hcat : zcat rest ≤ 8) (hs : as.reverse ++ rest = stk) (hp : pc + 3 = pc') (k : zCb G d Mc as h (fun x h' => zB G R kc ks Z M pc' L (vi (bi x) :: rest) h')) : zB G R kc ks Z M pc L stk h :=
  z_callS hM hl hd hn hR hcat hs hp (zC_mono (fun r h' ⟨x, e, q⟩ => by subst e; exact q) k)
theorem z_callSl {n idx : Nat} {as rest stk : List zV} (hM : zMs Mc n) (hl : Cond.methodLink M.1.cls idx Mc.1 ∈ zUU) (hd : decode M.2.1 pc = .ok (.invokestatic idx, 3)) (hn : as.length = n) (hR : zRo R kc ks d) (hcat : zcat rest ≤ 8) (hs : as.reverse ++ rest = stk) (hp : pc + 3 = pc') (k : zCl G d Mc as h (fun x h' => zB G R kc ks Z M pc' L (vl x :: rest) h')) : zB G R kc ks Z M pc L stk h :=
  z_callS hM hl hd hn hR hcat hs hp (zC_mono (fun r h' ⟨x, e, q⟩ => by subst e; exact q) k)
theorem z_callSv {n idx : Nat} {as rest stk : List zV} (hM : zMs Mc n) (hl : Cond.methodLink M.1.cls idx Mc.1 ∈ zUU) (hd : decode M.2.1 pc = .ok (.invokestatic idx, 3)) (hn : as.length = n) (hR : zRo R kc ks d) (hcat : zcat rest ≤ 8) (hs : as.reverse ++ rest = stk) (hp : pc + 3 = pc') (k : zCv G d Mc as h (fun h' => zB G R kc ks Z M pc' L rest h')) : zB G R kc ks Z M pc L stk h :=
  z_callS hM hl hd hn hR hcat hs hp (zC_mono (fun r h' ⟨e, q⟩ => by subst e; exact q) k)
theorem z_callSNb {n idx : Nat} {host : String} {as rest stk : List zV} (hM : zMs Mc n) (hl : (M.1.cls, idx, Mc.1, host) ∈ zNest) (hd : decode M.2.1 pc = .ok (.invokestatic idx, 3)) (hn : as.length = n) (hR : zRo R kc ks d) (hcat : zcat rest ≤ 8) (hs : as.reverse ++ rest = stk) (hp : pc + 3 = pc') (k : zCb G d Mc as h (fun x h' => zB G R kc ks Z M pc' L (vi (bi x) :: rest) h')) : zB G R kc ks Z M pc L stk h :=
  z_callSN hM hl hd hn hR hcat hs hp (zC_mono (fun r h' ⟨x, e, q⟩ => by subst e; exact q) k)
theorem z_ifb_eq {b : Bool} {off : Int} {tgt : Nat} (hd : decode M.2.1 pc = .ok (.ifCond .eq off, 3)) (ht : (pc : Int) + off = (tgt : Int)) (hp : pc + 3 = pc') (k : (b = false → zB G R kc ks Z M tgt L st h) ∧ (b = true → zB G R kc ks Z M pc' L st h)) : zB G R kc ks Z M pc L (vi (bi b) :: st) h :=
  z_if_eq hd ht (bi_R b) hp ⟨fun q => k.1 (bi_0.mp q), fun q => k.2 (bi_n.mp q)⟩
theorem z_ifb_ne {b : Bool} {off : Int} {tgt : Nat} (hd : decode M.2.1 pc = .ok (.ifCond .ne off, 3)) (ht : (pc : Int) + off = (tgt : Int)) (hp : pc + 3 = pc') (k : (b = true → zB G R kc ks Z M tgt L st h) ∧ (b = false → zB G R kc ks Z M pc' L st h)) : zB G R kc ks Z M pc L (vi (bi b) :: st) h :=
  z_if_ne hd ht (bi_R b) hp ⟨fun q => k.1 (bi_n.mp q), fun q => k.2 (bi_0.mp q)⟩
-- long comparisons and the branch behind them
theorem zcmp_lt {x y : Int} (hx : zRL x) (hy : zRL y) : (zcmp x y = -1 ↔ x < y) ∧ (zcmp x y = 0 ↔ x = y) ∧ (zcmp x y = 1 ↔ y < x) := by
  have h1 : (Int64.ofInt x > Int64.ofInt y) ↔ y < x := by
    show Int64.ofInt y < Int64.ofInt x ↔ _
    rw [Int64.lt_iff_toInt_lt, zL_toInt hx, zL_toInt hy]
  have h2 : Int64.ofInt x = Int64.ofInt y ↔ x = y := by rw [← Int64.toInt_inj, zL_toInt hx, zL_toInt hy]
  unfold zcmp lg_cmp
  by_cases c1 : y < x
  · rw [if_pos (h1.mpr c1)]
    refine ⟨⟨fun q => absurd q (by decide), fun q => by omega⟩, ⟨fun q => absurd q (by decide), fun q => by omega⟩, ⟨fun _ => c1, fun _ => rfl⟩⟩
  · rw [if_neg (fun q => c1 (h1.mp q))]
    by_cases c2 : x = y
    · rw [if_pos (h2.mpr c2)]
      refine ⟨⟨fun q => absurd q (by decide), fun q => by omega⟩, ⟨fun _ => c2, fun _ => rfl⟩, ⟨fun q => absurd q (by decide), fun q => by omega⟩⟩
    · rw [if_neg (fun q => c2 (h2.mp q))]
      refine ⟨⟨fun _ => by omega, fun _ => rfl⟩, ⟨fun q => absurd q (by decide), fun q => absurd q c2⟩, ⟨fun q => absurd q (by decide), fun q => absurd q c1⟩⟩
theorem zcmp_R (x y : Int) : zR (zcmp x y) := by
  have := (lg_cmp (Int64.ofInt x) (Int64.ofInt y)).toInt_lt
  have := (lg_cmp (Int64.ofInt x) (Int64.ofInt y)).le_toInt
  unfold zcmp zR
  omega
theorem zcmp_3 {x y : Int} : zcmp x y = -1 ∨ zcmp x y = 0 ∨ zcmp x y = 1 := by
  unfold zcmp lg_cmp
  by_cases c1 : Int64.ofInt x > Int64.ofInt y
  · rw [if_pos c1]
    exact Or.inr (Or.inr rfl)
  · rw [if_neg c1]
    by_cases c2 : Int64.ofInt x = Int64.ofInt y
    · rw [if_pos c2]
      exact Or.inr (Or.inl rfl)
    · rw [if_neg c2]
      exact Or.inl rfl
end ZY
