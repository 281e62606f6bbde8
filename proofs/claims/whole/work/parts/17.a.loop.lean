/-! ===== the law's loop ===== -/
def zsc (G : zG) (i : Int) : Int := (zgx G i.toNat).toInt
theorem zsc_R (G : zG) (i : Int) : zR (zsc G i) := ⟨Int32.le_toInt _, Int32.toInt_lt _⟩
theorem zlw_ret {p : Program} {l : Launch} {e : Env} {s : State} {m : MethodId} {below : List Frame} {meth : Method} {c : Code} {args : Array Value} (hx : p.tables.exec = Jvm.exec) (hb : c.code = code) (hr : meth.sig.returnType = ret) (hlocks : meth.locks = false) {pc : Nat} {H : Heap} {ls : Array Slot} (hdg : decode code pc = .ok (.ireturn, 1)) : W p l e room_1 s m args below meth c H [] 601024 7293034 (lw_Z below args s) (F0 m pc ls [.int 1]) := by
  intro T hT X
  obtain ⟨fs, hret, hrun, hended, hW, hframe⟩ := X.leave (v := some (.int 1)) (hlocks := hlocks) (fun h => by rw [hr] at h; cases h)
  have hmeth' : T.vm.method? m = some meth := X.method'
  refine ⟨T.setFrames fs, ?_, .returned (some (.int 1)), hrun, hended, rfl, ⟨_, rfl⟩, hW, hframe⟩
  jvm_step X.here [X.here.top, hx, hb, hdg, hmeth', hr, ret, narrow_b1]
  (try refine ⟨rfl, ?_⟩); (try refine ⟨rfl, ?_⟩)
  first | (intro acts; rw [hret _ acts rfl rfl rfl]) | rw [hret _ _ rfl rfl rfl]
  exact Steps.refl _
theorem zL_end {G : zG} {kc ks : Nat} {L : List (Option zV)} {h : zH} (h1 : kc ≤ 601024) (h2 : ks ≤ 7293034) : zB G room_1 kc ks (zZL G) mL_law 2532 L [] h := by
  refine z_iconst dL_law_2532 rfl ?_
  intro o vs vl p e s m args below meth c H locs ls F P S Lv
  by_cases hb : zgB G = s.heap.size
  · have K : W p (zgl G) e room_1 s m args below meth c H locs kc ks (lw_Z below args s) (F0 m (2532 + 1) ls [.int 1]) := va_forget (fun q hq => by have := S.2.2 q hq; rw [← hb]; exact this) (W.widen h1 h2 (zlw_ret F.1 F.2.1 F.2.2.2.1 F.2.2.2.2.1 dL_law_2533))
    intro T hT X
    obtain ⟨t, a1, b1⟩ := K T hT X
    exact ⟨t, a1, fun _ _ => b1⟩
  · intro T hT X
    exact ⟨_, Steps.refl _, fun q => absurd q hb⟩
def tL_law_23 (G : zG) (kc ks : Nat) (l4 : Int) (h : zH) : Prop := zB G room_1 kc ks (zZL G) mL_law 23 [some ((41, 0)), some (vr 11 0), some (vr 12 466), some (vr 14 525), some (vi l4), none, none] [] h
def tL_law_284 (G : zG) (kc ks : Nat) (l4 : Int) (h : zH) : Prop := zB G room_1 kc ks (zZL G) mL_law 284 [some ((41, 0)), some (vr 11 0), some (vr 12 466), some (vr 14 525), some (vi l4), none, none] [] h
def tL_law_357 (G : zG) (kc ks : Nat) (l4 : Int) (h : zH) : Prop := zB G room_1 kc ks (zZL G) mL_law 357 [some ((41, 0)), some (vr 11 0), some (vr 12 466), some (vr 14 525), some (vi l4), none, none] [] h
def tL_law_382 (G : zG) (kc ks : Nat) (l4 : Int) (h : zH) : Prop := zB G room_1 kc ks (zZL G) mL_law 382 [some ((41, 0)), some (vr 11 0), some (vr 12 466), some (vr 14 525), some (vi l4), none, none] [] h
def tL_law_395 (G : zG) (kc ks : Nat) (l4 : Int) (h : zH) : Prop := zB G room_1 kc ks (zZL G) mL_law 395 [some ((41, 0)), some (vr 11 0), some (vr 12 466), some (vr 14 525), some (vi l4), none, none] [] h
def tL_law_408 (G : zG) (kc ks : Nat) (l4 : Int) (h : zH) : Prop := zB G room_1 kc ks (zZL G) mL_law 408 [some ((41, 0)), some (vr 11 0), some (vr 12 466), some (vr 14 525), some (vi l4), none, none] [] h
def tL_law_433 (G : zG) (kc ks : Nat) (l4 : Int) (h : zH) : Prop := zB G room_1 kc ks (zZL G) mL_law 433 [some ((41, 0)), some (vr 11 0), some (vr 12 466), some (vr 14 525), some (vi l4), none, none] [] h
def tL_law_498 (G : zG) (kc ks : Nat) (l4 : Int) (h : zH) : Prop := zB G room_1 kc ks (zZL G) mL_law 498 [some ((41, 0)), some (vr 11 0), some (vr 12 466), some (vr 14 525), some (vi l4), none, none] [] h
def tL_law_523 (G : zG) (kc ks : Nat) (l4 : Int) (h : zH) : Prop := zB G room_1 kc ks (zZL G) mL_law 523 [some ((41, 0)), some (vr 11 0), some (vr 12 466), some (vr 14 525), some (vi l4), none, none] [] h
def tL_law_560 (G : zG) (kc ks : Nat) (l4 : Int) (h : zH) : Prop := zB G room_1 kc ks (zZL G) mL_law 560 [some ((41, 0)), some (vr 11 0), some (vr 12 466), some (vr 14 525), some (vi l4), none, none] [] h
def tL_law_609 (G : zG) (kc ks : Nat) (l4 : Int) (h : zH) : Prop := zB G room_1 kc ks (zZL G) mL_law 609 [some ((41, 0)), some (vr 11 0), some (vr 12 466), some (vr 14 525), some (vi l4), none, none] [] h
def tL_law_658 (G : zG) (kc ks : Nat) (l4 : Int) (h : zH) : Prop := zB G room_1 kc ks (zZL G) mL_law 658 [some ((41, 0)), some (vr 11 0), some (vr 12 466), some (vr 14 525), some (vi l4), none, none] [] h
def tL_law_747 (G : zG) (kc ks : Nat) (l4 : Int) (h : zH) : Prop := zB G room_1 kc ks (zZL G) mL_law 747 [some ((41, 0)), some (vr 11 0), some (vr 12 466), some (vr 14 525), some (vi l4), none, none] [] h
def tL_law_784 (G : zG) (kc ks : Nat) (l4 : Int) (h : zH) : Prop := zB G room_1 kc ks (zZL G) mL_law 784 [some ((41, 0)), some (vr 11 0), some (vr 12 466), some (vr 14 525), some (vi l4), none, none] [] h
def tL_law_833 (G : zG) (kc ks : Nat) (l4 : Int) (h : zH) : Prop := zB G room_1 kc ks (zZL G) mL_law 833 [some ((41, 0)), some (vr 11 0), some (vr 12 466), some (vr 14 525), some (vi l4), none, none] [] h
def tL_law_910 (G : zG) (kc ks : Nat) (l4 : Int) (h : zH) : Prop := zB G room_1 kc ks (zZL G) mL_law 910 [some ((41, 0)), some (vr 11 0), some (vr 12 466), some (vr 14 525), some (vi l4), none, none] [] h
def tL_law_975 (G : zG) (kc ks : Nat) (l4 : Int) (h : zH) : Prop := zB G room_1 kc ks (zZL G) mL_law 975 [some ((41, 0)), some (vr 11 0), some (vr 12 466), some (vr 14 525), some (vi l4), none, none] [] h
def tL_law_1001 (G : zG) (kc ks : Nat) (l4 : Int) (h : zH) : Prop := zB G room_1 kc ks (zZL G) mL_law 1001 [some ((41, 0)), some (vr 11 0), some (vr 12 466), some (vr 14 525), some (vi l4), none, none] [] h
def tL_law_1038 (G : zG) (kc ks : Nat) (l4 : Int) (h : zH) : Prop := zB G room_1 kc ks (zZL G) mL_law 1038 [some ((41, 0)), some (vr 11 0), some (vr 12 466), some (vr 14 525), some (vi l4), none, none] [] h
def tL_law_1076 (G : zG) (kc ks : Nat) (l4 : Int) (h : zH) : Prop := zB G room_1 kc ks (zZL G) mL_law 1076 [some ((41, 0)), some (vr 11 0), some (vr 12 466), some (vr 14 525), some (vi l4), none, none] [] h
def tL_law_1102 (G : zG) (kc ks : Nat) (l4 : Int) (h : zH) : Prop := zB G room_1 kc ks (zZL G) mL_law 1102 [some ((41, 0)), some (vr 11 0), some (vr 12 466), some (vr 14 525), some (vi l4), none, none] [] h
def tL_law_1139 (G : zG) (kc ks : Nat) (l4 : Int) (h : zH) : Prop := zB G room_1 kc ks (zZL G) mL_law 1139 [some ((41, 0)), some (vr 11 0), some (vr 12 466), some (vr 14 525), some (vi l4), none, none] [] h
def tL_law_1200 (G : zG) (kc ks : Nat) (l4 : Int) (h : zH) : Prop := zB G room_1 kc ks (zZL G) mL_law 1200 [some ((41, 0)), some (vr 11 0), some (vr 12 466), some (vr 14 525), some (vi l4), none, none] [] h
def tL_law_1249 (G : zG) (kc ks : Nat) (l4 : Int) (h : zH) : Prop := zB G room_1 kc ks (zZL G) mL_law 1249 [some ((41, 0)), some (vr 11 0), some (vr 12 466), some (vr 14 525), some (vi l4), none, none] [] h
def tL_law_1286 (G : zG) (kc ks : Nat) (l4 : Int) (h : zH) : Prop := zB G room_1 kc ks (zZL G) mL_law 1286 [some ((41, 0)), some (vr 11 0), some (vr 12 466), some (vr 14 525), some (vi l4), none, none] [] h
def tL_law_1311 (G : zG) (kc ks : Nat) (l4 : Int) (h : zH) : Prop := zB G room_1 kc ks (zZL G) mL_law 1311 [some ((41, 0)), some (vr 11 0), some (vr 12 466), some (vr 14 525), some (vi l4), none, none] [] h
def tL_law_1348 (G : zG) (kc ks : Nat) (l4 : Int) (h : zH) : Prop := zB G room_1 kc ks (zZL G) mL_law 1348 [some ((41, 0)), some (vr 11 0), some (vr 12 466), some (vr 14 525), some (vi l4), none, none] [] h
def tL_law_1397 (G : zG) (kc ks : Nat) (l4 : Int) (h : zH) : Prop := zB G room_1 kc ks (zZL G) mL_law 1397 [some ((41, 0)), some (vr 11 0), some (vr 12 466), some (vr 14 525), some (vi l4), none, none] [] h
def tL_law_1446 (G : zG) (kc ks : Nat) (l4 : Int) (h : zH) : Prop := zB G room_1 kc ks (zZL G) mL_law 1446 [some ((41, 0)), some (vr 11 0), some (vr 12 466), some (vr 14 525), some (vi l4), none, none] [] h
def tL_law_1507 (G : zG) (kc ks : Nat) (l4 : Int) (h : zH) : Prop := zB G room_1 kc ks (zZL G) mL_law 1507 [some ((41, 0)), some (vr 11 0), some (vr 12 466), some (vr 14 525), some (vi l4), none, none] [] h
def tL_law_1532 (G : zG) (kc ks : Nat) (l4 : Int) (h : zH) : Prop := zB G room_1 kc ks (zZL G) mL_law 1532 [some ((41, 0)), some (vr 11 0), some (vr 12 466), some (vr 14 525), some (vi l4), none, none] [] h
def tL_law_1605 (G : zG) (kc ks : Nat) (l4 : Int) (h : zH) : Prop := zB G room_1 kc ks (zZL G) mL_law 1605 [some ((41, 0)), some (vr 11 0), some (vr 12 466), some (vr 14 525), some (vi l4), none, none] [] h
def tL_law_1630 (G : zG) (kc ks : Nat) (l4 : Int) (h : zH) : Prop := zB G room_1 kc ks (zZL G) mL_law 1630 [some ((41, 0)), some (vr 11 0), some (vr 12 466), some (vr 14 525), some (vi l4), none, none] [] h
def tL_law_1655 (G : zG) (kc ks : Nat) (l4 : Int) (h : zH) : Prop := zB G room_1 kc ks (zZL G) mL_law 1655 [some ((41, 0)), some (vr 11 0), some (vr 12 466), some (vr 14 525), some (vi l4), none, none] [] h
def tL_law_1681 (G : zG) (kc ks : Nat) (l4 : Int) (h : zH) : Prop := zB G room_1 kc ks (zZL G) mL_law 1681 [some ((41, 0)), some (vr 11 0), some (vr 12 466), some (vr 14 525), some (vi l4), none, none] [] h
def tL_law_1706 (G : zG) (kc ks : Nat) (l4 : Int) (h : zH) : Prop := zB G room_1 kc ks (zZL G) mL_law 1706 [some ((41, 0)), some (vr 11 0), some (vr 12 466), some (vr 14 525), some (vi l4), none, none] [] h
def tL_law_1732 (G : zG) (kc ks : Nat) (l4 : Int) (h : zH) : Prop := zB G room_1 kc ks (zZL G) mL_law 1732 [some ((41, 0)), some (vr 11 0), some (vr 12 466), some (vr 14 525), some (vi l4), none, none] [] h
def tL_law_1770 (G : zG) (kc ks : Nat) (l4 : Int) (h : zH) : Prop := zB G room_1 kc ks (zZL G) mL_law 1770 [some ((41, 0)), some (vr 11 0), some (vr 12 466), some (vr 14 525), some (vi l4), none, none] [] h
def tL_law_1863 (G : zG) (kc ks : Nat) (l4 : Int) (h : zH) : Prop := zB G room_1 kc ks (zZL G) mL_law 1863 [some ((41, 0)), some (vr 11 0), some (vr 12 466), some (vr 14 525), some (vi l4), none, none] [] h
def tL_law_1888 (G : zG) (kc ks : Nat) (l4 : Int) (h : zH) : Prop := zB G room_1 kc ks (zZL G) mL_law 1888 [some ((41, 0)), some (vr 11 0), some (vr 12 466), some (vr 14 525), some (vi l4), none, none] [] h
def tL_law_1937 (G : zG) (kc ks : Nat) (l4 : Int) (h : zH) : Prop := zB G room_1 kc ks (zZL G) mL_law 1937 [some ((41, 0)), some (vr 11 0), some (vr 12 466), some (vr 14 525), some (vi l4), none, none] [] h
def tL_law_1998 (G : zG) (kc ks : Nat) (l4 : Int) (h : zH) : Prop := zB G room_1 kc ks (zZL G) mL_law 1998 [some ((41, 0)), some (vr 11 0), some (vr 12 466), some (vr 14 525), some (vi l4), none, none] [] h
def tL_law_2035 (G : zG) (kc ks : Nat) (l4 : Int) (h : zH) : Prop := zB G room_1 kc ks (zZL G) mL_law 2035 [some ((41, 0)), some (vr 11 0), some (vr 12 466), some (vr 14 525), some (vi l4), none, none] [] h
def tL_law_2072 (G : zG) (kc ks : Nat) (l4 : Int) (h : zH) : Prop := zB G room_1 kc ks (zZL G) mL_law 2072 [some ((41, 0)), some (vr 11 0), some (vr 12 466), some (vr 14 525), some (vi l4), none, none] [] h
def tL_law_2097 (G : zG) (kc ks : Nat) (l4 : Int) (h : zH) : Prop := zB G room_1 kc ks (zZL G) mL_law 2097 [some ((41, 0)), some (vr 11 0), some (vr 12 466), some (vr 14 525), some (vi l4), none, none] [] h
def tL_law_2122 (G : zG) (kc ks : Nat) (l4 : Int) (h : zH) : Prop := zB G room_1 kc ks (zZL G) mL_law 2122 [some ((41, 0)), some (vr 11 0), some (vr 12 466), some (vr 14 525), some (vi l4), none, none] [] h
def tL_law_2147 (G : zG) (kc ks : Nat) (l4 : Int) (h : zH) : Prop := zB G room_1 kc ks (zZL G) mL_law 2147 [some ((41, 0)), some (vr 11 0), some (vr 12 466), some (vr 14 525), some (vi l4), none, none] [] h
def tL_law_2196 (G : zG) (kc ks : Nat) (l4 : Int) (h : zH) : Prop := zB G room_1 kc ks (zZL G) mL_law 2196 [some ((41, 0)), some (vr 11 0), some (vr 12 466), some (vr 14 525), some (vi l4), none, none] [] h
def tL_law_2233 (G : zG) (kc ks : Nat) (l4 : Int) (h : zH) : Prop := zB G room_1 kc ks (zZL G) mL_law 2233 [some ((41, 0)), some (vr 11 0), some (vr 12 466), some (vr 14 525), some (vi l4), none, none] [] h
def tL_law_2258 (G : zG) (kc ks : Nat) (l4 : Int) (h : zH) : Prop := zB G room_1 kc ks (zZL G) mL_law 2258 [some ((41, 0)), some (vr 11 0), some (vr 12 466), some (vr 14 525), some (vi l4), none, none] [] h
def tL_law_2283 (G : zG) (kc ks : Nat) (l4 : Int) (h : zH) : Prop := zB G room_1 kc ks (zZL G) mL_law 2283 [some ((41, 0)), some (vr 11 0), some (vr 12 466), some (vr 14 525), some (vi l4), none, none] [] h
def tL_law_2320 (G : zG) (kc ks : Nat) (l4 : Int) (h : zH) : Prop := zB G room_1 kc ks (zZL G) mL_law 2320 [some ((41, 0)), some (vr 11 0), some (vr 12 466), some (vr 14 525), some (vi l4), none, none] [] h
def tL_law_2357 (G : zG) (kc ks : Nat) (l4 : Int) (h : zH) : Prop := zB G room_1 kc ks (zZL G) mL_law 2357 [some ((41, 0)), some (vr 11 0), some (vr 12 466), some (vr 14 525), some (vi l4), none, none] [] h
def tL_law_2394 (G : zG) (kc ks : Nat) (l4 : Int) (h : zH) : Prop := zB G room_1 kc ks (zZL G) mL_law 2394 [some ((41, 0)), some (vr 11 0), some (vr 12 466), some (vr 14 525), some (vi l4), none, none] [] h
def tL_law_2407 (G : zG) (kc ks : Nat) (l4 : Int) (h : zH) : Prop := zB G room_1 kc ks (zZL G) mL_law 2407 [some ((41, 0)), some (vr 11 0), some (vr 12 466), some (vr 14 525), some (vi l4), none, none] [] h
def tL_law_2463 (G : zG) (kc ks : Nat) (l4 : Int) (h : zH) : Prop := zB G room_1 kc ks (zZL G) mL_law 2463 [some ((41, 0)), some (vr 11 0), some (vr 12 466), some (vr 14 525), some (vi l4), none, none] [] h
def tL_law_2488 (G : zG) (kc ks : Nat) (l4 : Int) (h : zH) : Prop := zB G room_1 kc ks (zZL G) mL_law 2488 [some ((41, 0)), some (vr 11 0), some (vr 12 466), some (vr 14 525), some (vi l4), none, none] [] h
def tL_law_2513 (G : zG) (kc ks : Nat) (l4 : Int) (h : zH) : Prop := zB G room_1 kc ks (zZL G) mL_law 2513 [some ((41, 0)), some (vr 11 0), some (vr 12 466), some (vr 14 525), some (vi l4), none, none] [] h
def tL_law_2526 (G : zG) (kc ks : Nat) (l4 : Int) (h : zH) : Prop := zB G room_1 kc ks (zZL G) mL_law 2526 [some ((41, 0)), some (vr 11 0), some (vr 12 466), some (vr 14 525), some (vi l4), none, none] [] h
theorem bL_law_2526 {G : zG} {d kc ks : Nat} {l4 : Int} {h : zH} (hR : zRo room_1 kc ks d) (hL : zgL G ≤ 3072) (hi : 0 ≤ l4 ∧ l4 + 6 ≤ zgL G) (k : tL_law_23 G kc ks (l4 + 6) h) : tL_law_2526 G kc ks l4 h := by
  unfold tL_law_2526
  refine z_iinc dL_law_2526 rfl (Nat.le_of_ble_eq_true rfl) (L' := [some ((41, 0)), some (vr 11 0), some (vr 12 466), some (vr 14 525), some (vi (l4 + 6)), none, none]) rfl rfl ?_
  refine z_goto (tgt := 23) dL_law_2529 rfl ?_
  exact z_sub (L' := [some ((41, 0)), some (vr 11 0), some (vr 12 466), some (vr 14 525), some (vi (l4 + 6)), none, none]) (And.intro rfl (And.intro rfl (And.intro rfl (And.intro rfl (And.intro rfl trivial))))) k
theorem bL_law_2513 {G : zG} {d kc ks : Nat} {l4 : Int} {h : zH} (hR : zRo room_1 kc ks d) (hL : zgL G ≤ 3072) (hi : 0 ≤ l4 ∧ l4 + 6 ≤ zgL G) (k : zCi G d mX11_trouble [vr 11 0] h (fun x1 h2 => zCi G d mX12_trouble [vr 12 466] h2 (fun x3 h4 => zR x1 ∧ zR x3 ∧ (x1 = x3 → tL_law_2526 G kc ks l4 h4) ∧ (¬ x1 = x3 → False)))) : tL_law_2513 G kc ks l4 h := by
  unfold tL_law_2513
  refine z_aload_n 1 dL_law_2513 rfl rfl (Nat.le_of_ble_eq_true rfl) rfl ?_
  refine z_callVi vX11_trouble kL_261 dL_law_2514 rfl hR (as := []) (rest := []) (Nat.le_of_ble_eq_true rfl) rfl rfl (zCi_mono (fun x1 h2 k => ?_) k)
  refine z_aload_n 2 dL_law_2517 rfl rfl (Nat.le_of_ble_eq_true rfl) rfl ?_
  refine z_callVi vX12_trouble kL_264 dL_law_2518 rfl hR (as := []) (rest := [vi x1]) (Nat.le_of_ble_eq_true rfl) rfl rfl (zCi_mono (fun x3 h4 k => ?_) k)
  obtain ⟨r1, r2, ka, kb⟩ := k
  refine z_icmp_eq (tgt := 2526) dL_law_2521 rfl r1 r2 rfl ⟨fun q => ?_, fun q => ?_⟩
  · have k := ka q
    exact z_sub (L' := [some ((41, 0)), some (vr 11 0), some (vr 12 466), some (vr 14 525), some (vi l4), none, none]) (And.intro rfl (And.intro rfl (And.intro rfl (And.intro rfl (And.intro rfl trivial))))) k
  · have k := kb q
    refine z_iconst dL_law_2524 rfl ?_
    exact k.elim
theorem bL_law_2488 {G : zG} {d kc ks : Nat} {l4 : Int} {h : zH} (hR : zRo room_1 kc ks d) (hL : zgL G ≤ 3072) (hi : 0 ≤ l4 ∧ l4 + 6 ≤ zgL G) (k : zCi G d mX11_letter [vr 11 0, vi (zsc G (l4 + 1))] h (fun x1 h2 => zCi G d mX12_letter [vr 12 466, vi (zsc G (l4 + 1))] h2 (fun x3 h4 => zR x1 ∧ zR x3 ∧ (x1 = x3 → tL_law_2526 G kc ks l4 h4) ∧ (¬ x1 = x3 → False)))) : tL_law_2488 G kc ks l4 h := by
  unfold tL_law_2488
  refine z_aload_n 1 dL_law_2488 rfl rfl (Nat.le_of_ble_eq_true rfl) rfl ?_
  refine z_aload_n 0 dL_law_2489 rfl rfl (Nat.le_of_ble_eq_true rfl) rfl ?_
  refine z_iload dL_law_2490 rfl rfl ?_
  refine z_iconst dL_law_2492 rfl ?_
  refine z_iadd dL_law_2493 rfl ?_
  refine z_sld (x := (zsc G (l4 + 1))) dL_law_2494 ⟨by omega, by omega⟩ (Nat.le_trans hL (by decide)) rfl rfl ?_
  refine z_callVi vX11_letter kL_257 dL_law_2495 rfl hR (as := [vi (zsc G (l4 + 1))]) (rest := []) (Nat.le_of_ble_eq_true rfl) rfl rfl (zCi_mono (fun x1 h2 k => ?_) k)
  refine z_aload_n 2 dL_law_2498 rfl rfl (Nat.le_of_ble_eq_true rfl) rfl ?_
  refine z_aload_n 0 dL_law_2499 rfl rfl (Nat.le_of_ble_eq_true rfl) rfl ?_
  refine z_iload dL_law_2500 rfl rfl ?_
  refine z_iconst dL_law_2502 rfl ?_
  refine z_iadd dL_law_2503 rfl ?_
  refine z_sld (x := (zsc G (l4 + 1))) dL_law_2504 ⟨by omega, by omega⟩ (Nat.le_trans hL (by decide)) rfl rfl ?_
  refine z_callVi vX12_letter kL_260 dL_law_2505 rfl hR (as := [vi (zsc G (l4 + 1))]) (rest := [vi x1]) (Nat.le_of_ble_eq_true rfl) rfl rfl (zCi_mono (fun x3 h4 k => ?_) k)
  obtain ⟨r1, r2, ka, kb⟩ := k
  refine z_icmp_eq (tgt := 2526) dL_law_2508 rfl r1 r2 rfl ⟨fun q => ?_, fun q => ?_⟩
  · have k := ka q
    exact z_sub (L' := [some ((41, 0)), some (vr 11 0), some (vr 12 466), some (vr 14 525), some (vi l4), none, none]) (And.intro rfl (And.intro rfl (And.intro rfl (And.intro rfl (And.intro rfl trivial))))) k
  · have k := kb q
    refine z_iconst dL_law_2511 rfl ?_
    exact k.elim
theorem bL_law_2463 {G : zG} {d kc ks : Nat} {l4 : Int} {h : zH} (hR : zRo room_1 kc ks d) (hL : zgL G ≤ 3072) (hi : 0 ≤ l4 ∧ l4 + 6 ≤ zgL G) (k : zCi G d mX11_total [vr 11 0, vi (zsc G (l4 + 1))] h (fun x1 h2 => zCi G d mX12_total [vr 12 466, vi (zsc G (l4 + 1))] h2 (fun x3 h4 => zR x1 ∧ zR x3 ∧ (x1 = x3 → tL_law_2526 G kc ks l4 h4) ∧ (¬ x1 = x3 → False)))) : tL_law_2463 G kc ks l4 h := by
  unfold tL_law_2463
  refine z_aload_n 1 dL_law_2463 rfl rfl (Nat.le_of_ble_eq_true rfl) rfl ?_
  refine z_aload_n 0 dL_law_2464 rfl rfl (Nat.le_of_ble_eq_true rfl) rfl ?_
  refine z_iload dL_law_2465 rfl rfl ?_
  refine z_iconst dL_law_2467 rfl ?_
  refine z_iadd dL_law_2468 rfl ?_
  refine z_sld (x := (zsc G (l4 + 1))) dL_law_2469 ⟨by omega, by omega⟩ (Nat.le_trans hL (by decide)) rfl rfl ?_
  refine z_callVi vX11_total kL_253 dL_law_2470 rfl hR (as := [vi (zsc G (l4 + 1))]) (rest := []) (Nat.le_of_ble_eq_true rfl) rfl rfl (zCi_mono (fun x1 h2 k => ?_) k)
  refine z_aload_n 2 dL_law_2473 rfl rfl (Nat.le_of_ble_eq_true rfl) rfl ?_
  refine z_aload_n 0 dL_law_2474 rfl rfl (Nat.le_of_ble_eq_true rfl) rfl ?_
  refine z_iload dL_law_2475 rfl rfl ?_
  refine z_iconst dL_law_2477 rfl ?_
  refine z_iadd dL_law_2478 rfl ?_
  refine z_sld (x := (zsc G (l4 + 1))) dL_law_2479 ⟨by omega, by omega⟩ (Nat.le_trans hL (by decide)) rfl rfl ?_
  refine z_callVi vX12_total kL_256 dL_law_2480 rfl hR (as := [vi (zsc G (l4 + 1))]) (rest := [vi x1]) (Nat.le_of_ble_eq_true rfl) rfl rfl (zCi_mono (fun x3 h4 k => ?_) k)
  obtain ⟨r1, r2, ka, kb⟩ := k
  refine z_icmp_eq (tgt := 2526) dL_law_2483 rfl r1 r2 rfl ⟨fun q => ?_, fun q => ?_⟩
  · have k := ka q
    exact z_sub (L' := [some ((41, 0)), some (vr 11 0), some (vr 12 466), some (vr 14 525), some (vi l4), none, none]) (And.intro rfl (And.intro rfl (And.intro rfl (And.intro rfl (And.intro rfl trivial))))) k
  · have k := kb q
    refine z_iconst dL_law_2486 rfl ?_
    exact k.elim
theorem bL_law_2394 {G : zG} {d kc ks : Nat} {l4 : Int} {h : zH} (hR : zRo room_1 kc ks d) (hL : zgL G ≤ 3072) (hi : 0 ≤ l4 ∧ l4 + 6 ≤ zgL G) (k : zCi G d mX11_drop [vr 11 0] h (fun x1 h2 => zCi G d mX12_drop [vr 12 466] h2 (fun x3 h4 => zR x1 ∧ zR x3 ∧ (x1 = x3 → tL_law_2526 G kc ks l4 h4) ∧ (¬ x1 = x3 → False)))) : tL_law_2394 G kc ks l4 h := by
  unfold tL_law_2394
  refine z_aload_n 1 dL_law_2394 rfl rfl (Nat.le_of_ble_eq_true rfl) rfl ?_
  refine z_callVi vX11_drop kL_240 dL_law_2395 rfl hR (as := []) (rest := []) (Nat.le_of_ble_eq_true rfl) rfl rfl (zCi_mono (fun x1 h2 k => ?_) k)
  refine z_aload_n 2 dL_law_2398 rfl rfl (Nat.le_of_ble_eq_true rfl) rfl ?_
  refine z_callVi vX12_drop kL_243 dL_law_2399 rfl hR (as := []) (rest := [vi x1]) (Nat.le_of_ble_eq_true rfl) rfl rfl (zCi_mono (fun x3 h4 k => ?_) k)
  obtain ⟨r1, r2, ka, kb⟩ := k
  refine z_icmp_eq (tgt := 2526) dL_law_2402 rfl r1 r2 rfl ⟨fun q => ?_, fun q => ?_⟩
  · have k := ka q
    exact z_sub (L' := [some ((41, 0)), some (vr 11 0), some (vr 12 466), some (vr 14 525), some (vi l4), none, none]) (And.intro rfl (And.intro rfl (And.intro rfl (And.intro rfl (And.intro rfl trivial))))) k
  · have k := kb q
    refine z_iconst dL_law_2405 rfl ?_
    exact k.elim
theorem bL_law_2357 {G : zG} {d kc ks : Nat} {l4 : Int} {h : zH} (hR : zRo room_1 kc ks d) (hL : zgL G ≤ 3072) (hi : 0 ≤ l4 ∧ l4 + 6 ≤ zgL G) (k : zCi G d mX11_past [vr 11 0, vi (zsc G (l4 + 1)), vi (zsc G (l4 + 2))] h (fun x1 h2 => zCi G d mX12_past [vr 12 466, vi (zsc G (l4 + 1)), vi (zsc G (l4 + 2))] h2 (fun x3 h4 => zR x1 ∧ zR x3 ∧ (x1 = x3 → tL_law_2526 G kc ks l4 h4) ∧ (¬ x1 = x3 → False)))) : tL_law_2357 G kc ks l4 h := by
  unfold tL_law_2357
  refine z_aload_n 1 dL_law_2357 rfl rfl (Nat.le_of_ble_eq_true rfl) rfl ?_
  refine z_aload_n 0 dL_law_2358 rfl rfl (Nat.le_of_ble_eq_true rfl) rfl ?_
  refine z_iload dL_law_2359 rfl rfl ?_
  refine z_iconst dL_law_2361 rfl ?_
  refine z_iadd dL_law_2362 rfl ?_
  refine z_sld (x := (zsc G (l4 + 1))) dL_law_2363 ⟨by omega, by omega⟩ (Nat.le_trans hL (by decide)) rfl rfl ?_
  refine z_aload_n 0 dL_law_2364 rfl rfl (Nat.le_of_ble_eq_true rfl) rfl ?_
  refine z_iload dL_law_2365 rfl rfl ?_
  refine z_iconst dL_law_2367 rfl ?_
  refine z_iadd dL_law_2368 rfl ?_
  refine z_sld (x := (zsc G (l4 + 2))) dL_law_2369 ⟨by omega, by omega⟩ (Nat.le_trans hL (by decide)) rfl rfl ?_
  refine z_callVi vX11_past kL_236 dL_law_2370 rfl hR (as := [vi (zsc G (l4 + 1)), vi (zsc G (l4 + 2))]) (rest := []) (Nat.le_of_ble_eq_true rfl) rfl rfl (zCi_mono (fun x1 h2 k => ?_) k)
  refine z_aload_n 2 dL_law_2373 rfl rfl (Nat.le_of_ble_eq_true rfl) rfl ?_
  refine z_aload_n 0 dL_law_2374 rfl rfl (Nat.le_of_ble_eq_true rfl) rfl ?_
  refine z_iload dL_law_2375 rfl rfl ?_
  refine z_iconst dL_law_2377 rfl ?_
  refine z_iadd dL_law_2378 rfl ?_
  refine z_sld (x := (zsc G (l4 + 1))) dL_law_2379 ⟨by omega, by omega⟩ (Nat.le_trans hL (by decide)) rfl rfl ?_
  refine z_aload_n 0 dL_law_2380 rfl rfl (Nat.le_of_ble_eq_true rfl) rfl ?_
  refine z_iload dL_law_2381 rfl rfl ?_
  refine z_iconst dL_law_2383 rfl ?_
  refine z_iadd dL_law_2384 rfl ?_
  refine z_sld (x := (zsc G (l4 + 2))) dL_law_2385 ⟨by omega, by omega⟩ (Nat.le_trans hL (by decide)) rfl rfl ?_
  refine z_callVi vX12_past kL_239 dL_law_2386 rfl hR (as := [vi (zsc G (l4 + 1)), vi (zsc G (l4 + 2))]) (rest := [vi x1]) (Nat.le_of_ble_eq_true rfl) rfl rfl (zCi_mono (fun x3 h4 k => ?_) k)
  obtain ⟨r1, r2, ka, kb⟩ := k
  refine z_icmp_eq (tgt := 2526) dL_law_2389 rfl r1 r2 rfl ⟨fun q => ?_, fun q => ?_⟩
  · have k := ka q
    exact z_sub (L' := [some ((41, 0)), some (vr 11 0), some (vr 12 466), some (vr 14 525), some (vi l4), none, none]) (And.intro rfl (And.intro rfl (And.intro rfl (And.intro rfl (And.intro rfl trivial))))) k
  · have k := kb q
    refine z_iconst dL_law_2392 rfl ?_
    exact k.elim
theorem bL_law_2320 {G : zG} {d kc ks : Nat} {l4 : Int} {h : zH} (hR : zRo room_1 kc ks d) (hL : zgL G ≤ 3072) (hi : 0 ≤ l4 ∧ l4 + 6 ≤ zgL G) (k : zCi G d mX11_moved [vr 11 0, vi (zsc G (l4 + 1)), vi (zsc G (l4 + 2))] h (fun x1 h2 => zCi G d mX12_moved [vr 12 466, vi (zsc G (l4 + 1)), vi (zsc G (l4 + 2))] h2 (fun x3 h4 => zR x1 ∧ zR x3 ∧ (x1 = x3 → tL_law_2526 G kc ks l4 h4) ∧ (¬ x1 = x3 → False)))) : tL_law_2320 G kc ks l4 h := by
  unfold tL_law_2320
  refine z_aload_n 1 dL_law_2320 rfl rfl (Nat.le_of_ble_eq_true rfl) rfl ?_
  refine z_aload_n 0 dL_law_2321 rfl rfl (Nat.le_of_ble_eq_true rfl) rfl ?_
  refine z_iload dL_law_2322 rfl rfl ?_
  refine z_iconst dL_law_2324 rfl ?_
  refine z_iadd dL_law_2325 rfl ?_
  refine z_sld (x := (zsc G (l4 + 1))) dL_law_2326 ⟨by omega, by omega⟩ (Nat.le_trans hL (by decide)) rfl rfl ?_
  refine z_aload_n 0 dL_law_2327 rfl rfl (Nat.le_of_ble_eq_true rfl) rfl ?_
  refine z_iload dL_law_2328 rfl rfl ?_
  refine z_iconst dL_law_2330 rfl ?_
  refine z_iadd dL_law_2331 rfl ?_
  refine z_sld (x := (zsc G (l4 + 2))) dL_law_2332 ⟨by omega, by omega⟩ (Nat.le_trans hL (by decide)) rfl rfl ?_
  refine z_callVi vX11_moved kL_232 dL_law_2333 rfl hR (as := [vi (zsc G (l4 + 1)), vi (zsc G (l4 + 2))]) (rest := []) (Nat.le_of_ble_eq_true rfl) rfl rfl (zCi_mono (fun x1 h2 k => ?_) k)
  refine z_aload_n 2 dL_law_2336 rfl rfl (Nat.le_of_ble_eq_true rfl) rfl ?_
  refine z_aload_n 0 dL_law_2337 rfl rfl (Nat.le_of_ble_eq_true rfl) rfl ?_
  refine z_iload dL_law_2338 rfl rfl ?_
  refine z_iconst dL_law_2340 rfl ?_
  refine z_iadd dL_law_2341 rfl ?_
  refine z_sld (x := (zsc G (l4 + 1))) dL_law_2342 ⟨by omega, by omega⟩ (Nat.le_trans hL (by decide)) rfl rfl ?_
  refine z_aload_n 0 dL_law_2343 rfl rfl (Nat.le_of_ble_eq_true rfl) rfl ?_
  refine z_iload dL_law_2344 rfl rfl ?_
  refine z_iconst dL_law_2346 rfl ?_
  refine z_iadd dL_law_2347 rfl ?_
  refine z_sld (x := (zsc G (l4 + 2))) dL_law_2348 ⟨by omega, by omega⟩ (Nat.le_trans hL (by decide)) rfl rfl ?_
  refine z_callVi vX12_moved kL_235 dL_law_2349 rfl hR (as := [vi (zsc G (l4 + 1)), vi (zsc G (l4 + 2))]) (rest := [vi x1]) (Nat.le_of_ble_eq_true rfl) rfl rfl (zCi_mono (fun x3 h4 k => ?_) k)
  obtain ⟨r1, r2, ka, kb⟩ := k
  refine z_icmp_eq (tgt := 2526) dL_law_2352 rfl r1 r2 rfl ⟨fun q => ?_, fun q => ?_⟩
  · have k := ka q
    exact z_sub (L' := [some ((41, 0)), some (vr 11 0), some (vr 12 466), some (vr 14 525), some (vi l4), none, none]) (And.intro rfl (And.intro rfl (And.intro rfl (And.intro rfl (And.intro rfl trivial))))) k
  · have k := kb q
    refine z_iconst dL_law_2355 rfl ?_
    exact k.elim
theorem bL_law_2283 {G : zG} {d kc ks : Nat} {l4 : Int} {h : zH} (hR : zRo room_1 kc ks d) (hL : zgL G ≤ 3072) (hi : 0 ≤ l4 ∧ l4 + 6 ≤ zgL G) (k : zCi G d mX11_only [vr 11 0, vi (zsc G (l4 + 1)), vi (zsc G (l4 + 2))] h (fun x1 h2 => zCi G d mX12_only [vr 12 466, vi (zsc G (l4 + 1)), vi (zsc G (l4 + 2))] h2 (fun x3 h4 => zR x1 ∧ zR x3 ∧ (x1 = x3 → tL_law_2526 G kc ks l4 h4) ∧ (¬ x1 = x3 → False)))) : tL_law_2283 G kc ks l4 h := by
  unfold tL_law_2283
  refine z_aload_n 1 dL_law_2283 rfl rfl (Nat.le_of_ble_eq_true rfl) rfl ?_
  refine z_aload_n 0 dL_law_2284 rfl rfl (Nat.le_of_ble_eq_true rfl) rfl ?_
  refine z_iload dL_law_2285 rfl rfl ?_
  refine z_iconst dL_law_2287 rfl ?_
  refine z_iadd dL_law_2288 rfl ?_
  refine z_sld (x := (zsc G (l4 + 1))) dL_law_2289 ⟨by omega, by omega⟩ (Nat.le_trans hL (by decide)) rfl rfl ?_
  refine z_aload_n 0 dL_law_2290 rfl rfl (Nat.le_of_ble_eq_true rfl) rfl ?_
  refine z_iload dL_law_2291 rfl rfl ?_
  refine z_iconst dL_law_2293 rfl ?_
  refine z_iadd dL_law_2294 rfl ?_
  refine z_sld (x := (zsc G (l4 + 2))) dL_law_2295 ⟨by omega, by omega⟩ (Nat.le_trans hL (by decide)) rfl rfl ?_
  refine z_callVi vX11_only kL_228 dL_law_2296 rfl hR (as := [vi (zsc G (l4 + 1)), vi (zsc G (l4 + 2))]) (rest := []) (Nat.le_of_ble_eq_true rfl) rfl rfl (zCi_mono (fun x1 h2 k => ?_) k)
  refine z_aload_n 2 dL_law_2299 rfl rfl (Nat.le_of_ble_eq_true rfl) rfl ?_
  refine z_aload_n 0 dL_law_2300 rfl rfl (Nat.le_of_ble_eq_true rfl) rfl ?_
  refine z_iload dL_law_2301 rfl rfl ?_
  refine z_iconst dL_law_2303 rfl ?_
  refine z_iadd dL_law_2304 rfl ?_
  refine z_sld (x := (zsc G (l4 + 1))) dL_law_2305 ⟨by omega, by omega⟩ (Nat.le_trans hL (by decide)) rfl rfl ?_
  refine z_aload_n 0 dL_law_2306 rfl rfl (Nat.le_of_ble_eq_true rfl) rfl ?_
  refine z_iload dL_law_2307 rfl rfl ?_
  refine z_iconst dL_law_2309 rfl ?_
  refine z_iadd dL_law_2310 rfl ?_
  refine z_sld (x := (zsc G (l4 + 2))) dL_law_2311 ⟨by omega, by omega⟩ (Nat.le_trans hL (by decide)) rfl rfl ?_
  refine z_callVi vX12_only kL_231 dL_law_2312 rfl hR (as := [vi (zsc G (l4 + 1)), vi (zsc G (l4 + 2))]) (rest := [vi x1]) (Nat.le_of_ble_eq_true rfl) rfl rfl (zCi_mono (fun x3 h4 k => ?_) k)
  obtain ⟨r1, r2, ka, kb⟩ := k
  refine z_icmp_eq (tgt := 2526) dL_law_2315 rfl r1 r2 rfl ⟨fun q => ?_, fun q => ?_⟩
  · have k := ka q
    exact z_sub (L' := [some ((41, 0)), some (vr 11 0), some (vr 12 466), some (vr 14 525), some (vi l4), none, none]) (And.intro rfl (And.intro rfl (And.intro rfl (And.intro rfl (And.intro rfl trivial))))) k
  · have k := kb q
    refine z_iconst dL_law_2318 rfl ?_
    exact k.elim
theorem bL_law_2258 {G : zG} {d kc ks : Nat} {l4 : Int} {h : zH} (hR : zRo room_1 kc ks d) (hL : zgL G ≤ 3072) (hi : 0 ≤ l4 ∧ l4 + 6 ≤ zgL G) (k : zCi G d mX11_backwards [vr 11 0, vi (zsc G (l4 + 1))] h (fun x1 h2 => zCi G d mX12_backwards [vr 12 466, vi (zsc G (l4 + 1))] h2 (fun x3 h4 => zR x1 ∧ zR x3 ∧ (x1 = x3 → tL_law_2526 G kc ks l4 h4) ∧ (¬ x1 = x3 → False)))) : tL_law_2258 G kc ks l4 h := by
  unfold tL_law_2258
  refine z_aload_n 1 dL_law_2258 rfl rfl (Nat.le_of_ble_eq_true rfl) rfl ?_
  refine z_aload_n 0 dL_law_2259 rfl rfl (Nat.le_of_ble_eq_true rfl) rfl ?_
  refine z_iload dL_law_2260 rfl rfl ?_
  refine z_iconst dL_law_2262 rfl ?_
  refine z_iadd dL_law_2263 rfl ?_
  refine z_sld (x := (zsc G (l4 + 1))) dL_law_2264 ⟨by omega, by omega⟩ (Nat.le_trans hL (by decide)) rfl rfl ?_
  refine z_callVi vX11_backwards kL_224 dL_law_2265 rfl hR (as := [vi (zsc G (l4 + 1))]) (rest := []) (Nat.le_of_ble_eq_true rfl) rfl rfl (zCi_mono (fun x1 h2 k => ?_) k)
  refine z_aload_n 2 dL_law_2268 rfl rfl (Nat.le_of_ble_eq_true rfl) rfl ?_
  refine z_aload_n 0 dL_law_2269 rfl rfl (Nat.le_of_ble_eq_true rfl) rfl ?_
  refine z_iload dL_law_2270 rfl rfl ?_
  refine z_iconst dL_law_2272 rfl ?_
  refine z_iadd dL_law_2273 rfl ?_
  refine z_sld (x := (zsc G (l4 + 1))) dL_law_2274 ⟨by omega, by omega⟩ (Nat.le_trans hL (by decide)) rfl rfl ?_
  refine z_callVi vX12_backwards kL_227 dL_law_2275 rfl hR (as := [vi (zsc G (l4 + 1))]) (rest := [vi x1]) (Nat.le_of_ble_eq_true rfl) rfl rfl (zCi_mono (fun x3 h4 k => ?_) k)
  obtain ⟨r1, r2, ka, kb⟩ := k
  refine z_icmp_eq (tgt := 2526) dL_law_2278 rfl r1 r2 rfl ⟨fun q => ?_, fun q => ?_⟩
  · have k := ka q
    exact z_sub (L' := [some ((41, 0)), some (vr 11 0), some (vr 12 466), some (vr 14 525), some (vi l4), none, none]) (And.intro rfl (And.intro rfl (And.intro rfl (And.intro rfl (And.intro rfl trivial))))) k
  · have k := kb q
    refine z_iconst dL_law_2281 rfl ?_
    exact k.elim
theorem bL_law_2233 {G : zG} {d kc ks : Nat} {l4 : Int} {h : zH} (hR : zRo room_1 kc ks d) (hL : zgL G ≤ 3072) (hi : 0 ≤ l4 ∧ l4 + 6 ≤ zgL G) (k : zCi G d mX11_again [vr 11 0, vi (zsc G (l4 + 1))] h (fun x1 h2 => zCi G d mX12_again [vr 12 466, vi (zsc G (l4 + 1))] h2 (fun x3 h4 => zR x1 ∧ zR x3 ∧ (x1 = x3 → tL_law_2526 G kc ks l4 h4) ∧ (¬ x1 = x3 → False)))) : tL_law_2233 G kc ks l4 h := by
  unfold tL_law_2233
  refine z_aload_n 1 dL_law_2233 rfl rfl (Nat.le_of_ble_eq_true rfl) rfl ?_
  refine z_aload_n 0 dL_law_2234 rfl rfl (Nat.le_of_ble_eq_true rfl) rfl ?_
  refine z_iload dL_law_2235 rfl rfl ?_
  refine z_iconst dL_law_2237 rfl ?_
  refine z_iadd dL_law_2238 rfl ?_
  refine z_sld (x := (zsc G (l4 + 1))) dL_law_2239 ⟨by omega, by omega⟩ (Nat.le_trans hL (by decide)) rfl rfl ?_
  refine z_callVi vX11_again kL_220 dL_law_2240 rfl hR (as := [vi (zsc G (l4 + 1))]) (rest := []) (Nat.le_of_ble_eq_true rfl) rfl rfl (zCi_mono (fun x1 h2 k => ?_) k)
  refine z_aload_n 2 dL_law_2243 rfl rfl (Nat.le_of_ble_eq_true rfl) rfl ?_
  refine z_aload_n 0 dL_law_2244 rfl rfl (Nat.le_of_ble_eq_true rfl) rfl ?_
  refine z_iload dL_law_2245 rfl rfl ?_
  refine z_iconst dL_law_2247 rfl ?_
  refine z_iadd dL_law_2248 rfl ?_
  refine z_sld (x := (zsc G (l4 + 1))) dL_law_2249 ⟨by omega, by omega⟩ (Nat.le_trans hL (by decide)) rfl rfl ?_
  refine z_callVi vX12_again kL_223 dL_law_2250 rfl hR (as := [vi (zsc G (l4 + 1))]) (rest := [vi x1]) (Nat.le_of_ble_eq_true rfl) rfl rfl (zCi_mono (fun x3 h4 k => ?_) k)
  obtain ⟨r1, r2, ka, kb⟩ := k
  refine z_icmp_eq (tgt := 2526) dL_law_2253 rfl r1 r2 rfl ⟨fun q => ?_, fun q => ?_⟩
  · have k := ka q
    exact z_sub (L' := [some ((41, 0)), some (vr 11 0), some (vr 12 466), some (vr 14 525), some (vi l4), none, none]) (And.intro rfl (And.intro rfl (And.intro rfl (And.intro rfl (And.intro rfl trivial))))) k
  · have k := kb q
    refine z_iconst dL_law_2256 rfl ?_
    exact k.elim
theorem bL_law_2196 {G : zG} {d kc ks : Nat} {l4 : Int} {h : zH} (hR : zRo room_1 kc ks d) (hL : zgL G ≤ 3072) (hi : 0 ≤ l4 ∧ l4 + 6 ≤ zgL G) (k : zCi G d mX11_behind [vr 11 0, vi (zsc G (l4 + 1)), vi (zsc G (l4 + 2))] h (fun x1 h2 => zCi G d mX12_behind [vr 12 466, vi (zsc G (l4 + 1)), vi (zsc G (l4 + 2))] h2 (fun x3 h4 => zR x1 ∧ zR x3 ∧ (x1 = x3 → tL_law_2526 G kc ks l4 h4) ∧ (¬ x1 = x3 → False)))) : tL_law_2196 G kc ks l4 h := by
  unfold tL_law_2196
  refine z_aload_n 1 dL_law_2196 rfl rfl (Nat.le_of_ble_eq_true rfl) rfl ?_
  refine z_aload_n 0 dL_law_2197 rfl rfl (Nat.le_of_ble_eq_true rfl) rfl ?_
  refine z_iload dL_law_2198 rfl rfl ?_
  refine z_iconst dL_law_2200 rfl ?_
  refine z_iadd dL_law_2201 rfl ?_
  refine z_sld (x := (zsc G (l4 + 1))) dL_law_2202 ⟨by omega, by omega⟩ (Nat.le_trans hL (by decide)) rfl rfl ?_
  refine z_aload_n 0 dL_law_2203 rfl rfl (Nat.le_of_ble_eq_true rfl) rfl ?_
  refine z_iload dL_law_2204 rfl rfl ?_
  refine z_iconst dL_law_2206 rfl ?_
  refine z_iadd dL_law_2207 rfl ?_
  refine z_sld (x := (zsc G (l4 + 2))) dL_law_2208 ⟨by omega, by omega⟩ (Nat.le_trans hL (by decide)) rfl rfl ?_
  refine z_callVi vX11_behind kL_216 dL_law_2209 rfl hR (as := [vi (zsc G (l4 + 1)), vi (zsc G (l4 + 2))]) (rest := []) (Nat.le_of_ble_eq_true rfl) rfl rfl (zCi_mono (fun x1 h2 k => ?_) k)
  refine z_aload_n 2 dL_law_2212 rfl rfl (Nat.le_of_ble_eq_true rfl) rfl ?_
  refine z_aload_n 0 dL_law_2213 rfl rfl (Nat.le_of_ble_eq_true rfl) rfl ?_
  refine z_iload dL_law_2214 rfl rfl ?_
  refine z_iconst dL_law_2216 rfl ?_
  refine z_iadd dL_law_2217 rfl ?_
  refine z_sld (x := (zsc G (l4 + 1))) dL_law_2218 ⟨by omega, by omega⟩ (Nat.le_trans hL (by decide)) rfl rfl ?_
  refine z_aload_n 0 dL_law_2219 rfl rfl (Nat.le_of_ble_eq_true rfl) rfl ?_
  refine z_iload dL_law_2220 rfl rfl ?_
  refine z_iconst dL_law_2222 rfl ?_
  refine z_iadd dL_law_2223 rfl ?_
  refine z_sld (x := (zsc G (l4 + 2))) dL_law_2224 ⟨by omega, by omega⟩ (Nat.le_trans hL (by decide)) rfl rfl ?_
  refine z_callVi vX12_behind kL_219 dL_law_2225 rfl hR (as := [vi (zsc G (l4 + 1)), vi (zsc G (l4 + 2))]) (rest := [vi x1]) (Nat.le_of_ble_eq_true rfl) rfl rfl (zCi_mono (fun x3 h4 k => ?_) k)
  obtain ⟨r1, r2, ka, kb⟩ := k
  refine z_icmp_eq (tgt := 2526) dL_law_2228 rfl r1 r2 rfl ⟨fun q => ?_, fun q => ?_⟩
  · have k := ka q
    exact z_sub (L' := [some ((41, 0)), some (vr 11 0), some (vr 12 466), some (vr 14 525), some (vi l4), none, none]) (And.intro rfl (And.intro rfl (And.intro rfl (And.intro rfl (And.intro rfl trivial))))) k
  · have k := kb q
    refine z_iconst dL_law_2231 rfl ?_
    exact k.elim
theorem bL_law_2147 {G : zG} {d kc ks : Nat} {l4 : Int} {h : zH} (hR : zRo room_1 kc ks d) (hL : zgL G ≤ 3072) (hi : 0 ≤ l4 ∧ l4 + 6 ≤ zgL G) (k : zCi G d mX11_join [vr 11 0, vi (zsc G (l4 + 1)), vi (zsc G (l4 + 2)), vi (zsc G (l4 + 3))] h (fun x1 h2 => zCi G d mX12_join [vr 12 466, vi (zsc G (l4 + 1)), vi (zsc G (l4 + 2)), vi (zsc G (l4 + 3))] h2 (fun x3 h4 => zR x1 ∧ zR x3 ∧ (x1 = x3 → tL_law_2526 G kc ks l4 h4) ∧ (¬ x1 = x3 → False)))) : tL_law_2147 G kc ks l4 h := by
  unfold tL_law_2147
  refine z_aload_n 1 dL_law_2147 rfl rfl (Nat.le_of_ble_eq_true rfl) rfl ?_
  refine z_aload_n 0 dL_law_2148 rfl rfl (Nat.le_of_ble_eq_true rfl) rfl ?_
  refine z_iload dL_law_2149 rfl rfl ?_
  refine z_iconst dL_law_2151 rfl ?_
  refine z_iadd dL_law_2152 rfl ?_
  refine z_sld (x := (zsc G (l4 + 1))) dL_law_2153 ⟨by omega, by omega⟩ (Nat.le_trans hL (by decide)) rfl rfl ?_
  refine z_aload_n 0 dL_law_2154 rfl rfl (Nat.le_of_ble_eq_true rfl) rfl ?_
  refine z_iload dL_law_2155 rfl rfl ?_
  refine z_iconst dL_law_2157 rfl ?_
  refine z_iadd dL_law_2158 rfl ?_
  refine z_sld (x := (zsc G (l4 + 2))) dL_law_2159 ⟨by omega, by omega⟩ (Nat.le_trans hL (by decide)) rfl rfl ?_
  refine z_aload_n 0 dL_law_2160 rfl rfl (Nat.le_of_ble_eq_true rfl) rfl ?_
  refine z_iload dL_law_2161 rfl rfl ?_
  refine z_iconst dL_law_2163 rfl ?_
  refine z_iadd dL_law_2164 rfl ?_
  refine z_sld (x := (zsc G (l4 + 3))) dL_law_2165 ⟨by omega, by omega⟩ (Nat.le_trans hL (by decide)) rfl rfl ?_
  refine z_callVi vX11_join kL_212 dL_law_2166 rfl hR (as := [vi (zsc G (l4 + 1)), vi (zsc G (l4 + 2)), vi (zsc G (l4 + 3))]) (rest := []) (Nat.le_of_ble_eq_true rfl) rfl rfl (zCi_mono (fun x1 h2 k => ?_) k)
  refine z_aload_n 2 dL_law_2169 rfl rfl (Nat.le_of_ble_eq_true rfl) rfl ?_
  refine z_aload_n 0 dL_law_2170 rfl rfl (Nat.le_of_ble_eq_true rfl) rfl ?_
  refine z_iload dL_law_2171 rfl rfl ?_
  refine z_iconst dL_law_2173 rfl ?_
  refine z_iadd dL_law_2174 rfl ?_
  refine z_sld (x := (zsc G (l4 + 1))) dL_law_2175 ⟨by omega, by omega⟩ (Nat.le_trans hL (by decide)) rfl rfl ?_
  refine z_aload_n 0 dL_law_2176 rfl rfl (Nat.le_of_ble_eq_true rfl) rfl ?_
  refine z_iload dL_law_2177 rfl rfl ?_
  refine z_iconst dL_law_2179 rfl ?_
  refine z_iadd dL_law_2180 rfl ?_
  refine z_sld (x := (zsc G (l4 + 2))) dL_law_2181 ⟨by omega, by omega⟩ (Nat.le_trans hL (by decide)) rfl rfl ?_
  refine z_aload_n 0 dL_law_2182 rfl rfl (Nat.le_of_ble_eq_true rfl) rfl ?_
  refine z_iload dL_law_2183 rfl rfl ?_
  refine z_iconst dL_law_2185 rfl ?_
  refine z_iadd dL_law_2186 rfl ?_
  refine z_sld (x := (zsc G (l4 + 3))) dL_law_2187 ⟨by omega, by omega⟩ (Nat.le_trans hL (by decide)) rfl rfl ?_
  refine z_callVi vX12_join kL_215 dL_law_2188 rfl hR (as := [vi (zsc G (l4 + 1)), vi (zsc G (l4 + 2)), vi (zsc G (l4 + 3))]) (rest := [vi x1]) (Nat.le_of_ble_eq_true rfl) rfl rfl (zCi_mono (fun x3 h4 k => ?_) k)
  obtain ⟨r1, r2, ka, kb⟩ := k
  refine z_icmp_eq (tgt := 2526) dL_law_2191 rfl r1 r2 rfl ⟨fun q => ?_, fun q => ?_⟩
  · have k := ka q
    exact z_sub (L' := [some ((41, 0)), some (vr 11 0), some (vr 12 466), some (vr 14 525), some (vi l4), none, none]) (And.intro rfl (And.intro rfl (And.intro rfl (And.intro rfl (And.intro rfl trivial))))) k
  · have k := kb q
    refine z_iconst dL_law_2194 rfl ?_
    exact k.elim
theorem bL_law_2122 {G : zG} {d kc ks : Nat} {l4 : Int} {h : zH} (hR : zRo room_1 kc ks d) (hL : zgL G ≤ 3072) (hi : 0 ≤ l4 ∧ l4 + 6 ≤ zgL G) (k : zCi G d mX11_other [vr 11 0, vi (zsc G (l4 + 1))] h (fun x1 h2 => zCi G d mX12_other [vr 12 466, vi (zsc G (l4 + 1))] h2 (fun x3 h4 => zR x1 ∧ zR x3 ∧ (x1 = x3 → tL_law_2526 G kc ks l4 h4) ∧ (¬ x1 = x3 → False)))) : tL_law_2122 G kc ks l4 h := by
  unfold tL_law_2122
  refine z_aload_n 1 dL_law_2122 rfl rfl (Nat.le_of_ble_eq_true rfl) rfl ?_
  refine z_aload_n 0 dL_law_2123 rfl rfl (Nat.le_of_ble_eq_true rfl) rfl ?_
  refine z_iload dL_law_2124 rfl rfl ?_
  refine z_iconst dL_law_2126 rfl ?_
  refine z_iadd dL_law_2127 rfl ?_
  refine z_sld (x := (zsc G (l4 + 1))) dL_law_2128 ⟨by omega, by omega⟩ (Nat.le_trans hL (by decide)) rfl rfl ?_
  refine z_callVi vX11_other kL_208 dL_law_2129 rfl hR (as := [vi (zsc G (l4 + 1))]) (rest := []) (Nat.le_of_ble_eq_true rfl) rfl rfl (zCi_mono (fun x1 h2 k => ?_) k)
  refine z_aload_n 2 dL_law_2132 rfl rfl (Nat.le_of_ble_eq_true rfl) rfl ?_
  refine z_aload_n 0 dL_law_2133 rfl rfl (Nat.le_of_ble_eq_true rfl) rfl ?_
  refine z_iload dL_law_2134 rfl rfl ?_
  refine z_iconst dL_law_2136 rfl ?_
  refine z_iadd dL_law_2137 rfl ?_
  refine z_sld (x := (zsc G (l4 + 1))) dL_law_2138 ⟨by omega, by omega⟩ (Nat.le_trans hL (by decide)) rfl rfl ?_
  refine z_callVi vX12_other kL_211 dL_law_2139 rfl hR (as := [vi (zsc G (l4 + 1))]) (rest := [vi x1]) (Nat.le_of_ble_eq_true rfl) rfl rfl (zCi_mono (fun x3 h4 k => ?_) k)
  obtain ⟨r1, r2, ka, kb⟩ := k
  refine z_icmp_eq (tgt := 2526) dL_law_2142 rfl r1 r2 rfl ⟨fun q => ?_, fun q => ?_⟩
  · have k := ka q
    exact z_sub (L' := [some ((41, 0)), some (vr 11 0), some (vr 12 466), some (vr 14 525), some (vi l4), none, none]) (And.intro rfl (And.intro rfl (And.intro rfl (And.intro rfl (And.intro rfl trivial))))) k
  · have k := kb q
    refine z_iconst dL_law_2145 rfl ?_
    exact k.elim
theorem bL_law_2097 {G : zG} {d kc ks : Nat} {l4 : Int} {h : zH} (hR : zRo room_1 kc ks d) (hL : zgL G ≤ 3072) (hi : 0 ≤ l4 ∧ l4 + 6 ≤ zgL G) (k : zCi G d mX11_least [vr 11 0, vi (zsc G (l4 + 1))] h (fun x1 h2 => zCi G d mX12_least [vr 12 466, vi (zsc G (l4 + 1))] h2 (fun x3 h4 => zR x1 ∧ zR x3 ∧ (x1 = x3 → tL_law_2526 G kc ks l4 h4) ∧ (¬ x1 = x3 → False)))) : tL_law_2097 G kc ks l4 h := by
  unfold tL_law_2097
  refine z_aload_n 1 dL_law_2097 rfl rfl (Nat.le_of_ble_eq_true rfl) rfl ?_
  refine z_aload_n 0 dL_law_2098 rfl rfl (Nat.le_of_ble_eq_true rfl) rfl ?_
  refine z_iload dL_law_2099 rfl rfl ?_
  refine z_iconst dL_law_2101 rfl ?_
  refine z_iadd dL_law_2102 rfl ?_
  refine z_sld (x := (zsc G (l4 + 1))) dL_law_2103 ⟨by omega, by omega⟩ (Nat.le_trans hL (by decide)) rfl rfl ?_
  refine z_callVi vX11_least kL_204 dL_law_2104 rfl hR (as := [vi (zsc G (l4 + 1))]) (rest := []) (Nat.le_of_ble_eq_true rfl) rfl rfl (zCi_mono (fun x1 h2 k => ?_) k)
  refine z_aload_n 2 dL_law_2107 rfl rfl (Nat.le_of_ble_eq_true rfl) rfl ?_
  refine z_aload_n 0 dL_law_2108 rfl rfl (Nat.le_of_ble_eq_true rfl) rfl ?_
  refine z_iload dL_law_2109 rfl rfl ?_
  refine z_iconst dL_law_2111 rfl ?_
  refine z_iadd dL_law_2112 rfl ?_
  refine z_sld (x := (zsc G (l4 + 1))) dL_law_2113 ⟨by omega, by omega⟩ (Nat.le_trans hL (by decide)) rfl rfl ?_
  refine z_callVi vX12_least kL_207 dL_law_2114 rfl hR (as := [vi (zsc G (l4 + 1))]) (rest := [vi x1]) (Nat.le_of_ble_eq_true rfl) rfl rfl (zCi_mono (fun x3 h4 k => ?_) k)
  obtain ⟨r1, r2, ka, kb⟩ := k
  refine z_icmp_eq (tgt := 2526) dL_law_2117 rfl r1 r2 rfl ⟨fun q => ?_, fun q => ?_⟩
  · have k := ka q
    exact z_sub (L' := [some ((41, 0)), some (vr 11 0), some (vr 12 466), some (vr 14 525), some (vi l4), none, none]) (And.intro rfl (And.intro rfl (And.intro rfl (And.intro rfl (And.intro rfl trivial))))) k
  · have k := kb q
    refine z_iconst dL_law_2120 rfl ?_
    exact k.elim
theorem bL_law_2072 {G : zG} {d kc ks : Nat} {l4 : Int} {h : zH} (hR : zRo room_1 kc ks d) (hL : zgL G ≤ 3072) (hi : 0 ≤ l4 ∧ l4 + 6 ≤ zgL G) (k : zCi G d mX11_sure [vr 11 0, vi (zsc G (l4 + 1))] h (fun x1 h2 => zCi G d mX12_sure [vr 12 466, vi (zsc G (l4 + 1))] h2 (fun x3 h4 => zR x1 ∧ zR x3 ∧ (x1 = x3 → tL_law_2526 G kc ks l4 h4) ∧ (¬ x1 = x3 → False)))) : tL_law_2072 G kc ks l4 h := by
  unfold tL_law_2072
  refine z_aload_n 1 dL_law_2072 rfl rfl (Nat.le_of_ble_eq_true rfl) rfl ?_
  refine z_aload_n 0 dL_law_2073 rfl rfl (Nat.le_of_ble_eq_true rfl) rfl ?_
  refine z_iload dL_law_2074 rfl rfl ?_
  refine z_iconst dL_law_2076 rfl ?_
  refine z_iadd dL_law_2077 rfl ?_
  refine z_sld (x := (zsc G (l4 + 1))) dL_law_2078 ⟨by omega, by omega⟩ (Nat.le_trans hL (by decide)) rfl rfl ?_
  refine z_callVi vX11_sure kL_200 dL_law_2079 rfl hR (as := [vi (zsc G (l4 + 1))]) (rest := []) (Nat.le_of_ble_eq_true rfl) rfl rfl (zCi_mono (fun x1 h2 k => ?_) k)
  refine z_aload_n 2 dL_law_2082 rfl rfl (Nat.le_of_ble_eq_true rfl) rfl ?_
  refine z_aload_n 0 dL_law_2083 rfl rfl (Nat.le_of_ble_eq_true rfl) rfl ?_
  refine z_iload dL_law_2084 rfl rfl ?_
  refine z_iconst dL_law_2086 rfl ?_
  refine z_iadd dL_law_2087 rfl ?_
  refine z_sld (x := (zsc G (l4 + 1))) dL_law_2088 ⟨by omega, by omega⟩ (Nat.le_trans hL (by decide)) rfl rfl ?_
  refine z_callVi vX12_sure kL_203 dL_law_2089 rfl hR (as := [vi (zsc G (l4 + 1))]) (rest := [vi x1]) (Nat.le_of_ble_eq_true rfl) rfl rfl (zCi_mono (fun x3 h4 k => ?_) k)
  obtain ⟨r1, r2, ka, kb⟩ := k
  refine z_icmp_eq (tgt := 2526) dL_law_2092 rfl r1 r2 rfl ⟨fun q => ?_, fun q => ?_⟩
  · have k := ka q
    exact z_sub (L' := [some ((41, 0)), some (vr 11 0), some (vr 12 466), some (vr 14 525), some (vi l4), none, none]) (And.intro rfl (And.intro rfl (And.intro rfl (And.intro rfl (And.intro rfl trivial))))) k
  · have k := kb q
    refine z_iconst dL_law_2095 rfl ?_
    exact k.elim
theorem bL_law_2035 {G : zG} {d kc ks : Nat} {l4 : Int} {h : zH} (hR : zRo room_1 kc ks d) (hL : zgL G ≤ 3072) (hi : 0 ≤ l4 ∧ l4 + 6 ≤ zgL G) (k : zCi G d mX11_within [vr 11 0, vi (zsc G (l4 + 1)), vi (zsc G (l4 + 2))] h (fun x1 h2 => zCi G d mX12_within [vr 12 466, vi (zsc G (l4 + 1)), vi (zsc G (l4 + 2))] h2 (fun x3 h4 => zR x1 ∧ zR x3 ∧ (x1 = x3 → tL_law_2526 G kc ks l4 h4) ∧ (¬ x1 = x3 → False)))) : tL_law_2035 G kc ks l4 h := by
  unfold tL_law_2035
  refine z_aload_n 1 dL_law_2035 rfl rfl (Nat.le_of_ble_eq_true rfl) rfl ?_
  refine z_aload_n 0 dL_law_2036 rfl rfl (Nat.le_of_ble_eq_true rfl) rfl ?_
  refine z_iload dL_law_2037 rfl rfl ?_
  refine z_iconst dL_law_2039 rfl ?_
  refine z_iadd dL_law_2040 rfl ?_
  refine z_sld (x := (zsc G (l4 + 1))) dL_law_2041 ⟨by omega, by omega⟩ (Nat.le_trans hL (by decide)) rfl rfl ?_
  refine z_aload_n 0 dL_law_2042 rfl rfl (Nat.le_of_ble_eq_true rfl) rfl ?_
  refine z_iload dL_law_2043 rfl rfl ?_
  refine z_iconst dL_law_2045 rfl ?_
  refine z_iadd dL_law_2046 rfl ?_
  refine z_sld (x := (zsc G (l4 + 2))) dL_law_2047 ⟨by omega, by omega⟩ (Nat.le_trans hL (by decide)) rfl rfl ?_
  refine z_callVi vX11_within kL_196 dL_law_2048 rfl hR (as := [vi (zsc G (l4 + 1)), vi (zsc G (l4 + 2))]) (rest := []) (Nat.le_of_ble_eq_true rfl) rfl rfl (zCi_mono (fun x1 h2 k => ?_) k)
  refine z_aload_n 2 dL_law_2051 rfl rfl (Nat.le_of_ble_eq_true rfl) rfl ?_
  refine z_aload_n 0 dL_law_2052 rfl rfl (Nat.le_of_ble_eq_true rfl) rfl ?_
  refine z_iload dL_law_2053 rfl rfl ?_
  refine z_iconst dL_law_2055 rfl ?_
  refine z_iadd dL_law_2056 rfl ?_
  refine z_sld (x := (zsc G (l4 + 1))) dL_law_2057 ⟨by omega, by omega⟩ (Nat.le_trans hL (by decide)) rfl rfl ?_
  refine z_aload_n 0 dL_law_2058 rfl rfl (Nat.le_of_ble_eq_true rfl) rfl ?_
  refine z_iload dL_law_2059 rfl rfl ?_
  refine z_iconst dL_law_2061 rfl ?_
  refine z_iadd dL_law_2062 rfl ?_
  refine z_sld (x := (zsc G (l4 + 2))) dL_law_2063 ⟨by omega, by omega⟩ (Nat.le_trans hL (by decide)) rfl rfl ?_
  refine z_callVi vX12_within kL_199 dL_law_2064 rfl hR (as := [vi (zsc G (l4 + 1)), vi (zsc G (l4 + 2))]) (rest := [vi x1]) (Nat.le_of_ble_eq_true rfl) rfl rfl (zCi_mono (fun x3 h4 k => ?_) k)
  obtain ⟨r1, r2, ka, kb⟩ := k
  refine z_icmp_eq (tgt := 2526) dL_law_2067 rfl r1 r2 rfl ⟨fun q => ?_, fun q => ?_⟩
  · have k := ka q
    exact z_sub (L' := [some ((41, 0)), some (vr 11 0), some (vr 12 466), some (vr 14 525), some (vi l4), none, none]) (And.intro rfl (And.intro rfl (And.intro rfl (And.intro rfl (And.intro rfl trivial))))) k
  · have k := kb q
    refine z_iconst dL_law_2070 rfl ?_
    exact k.elim
theorem bL_law_1998 {G : zG} {d kc ks : Nat} {l4 : Int} {h : zH} (hR : zRo room_1 kc ks d) (hL : zgL G ≤ 3072) (hi : 0 ≤ l4 ∧ l4 + 6 ≤ zgL G) (k : zCi G d mX11_same [vr 11 0, vi (zsc G (l4 + 1)), vi (zsc G (l4 + 2))] h (fun x1 h2 => zCi G d mX12_same [vr 12 466, vi (zsc G (l4 + 1)), vi (zsc G (l4 + 2))] h2 (fun x3 h4 => zR x1 ∧ zR x3 ∧ (x1 = x3 → tL_law_2526 G kc ks l4 h4) ∧ (¬ x1 = x3 → False)))) : tL_law_1998 G kc ks l4 h := by
  unfold tL_law_1998
  refine z_aload_n 1 dL_law_1998 rfl rfl (Nat.le_of_ble_eq_true rfl) rfl ?_
  refine z_aload_n 0 dL_law_1999 rfl rfl (Nat.le_of_ble_eq_true rfl) rfl ?_
  refine z_iload dL_law_2000 rfl rfl ?_
  refine z_iconst dL_law_2002 rfl ?_
  refine z_iadd dL_law_2003 rfl ?_
  refine z_sld (x := (zsc G (l4 + 1))) dL_law_2004 ⟨by omega, by omega⟩ (Nat.le_trans hL (by decide)) rfl rfl ?_
  refine z_aload_n 0 dL_law_2005 rfl rfl (Nat.le_of_ble_eq_true rfl) rfl ?_
  refine z_iload dL_law_2006 rfl rfl ?_
  refine z_iconst dL_law_2008 rfl ?_
  refine z_iadd dL_law_2009 rfl ?_
  refine z_sld (x := (zsc G (l4 + 2))) dL_law_2010 ⟨by omega, by omega⟩ (Nat.le_trans hL (by decide)) rfl rfl ?_
  refine z_callVi vX11_same kL_192 dL_law_2011 rfl hR (as := [vi (zsc G (l4 + 1)), vi (zsc G (l4 + 2))]) (rest := []) (Nat.le_of_ble_eq_true rfl) rfl rfl (zCi_mono (fun x1 h2 k => ?_) k)
  refine z_aload_n 2 dL_law_2014 rfl rfl (Nat.le_of_ble_eq_true rfl) rfl ?_
  refine z_aload_n 0 dL_law_2015 rfl rfl (Nat.le_of_ble_eq_true rfl) rfl ?_
  refine z_iload dL_law_2016 rfl rfl ?_
  refine z_iconst dL_law_2018 rfl ?_
  refine z_iadd dL_law_2019 rfl ?_
  refine z_sld (x := (zsc G (l4 + 1))) dL_law_2020 ⟨by omega, by omega⟩ (Nat.le_trans hL (by decide)) rfl rfl ?_
  refine z_aload_n 0 dL_law_2021 rfl rfl (Nat.le_of_ble_eq_true rfl) rfl ?_
  refine z_iload dL_law_2022 rfl rfl ?_
  refine z_iconst dL_law_2024 rfl ?_
  refine z_iadd dL_law_2025 rfl ?_
  refine z_sld (x := (zsc G (l4 + 2))) dL_law_2026 ⟨by omega, by omega⟩ (Nat.le_trans hL (by decide)) rfl rfl ?_
  refine z_callVi vX12_same kL_195 dL_law_2027 rfl hR (as := [vi (zsc G (l4 + 1)), vi (zsc G (l4 + 2))]) (rest := [vi x1]) (Nat.le_of_ble_eq_true rfl) rfl rfl (zCi_mono (fun x3 h4 k => ?_) k)
  obtain ⟨r1, r2, ka, kb⟩ := k
  refine z_icmp_eq (tgt := 2526) dL_law_2030 rfl r1 r2 rfl ⟨fun q => ?_, fun q => ?_⟩
  · have k := ka q
    exact z_sub (L' := [some ((41, 0)), some (vr 11 0), some (vr 12 466), some (vr 14 525), some (vi l4), none, none]) (And.intro rfl (And.intro rfl (And.intro rfl (And.intro rfl (And.intro rfl trivial))))) k
  · have k := kb q
    refine z_iconst dL_law_2033 rfl ?_
    exact k.elim
theorem bL_law_1937 {G : zG} {d kc ks : Nat} {l4 : Int} {h : zH} (hR : zRo room_1 kc ks d) (hL : zgL G ≤ 3072) (hi : 0 ≤ l4 ∧ l4 + 6 ≤ zgL G) (k : zCi G d mX11_foundLetter [vr 11 0, vi (zsc G (l4 + 1)), vi (zsc G (l4 + 2)), vi (zsc G (l4 + 3)), vi (zsc G (l4 + 4))] h (fun x1 h2 => zCi G d mX12_foundLetter [vr 12 466, vi (zsc G (l4 + 1)), vi (zsc G (l4 + 2)), vi (zsc G (l4 + 3)), vi (zsc G (l4 + 4))] h2 (fun x3 h4 => zR x1 ∧ zR x3 ∧ (x1 = x3 → tL_law_2526 G kc ks l4 h4) ∧ (¬ x1 = x3 → False)))) : tL_law_1937 G kc ks l4 h := by
  unfold tL_law_1937
  refine z_aload_n 1 dL_law_1937 rfl rfl (Nat.le_of_ble_eq_true rfl) rfl ?_
  refine z_aload_n 0 dL_law_1938 rfl rfl (Nat.le_of_ble_eq_true rfl) rfl ?_
  refine z_iload dL_law_1939 rfl rfl ?_
  refine z_iconst dL_law_1941 rfl ?_
  refine z_iadd dL_law_1942 rfl ?_
  refine z_sld (x := (zsc G (l4 + 1))) dL_law_1943 ⟨by omega, by omega⟩ (Nat.le_trans hL (by decide)) rfl rfl ?_
  refine z_aload_n 0 dL_law_1944 rfl rfl (Nat.le_of_ble_eq_true rfl) rfl ?_
  refine z_iload dL_law_1945 rfl rfl ?_
  refine z_iconst dL_law_1947 rfl ?_
  refine z_iadd dL_law_1948 rfl ?_
  refine z_sld (x := (zsc G (l4 + 2))) dL_law_1949 ⟨by omega, by omega⟩ (Nat.le_trans hL (by decide)) rfl rfl ?_
  refine z_aload_n 0 dL_law_1950 rfl rfl (Nat.le_of_ble_eq_true rfl) rfl ?_
  refine z_iload dL_law_1951 rfl rfl ?_
  refine z_iconst dL_law_1953 rfl ?_
  refine z_iadd dL_law_1954 rfl ?_
  refine z_sld (x := (zsc G (l4 + 3))) dL_law_1955 ⟨by omega, by omega⟩ (Nat.le_trans hL (by decide)) rfl rfl ?_
  refine z_aload_n 0 dL_law_1956 rfl rfl (Nat.le_of_ble_eq_true rfl) rfl ?_
  refine z_iload dL_law_1957 rfl rfl ?_
  refine z_iconst dL_law_1959 rfl ?_
  refine z_iadd dL_law_1960 rfl ?_
  refine z_sld (x := (zsc G (l4 + 4))) dL_law_1961 ⟨by omega, by omega⟩ (Nat.le_trans hL (by decide)) rfl rfl ?_
  refine z_callVi vX11_foundLetter kL_188 dL_law_1962 rfl hR (as := [vi (zsc G (l4 + 1)), vi (zsc G (l4 + 2)), vi (zsc G (l4 + 3)), vi (zsc G (l4 + 4))]) (rest := []) (Nat.le_of_ble_eq_true rfl) rfl rfl (zCi_mono (fun x1 h2 k => ?_) k)
  refine z_aload_n 2 dL_law_1965 rfl rfl (Nat.le_of_ble_eq_true rfl) rfl ?_
  refine z_aload_n 0 dL_law_1966 rfl rfl (Nat.le_of_ble_eq_true rfl) rfl ?_
  refine z_iload dL_law_1967 rfl rfl ?_
  refine z_iconst dL_law_1969 rfl ?_
  refine z_iadd dL_law_1970 rfl ?_
  refine z_sld (x := (zsc G (l4 + 1))) dL_law_1971 ⟨by omega, by omega⟩ (Nat.le_trans hL (by decide)) rfl rfl ?_
  refine z_aload_n 0 dL_law_1972 rfl rfl (Nat.le_of_ble_eq_true rfl) rfl ?_
  refine z_iload dL_law_1973 rfl rfl ?_
  refine z_iconst dL_law_1975 rfl ?_
  refine z_iadd dL_law_1976 rfl ?_
  refine z_sld (x := (zsc G (l4 + 2))) dL_law_1977 ⟨by omega, by omega⟩ (Nat.le_trans hL (by decide)) rfl rfl ?_
  refine z_aload_n 0 dL_law_1978 rfl rfl (Nat.le_of_ble_eq_true rfl) rfl ?_
  refine z_iload dL_law_1979 rfl rfl ?_
  refine z_iconst dL_law_1981 rfl ?_
  refine z_iadd dL_law_1982 rfl ?_
  refine z_sld (x := (zsc G (l4 + 3))) dL_law_1983 ⟨by omega, by omega⟩ (Nat.le_trans hL (by decide)) rfl rfl ?_
  refine z_aload_n 0 dL_law_1984 rfl rfl (Nat.le_of_ble_eq_true rfl) rfl ?_
  refine z_iload dL_law_1985 rfl rfl ?_
  refine z_iconst dL_law_1987 rfl ?_
  refine z_iadd dL_law_1988 rfl ?_
  refine z_sld (x := (zsc G (l4 + 4))) dL_law_1989 ⟨by omega, by omega⟩ (Nat.le_trans hL (by decide)) rfl rfl ?_
  refine z_callVi vX12_foundLetter kL_191 dL_law_1990 rfl hR (as := [vi (zsc G (l4 + 1)), vi (zsc G (l4 + 2)), vi (zsc G (l4 + 3)), vi (zsc G (l4 + 4))]) (rest := [vi x1]) (Nat.le_of_ble_eq_true rfl) rfl rfl (zCi_mono (fun x3 h4 k => ?_) k)
  obtain ⟨r1, r2, ka, kb⟩ := k
  refine z_icmp_eq (tgt := 2526) dL_law_1993 rfl r1 r2 rfl ⟨fun q => ?_, fun q => ?_⟩
  · have k := ka q
    exact z_sub (L' := [some ((41, 0)), some (vr 11 0), some (vr 12 466), some (vr 14 525), some (vi l4), none, none]) (And.intro rfl (And.intro rfl (And.intro rfl (And.intro rfl (And.intro rfl trivial))))) k
  · have k := kb q
    refine z_iconst dL_law_1996 rfl ?_
    exact k.elim
theorem bL_law_1888 {G : zG} {d kc ks : Nat} {l4 : Int} {h : zH} (hR : zRo room_1 kc ks d) (hL : zgL G ≤ 3072) (hi : 0 ≤ l4 ∧ l4 + 6 ≤ zgL G) (k : zCi G d mX11_found [vr 11 0, vi (zsc G (l4 + 1)), vi (zsc G (l4 + 2)), vi (zsc G (l4 + 3))] h (fun x1 h2 => zCi G d mX12_found [vr 12 466, vi (zsc G (l4 + 1)), vi (zsc G (l4 + 2)), vi (zsc G (l4 + 3))] h2 (fun x3 h4 => zR x1 ∧ zR x3 ∧ (x1 = x3 → tL_law_2526 G kc ks l4 h4) ∧ (¬ x1 = x3 → False)))) : tL_law_1888 G kc ks l4 h := by
  unfold tL_law_1888
  refine z_aload_n 1 dL_law_1888 rfl rfl (Nat.le_of_ble_eq_true rfl) rfl ?_
  refine z_aload_n 0 dL_law_1889 rfl rfl (Nat.le_of_ble_eq_true rfl) rfl ?_
  refine z_iload dL_law_1890 rfl rfl ?_
  refine z_iconst dL_law_1892 rfl ?_
  refine z_iadd dL_law_1893 rfl ?_
  refine z_sld (x := (zsc G (l4 + 1))) dL_law_1894 ⟨by omega, by omega⟩ (Nat.le_trans hL (by decide)) rfl rfl ?_
  refine z_aload_n 0 dL_law_1895 rfl rfl (Nat.le_of_ble_eq_true rfl) rfl ?_
  refine z_iload dL_law_1896 rfl rfl ?_
  refine z_iconst dL_law_1898 rfl ?_
  refine z_iadd dL_law_1899 rfl ?_
  refine z_sld (x := (zsc G (l4 + 2))) dL_law_1900 ⟨by omega, by omega⟩ (Nat.le_trans hL (by decide)) rfl rfl ?_
  refine z_aload_n 0 dL_law_1901 rfl rfl (Nat.le_of_ble_eq_true rfl) rfl ?_
  refine z_iload dL_law_1902 rfl rfl ?_
  refine z_iconst dL_law_1904 rfl ?_
  refine z_iadd dL_law_1905 rfl ?_
  refine z_sld (x := (zsc G (l4 + 3))) dL_law_1906 ⟨by omega, by omega⟩ (Nat.le_trans hL (by decide)) rfl rfl ?_
  refine z_callVi vX11_found kL_184 dL_law_1907 rfl hR (as := [vi (zsc G (l4 + 1)), vi (zsc G (l4 + 2)), vi (zsc G (l4 + 3))]) (rest := []) (Nat.le_of_ble_eq_true rfl) rfl rfl (zCi_mono (fun x1 h2 k => ?_) k)
  refine z_aload_n 2 dL_law_1910 rfl rfl (Nat.le_of_ble_eq_true rfl) rfl ?_
  refine z_aload_n 0 dL_law_1911 rfl rfl (Nat.le_of_ble_eq_true rfl) rfl ?_
  refine z_iload dL_law_1912 rfl rfl ?_
  refine z_iconst dL_law_1914 rfl ?_
  refine z_iadd dL_law_1915 rfl ?_
  refine z_sld (x := (zsc G (l4 + 1))) dL_law_1916 ⟨by omega, by omega⟩ (Nat.le_trans hL (by decide)) rfl rfl ?_
  refine z_aload_n 0 dL_law_1917 rfl rfl (Nat.le_of_ble_eq_true rfl) rfl ?_
  refine z_iload dL_law_1918 rfl rfl ?_
  refine z_iconst dL_law_1920 rfl ?_
  refine z_iadd dL_law_1921 rfl ?_
  refine z_sld (x := (zsc G (l4 + 2))) dL_law_1922 ⟨by omega, by omega⟩ (Nat.le_trans hL (by decide)) rfl rfl ?_
  refine z_aload_n 0 dL_law_1923 rfl rfl (Nat.le_of_ble_eq_true rfl) rfl ?_
  refine z_iload dL_law_1924 rfl rfl ?_
  refine z_iconst dL_law_1926 rfl ?_
  refine z_iadd dL_law_1927 rfl ?_
  refine z_sld (x := (zsc G (l4 + 3))) dL_law_1928 ⟨by omega, by omega⟩ (Nat.le_trans hL (by decide)) rfl rfl ?_
  refine z_callVi vX12_found kL_187 dL_law_1929 rfl hR (as := [vi (zsc G (l4 + 1)), vi (zsc G (l4 + 2)), vi (zsc G (l4 + 3))]) (rest := [vi x1]) (Nat.le_of_ble_eq_true rfl) rfl rfl (zCi_mono (fun x3 h4 k => ?_) k)
  obtain ⟨r1, r2, ka, kb⟩ := k
  refine z_icmp_eq (tgt := 2526) dL_law_1932 rfl r1 r2 rfl ⟨fun q => ?_, fun q => ?_⟩
  · have k := ka q
    exact z_sub (L' := [some ((41, 0)), some (vr 11 0), some (vr 12 466), some (vr 14 525), some (vi l4), none, none]) (And.intro rfl (And.intro rfl (And.intro rfl (And.intro rfl (And.intro rfl trivial))))) k
  · have k := kb q
    refine z_iconst dL_law_1935 rfl ?_
    exact k.elim
theorem bL_law_1863 {G : zG} {d kc ks : Nat} {l4 : Int} {h : zH} (hR : zRo room_1 kc ks d) (hL : zgL G ≤ 3072) (hi : 0 ≤ l4 ∧ l4 + 6 ≤ zgL G) (k : zCi G d mX11_longest [vr 11 0, vi (zsc G (l4 + 1))] h (fun x1 h2 => zCi G d mX12_longest [vr 12 466, vi (zsc G (l4 + 1))] h2 (fun x3 h4 => zR x1 ∧ zR x3 ∧ (x1 = x3 → tL_law_2526 G kc ks l4 h4) ∧ (¬ x1 = x3 → False)))) : tL_law_1863 G kc ks l4 h := by
  unfold tL_law_1863
  refine z_aload_n 1 dL_law_1863 rfl rfl (Nat.le_of_ble_eq_true rfl) rfl ?_
  refine z_aload_n 0 dL_law_1864 rfl rfl (Nat.le_of_ble_eq_true rfl) rfl ?_
  refine z_iload dL_law_1865 rfl rfl ?_
  refine z_iconst dL_law_1867 rfl ?_
  refine z_iadd dL_law_1868 rfl ?_
  refine z_sld (x := (zsc G (l4 + 1))) dL_law_1869 ⟨by omega, by omega⟩ (Nat.le_trans hL (by decide)) rfl rfl ?_
  refine z_callVi vX11_longest kL_180 dL_law_1870 rfl hR (as := [vi (zsc G (l4 + 1))]) (rest := []) (Nat.le_of_ble_eq_true rfl) rfl rfl (zCi_mono (fun x1 h2 k => ?_) k)
  refine z_aload_n 2 dL_law_1873 rfl rfl (Nat.le_of_ble_eq_true rfl) rfl ?_
  refine z_aload_n 0 dL_law_1874 rfl rfl (Nat.le_of_ble_eq_true rfl) rfl ?_
  refine z_iload dL_law_1875 rfl rfl ?_
  refine z_iconst dL_law_1877 rfl ?_
  refine z_iadd dL_law_1878 rfl ?_
  refine z_sld (x := (zsc G (l4 + 1))) dL_law_1879 ⟨by omega, by omega⟩ (Nat.le_trans hL (by decide)) rfl rfl ?_
  refine z_callVi vX12_longest kL_183 dL_law_1880 rfl hR (as := [vi (zsc G (l4 + 1))]) (rest := [vi x1]) (Nat.le_of_ble_eq_true rfl) rfl rfl (zCi_mono (fun x3 h4 k => ?_) k)
  obtain ⟨r1, r2, ka, kb⟩ := k
  refine z_icmp_eq (tgt := 2526) dL_law_1883 rfl r1 r2 rfl ⟨fun q => ?_, fun q => ?_⟩
  · have k := ka q
    exact z_sub (L' := [some ((41, 0)), some (vr 11 0), some (vr 12 466), some (vr 14 525), some (vi l4), none, none]) (And.intro rfl (And.intro rfl (And.intro rfl (And.intro rfl (And.intro rfl trivial))))) k
  · have k := kb q
    refine z_iconst dL_law_1886 rfl ?_
    exact k.elim
theorem bL_law_1770 {G : zG} {d kc ks : Nat} {l4 : Int} {h : zH} (hR : zRo room_1 kc ks d) (hL : zgL G ≤ 3072) (hi : 0 ≤ l4 ∧ l4 + 6 ≤ zgL G) (k : zCi G d mX11_at [vr 11 0, vi (zsc G (l4 + 1)), vi (zsc G (l4 + 2)), vl (zlor (zlshl (zsc G (l4 + 3)) 32) (zland (zsc G (l4 + 4)) 4294967295)), vi (zsc G (l4 + 5))] h (fun x1 h2 => zCi G d mX12_at [vr 12 466, vi (zsc G (l4 + 1)), vi (zsc G (l4 + 2)), vl (zlor (zlshl (zsc G (l4 + 3)) 32) (zland (zsc G (l4 + 4)) 4294967295)), vi (zsc G (l4 + 5))] h2 (fun x3 h4 => zR x1 ∧ zR x3 ∧ (x1 = x3 → tL_law_2526 G kc ks l4 h4) ∧ (¬ x1 = x3 → False)))) : tL_law_1770 G kc ks l4 h := by
  unfold tL_law_1770
  refine z_aload_n 1 dL_law_1770 rfl rfl (Nat.le_of_ble_eq_true rfl) rfl ?_
  refine z_aload_n 0 dL_law_1771 rfl rfl (Nat.le_of_ble_eq_true rfl) rfl ?_
  refine z_iload dL_law_1772 rfl rfl ?_
  refine z_iconst dL_law_1774 rfl ?_
  refine z_iadd dL_law_1775 rfl ?_
  refine z_sld (x := (zsc G (l4 + 1))) dL_law_1776 ⟨by omega, by omega⟩ (Nat.le_trans hL (by decide)) rfl rfl ?_
  refine z_aload_n 0 dL_law_1777 rfl rfl (Nat.le_of_ble_eq_true rfl) rfl ?_
  refine z_iload dL_law_1778 rfl rfl ?_
  refine z_iconst dL_law_1780 rfl ?_
  refine z_iadd dL_law_1781 rfl ?_
  refine z_sld (x := (zsc G (l4 + 2))) dL_law_1782 ⟨by omega, by omega⟩ (Nat.le_trans hL (by decide)) rfl rfl ?_
  refine z_aload_n 0 dL_law_1783 rfl rfl (Nat.le_of_ble_eq_true rfl) rfl ?_
  refine z_iload dL_law_1784 rfl rfl ?_
  refine z_iconst dL_law_1786 rfl ?_
  refine z_iadd dL_law_1787 rfl ?_
  refine z_sld (x := (zsc G (l4 + 3))) dL_law_1788 ⟨by omega, by omega⟩ (Nat.le_trans hL (by decide)) rfl rfl ?_
  refine z_i2l dL_law_1789 (zsc_R _ _) rfl ?_
  refine z_bipush dL_law_1790 rfl rfl ?_
  refine z_lshl dL_law_1792 rfl ?_
  refine z_aload_n 0 dL_law_1793 rfl rfl (Nat.le_of_ble_eq_true rfl) rfl ?_
  refine z_iload dL_law_1794 rfl rfl ?_
  refine z_iconst dL_law_1796 rfl ?_
  refine z_iadd dL_law_1797 rfl ?_
  refine z_sld (x := (zsc G (l4 + 4))) dL_law_1798 ⟨by omega, by omega⟩ (Nat.le_trans hL (by decide)) rfl rfl ?_
  refine z_i2l dL_law_1799 (zsc_R _ _) rfl ?_
  refine z_ldc2 (x := 4294967295) cL_173 rfl dL_law_1800 rfl ?_
  refine z_land dL_law_1803 rfl ?_
  refine z_lor dL_law_1804 rfl ?_
  refine z_aload_n 0 dL_law_1805 rfl rfl (Nat.le_of_ble_eq_true rfl) rfl ?_
  refine z_iload dL_law_1806 rfl rfl ?_
  refine z_iconst dL_law_1808 rfl ?_
  refine z_iadd dL_law_1809 rfl ?_
  refine z_sld (x := (zsc G (l4 + 5))) dL_law_1810 ⟨by omega, by omega⟩ (Nat.le_trans hL (by decide)) rfl rfl ?_
  refine z_callVi vX11_at kL_175 dL_law_1811 rfl hR (as := [vi (zsc G (l4 + 1)), vi (zsc G (l4 + 2)), vl (zlor (zlshl (zsc G (l4 + 3)) 32) (zland (zsc G (l4 + 4)) 4294967295)), vi (zsc G (l4 + 5))]) (rest := []) (Nat.le_of_ble_eq_true rfl) rfl rfl (zCi_mono (fun x1 h2 k => ?_) k)
  refine z_aload_n 2 dL_law_1814 rfl rfl (Nat.le_of_ble_eq_true rfl) rfl ?_
  refine z_aload_n 0 dL_law_1815 rfl rfl (Nat.le_of_ble_eq_true rfl) rfl ?_
  refine z_iload dL_law_1816 rfl rfl ?_
  refine z_iconst dL_law_1818 rfl ?_
  refine z_iadd dL_law_1819 rfl ?_
  refine z_sld (x := (zsc G (l4 + 1))) dL_law_1820 ⟨by omega, by omega⟩ (Nat.le_trans hL (by decide)) rfl rfl ?_
  refine z_aload_n 0 dL_law_1821 rfl rfl (Nat.le_of_ble_eq_true rfl) rfl ?_
  refine z_iload dL_law_1822 rfl rfl ?_
  refine z_iconst dL_law_1824 rfl ?_
  refine z_iadd dL_law_1825 rfl ?_
  refine z_sld (x := (zsc G (l4 + 2))) dL_law_1826 ⟨by omega, by omega⟩ (Nat.le_trans hL (by decide)) rfl rfl ?_
  refine z_aload_n 0 dL_law_1827 rfl rfl (Nat.le_of_ble_eq_true rfl) rfl ?_
  refine z_iload dL_law_1828 rfl rfl ?_
  refine z_iconst dL_law_1830 rfl ?_
  refine z_iadd dL_law_1831 rfl ?_
  refine z_sld (x := (zsc G (l4 + 3))) dL_law_1832 ⟨by omega, by omega⟩ (Nat.le_trans hL (by decide)) rfl rfl ?_
  refine z_i2l dL_law_1833 (zsc_R _ _) rfl ?_
  refine z_bipush dL_law_1834 rfl rfl ?_
  refine z_lshl dL_law_1836 rfl ?_
  refine z_aload_n 0 dL_law_1837 rfl rfl (Nat.le_of_ble_eq_true rfl) rfl ?_
  refine z_iload dL_law_1838 rfl rfl ?_
  refine z_iconst dL_law_1840 rfl ?_
  refine z_iadd dL_law_1841 rfl ?_
  refine z_sld (x := (zsc G (l4 + 4))) dL_law_1842 ⟨by omega, by omega⟩ (Nat.le_trans hL (by decide)) rfl rfl ?_
  refine z_i2l dL_law_1843 (zsc_R _ _) rfl ?_
  refine z_ldc2 (x := 4294967295) cL_173 rfl dL_law_1844 rfl ?_
  refine z_land dL_law_1847 rfl ?_
  refine z_lor dL_law_1848 rfl ?_
  refine z_aload_n 0 dL_law_1849 rfl rfl (Nat.le_of_ble_eq_true rfl) rfl ?_
  refine z_iload dL_law_1850 rfl rfl ?_
  refine z_iconst dL_law_1852 rfl ?_
  refine z_iadd dL_law_1853 rfl ?_
  refine z_sld (x := (zsc G (l4 + 5))) dL_law_1854 ⟨by omega, by omega⟩ (Nat.le_trans hL (by decide)) rfl rfl ?_
  refine z_callVi vX12_at kL_179 dL_law_1855 rfl hR (as := [vi (zsc G (l4 + 1)), vi (zsc G (l4 + 2)), vl (zlor (zlshl (zsc G (l4 + 3)) 32) (zland (zsc G (l4 + 4)) 4294967295)), vi (zsc G (l4 + 5))]) (rest := [vi x1]) (Nat.le_of_ble_eq_true rfl) rfl rfl (zCi_mono (fun x3 h4 k => ?_) k)
  obtain ⟨r1, r2, ka, kb⟩ := k
  refine z_icmp_eq (tgt := 2526) dL_law_1858 rfl r1 r2 rfl ⟨fun q => ?_, fun q => ?_⟩
  · have k := ka q
    exact z_sub (L' := [some ((41, 0)), some (vr 11 0), some (vr 12 466), some (vr 14 525), some (vi l4), none, none]) (And.intro rfl (And.intro rfl (And.intro rfl (And.intro rfl (And.intro rfl trivial))))) k
  · have k := kb q
    refine z_iconst dL_law_1861 rfl ?_
    exact k.elim
theorem bL_law_1732 {G : zG} {d kc ks : Nat} {l4 : Int} {h : zH} (hR : zRo room_1 kc ks d) (hL : zgL G ≤ 3072) (hi : 0 ≤ l4 ∧ l4 + 6 ≤ zgL G) (k : zCl G d mX11_count [vr 11 0, vi (zsc G (l4 + 1)), vi (zsc G (l4 + 2))] h (fun x1 h2 => zCl G d mX12_count [vr 12 466, vi (zsc G (l4 + 1)), vi (zsc G (l4 + 2))] h2 (fun x3 h4 => ((zcmp x1 x3) = 0 → tL_law_2526 G kc ks l4 h4) ∧ (¬ (zcmp x1 x3) = 0 → False)))) : tL_law_1732 G kc ks l4 h := by
  unfold tL_law_1732
  refine z_aload_n 1 dL_law_1732 rfl rfl (Nat.le_of_ble_eq_true rfl) rfl ?_
  refine z_aload_n 0 dL_law_1733 rfl rfl (Nat.le_of_ble_eq_true rfl) rfl ?_
  refine z_iload dL_law_1734 rfl rfl ?_
  refine z_iconst dL_law_1736 rfl ?_
  refine z_iadd dL_law_1737 rfl ?_
  refine z_sld (x := (zsc G (l4 + 1))) dL_law_1738 ⟨by omega, by omega⟩ (Nat.le_trans hL (by decide)) rfl rfl ?_
  refine z_aload_n 0 dL_law_1739 rfl rfl (Nat.le_of_ble_eq_true rfl) rfl ?_
  refine z_iload dL_law_1740 rfl rfl ?_
  refine z_iconst dL_law_1742 rfl ?_
  refine z_iadd dL_law_1743 rfl ?_
  refine z_sld (x := (zsc G (l4 + 2))) dL_law_1744 ⟨by omega, by omega⟩ (Nat.le_trans hL (by decide)) rfl rfl ?_
  refine z_callVl vX11_count kL_169 dL_law_1745 rfl hR (as := [vi (zsc G (l4 + 1)), vi (zsc G (l4 + 2))]) (rest := []) (Nat.le_of_ble_eq_true rfl) rfl rfl (zCl_mono (fun x1 h2 k => ?_) k)
  refine z_aload_n 2 dL_law_1748 rfl rfl (Nat.le_of_ble_eq_true rfl) rfl ?_
  refine z_aload_n 0 dL_law_1749 rfl rfl (Nat.le_of_ble_eq_true rfl) rfl ?_
  refine z_iload dL_law_1750 rfl rfl ?_
  refine z_iconst dL_law_1752 rfl ?_
  refine z_iadd dL_law_1753 rfl ?_
  refine z_sld (x := (zsc G (l4 + 1))) dL_law_1754 ⟨by omega, by omega⟩ (Nat.le_trans hL (by decide)) rfl rfl ?_
  refine z_aload_n 0 dL_law_1755 rfl rfl (Nat.le_of_ble_eq_true rfl) rfl ?_
  refine z_iload dL_law_1756 rfl rfl ?_
  refine z_iconst dL_law_1758 rfl ?_
  refine z_iadd dL_law_1759 rfl ?_
  refine z_sld (x := (zsc G (l4 + 2))) dL_law_1760 ⟨by omega, by omega⟩ (Nat.le_trans hL (by decide)) rfl rfl ?_
  refine z_callVl vX12_count kL_172 dL_law_1761 rfl hR (as := [vi (zsc G (l4 + 1)), vi (zsc G (l4 + 2))]) (rest := [vl x1]) (Nat.le_of_ble_eq_true rfl) rfl rfl (zCl_mono (fun x3 h4 k => ?_) k)
  refine z_lcmp dL_law_1764 rfl ?_
  obtain ⟨ka, kb⟩ := k
  refine z_if_eq (tgt := 2526) dL_law_1765 rfl (zcmp_R _ _) rfl ⟨fun q => ?_, fun q => ?_⟩
  · have k := ka q
    exact z_sub (L' := [some ((41, 0)), some (vr 11 0), some (vr 12 466), some (vr 14 525), some (vi l4), none, none]) (And.intro rfl (And.intro rfl (And.intro rfl (And.intro rfl (And.intro rfl trivial))))) k
  · have k := kb q
    refine z_iconst dL_law_1768 rfl ?_
    exact k.elim
theorem bL_law_1706 {G : zG} {d kc ks : Nat} {l4 : Int} {h : zH} (hR : zRo room_1 kc ks d) (hL : zgL G ≤ 3072) (hi : 0 ≤ l4 ∧ l4 + 6 ≤ zgL G) (k : zCl G d mX11_place [vr 11 0, vi (zsc G (l4 + 1))] h (fun x1 h2 => zCl G d mX12_place [vr 12 466, vi (zsc G (l4 + 1))] h2 (fun x3 h4 => ((zcmp x1 x3) = 0 → tL_law_2526 G kc ks l4 h4) ∧ (¬ (zcmp x1 x3) = 0 → False)))) : tL_law_1706 G kc ks l4 h := by
  unfold tL_law_1706
  refine z_aload_n 1 dL_law_1706 rfl rfl (Nat.le_of_ble_eq_true rfl) rfl ?_
  refine z_aload_n 0 dL_law_1707 rfl rfl (Nat.le_of_ble_eq_true rfl) rfl ?_
  refine z_iload dL_law_1708 rfl rfl ?_
  refine z_iconst dL_law_1710 rfl ?_
  refine z_iadd dL_law_1711 rfl ?_
  refine z_sld (x := (zsc G (l4 + 1))) dL_law_1712 ⟨by omega, by omega⟩ (Nat.le_trans hL (by decide)) rfl rfl ?_
  refine z_callVl vX11_place kL_165 dL_law_1713 rfl hR (as := [vi (zsc G (l4 + 1))]) (rest := []) (Nat.le_of_ble_eq_true rfl) rfl rfl (zCl_mono (fun x1 h2 k => ?_) k)
  refine z_aload_n 2 dL_law_1716 rfl rfl (Nat.le_of_ble_eq_true rfl) rfl ?_
  refine z_aload_n 0 dL_law_1717 rfl rfl (Nat.le_of_ble_eq_true rfl) rfl ?_
  refine z_iload dL_law_1718 rfl rfl ?_
  refine z_iconst dL_law_1720 rfl ?_
  refine z_iadd dL_law_1721 rfl ?_
  refine z_sld (x := (zsc G (l4 + 1))) dL_law_1722 ⟨by omega, by omega⟩ (Nat.le_trans hL (by decide)) rfl rfl ?_
  refine z_callVl vX12_place kL_168 dL_law_1723 rfl hR (as := [vi (zsc G (l4 + 1))]) (rest := [vl x1]) (Nat.le_of_ble_eq_true rfl) rfl rfl (zCl_mono (fun x3 h4 k => ?_) k)
  refine z_lcmp dL_law_1726 rfl ?_
  obtain ⟨ka, kb⟩ := k
  refine z_if_eq (tgt := 2526) dL_law_1727 rfl (zcmp_R _ _) rfl ⟨fun q => ?_, fun q => ?_⟩
  · have k := ka q
    exact z_sub (L' := [some ((41, 0)), some (vr 11 0), some (vr 12 466), some (vr 14 525), some (vi l4), none, none]) (And.intro rfl (And.intro rfl (And.intro rfl (And.intro rfl (And.intro rfl trivial))))) k
  · have k := kb q
    refine z_iconst dL_law_1730 rfl ?_
    exact k.elim
theorem bL_law_1681 {G : zG} {d kc ks : Nat} {l4 : Int} {h : zH} (hR : zRo room_1 kc ks d) (hL : zgL G ≤ 3072) (hi : 0 ≤ l4 ∧ l4 + 6 ≤ zgL G) (k : zCi G d mX11_classOf [vr 11 0, vi (zsc G (l4 + 1))] h (fun x1 h2 => zCi G d mX12_classOf [vr 12 466, vi (zsc G (l4 + 1))] h2 (fun x3 h4 => zR x1 ∧ zR x3 ∧ (x1 = x3 → tL_law_2526 G kc ks l4 h4) ∧ (¬ x1 = x3 → False)))) : tL_law_1681 G kc ks l4 h := by
  unfold tL_law_1681
  refine z_aload_n 1 dL_law_1681 rfl rfl (Nat.le_of_ble_eq_true rfl) rfl ?_
  refine z_aload_n 0 dL_law_1682 rfl rfl (Nat.le_of_ble_eq_true rfl) rfl ?_
  refine z_iload dL_law_1683 rfl rfl ?_
  refine z_iconst dL_law_1685 rfl ?_
  refine z_iadd dL_law_1686 rfl ?_
  refine z_sld (x := (zsc G (l4 + 1))) dL_law_1687 ⟨by omega, by omega⟩ (Nat.le_trans hL (by decide)) rfl rfl ?_
  refine z_callVi vX11_classOf kL_161 dL_law_1688 rfl hR (as := [vi (zsc G (l4 + 1))]) (rest := []) (Nat.le_of_ble_eq_true rfl) rfl rfl (zCi_mono (fun x1 h2 k => ?_) k)
  refine z_aload_n 2 dL_law_1691 rfl rfl (Nat.le_of_ble_eq_true rfl) rfl ?_
  refine z_aload_n 0 dL_law_1692 rfl rfl (Nat.le_of_ble_eq_true rfl) rfl ?_
  refine z_iload dL_law_1693 rfl rfl ?_
  refine z_iconst dL_law_1695 rfl ?_
  refine z_iadd dL_law_1696 rfl ?_
  refine z_sld (x := (zsc G (l4 + 1))) dL_law_1697 ⟨by omega, by omega⟩ (Nat.le_trans hL (by decide)) rfl rfl ?_
  refine z_callVi vX12_classOf kL_164 dL_law_1698 rfl hR (as := [vi (zsc G (l4 + 1))]) (rest := [vi x1]) (Nat.le_of_ble_eq_true rfl) rfl rfl (zCi_mono (fun x3 h4 k => ?_) k)
  obtain ⟨r1, r2, ka, kb⟩ := k
  refine z_icmp_eq (tgt := 2526) dL_law_1701 rfl r1 r2 rfl ⟨fun q => ?_, fun q => ?_⟩
  · have k := ka q
    exact z_sub (L' := [some ((41, 0)), some (vr 11 0), some (vr 12 466), some (vr 14 525), some (vi l4), none, none]) (And.intro rfl (And.intro rfl (And.intro rfl (And.intro rfl (And.intro rfl trivial))))) k
  · have k := kb q
    refine z_iconst dL_law_1704 rfl ?_
    exact k.elim
theorem bL_law_1655 {G : zG} {d kc ks : Nat} {l4 : Int} {h : zH} (hR : zRo room_1 kc ks d) (hL : zgL G ≤ 3072) (hi : 0 ≤ l4 ∧ l4 + 6 ≤ zgL G) (k : zCl G d mX11_leads [vr 11 0, vi (zsc G (l4 + 1))] h (fun x1 h2 => zCl G d mX12_leads [vr 12 466, vi (zsc G (l4 + 1))] h2 (fun x3 h4 => ((zcmp x1 x3) = 0 → tL_law_2526 G kc ks l4 h4) ∧ (¬ (zcmp x1 x3) = 0 → False)))) : tL_law_1655 G kc ks l4 h := by
  unfold tL_law_1655
  refine z_aload_n 1 dL_law_1655 rfl rfl (Nat.le_of_ble_eq_true rfl) rfl ?_
  refine z_aload_n 0 dL_law_1656 rfl rfl (Nat.le_of_ble_eq_true rfl) rfl ?_
  refine z_iload dL_law_1657 rfl rfl ?_
  refine z_iconst dL_law_1659 rfl ?_
  refine z_iadd dL_law_1660 rfl ?_
  refine z_sld (x := (zsc G (l4 + 1))) dL_law_1661 ⟨by omega, by omega⟩ (Nat.le_trans hL (by decide)) rfl rfl ?_
  refine z_callVl vX11_leads kL_157 dL_law_1662 rfl hR (as := [vi (zsc G (l4 + 1))]) (rest := []) (Nat.le_of_ble_eq_true rfl) rfl rfl (zCl_mono (fun x1 h2 k => ?_) k)
  refine z_aload_n 2 dL_law_1665 rfl rfl (Nat.le_of_ble_eq_true rfl) rfl ?_
  refine z_aload_n 0 dL_law_1666 rfl rfl (Nat.le_of_ble_eq_true rfl) rfl ?_
  refine z_iload dL_law_1667 rfl rfl ?_
  refine z_iconst dL_law_1669 rfl ?_
  refine z_iadd dL_law_1670 rfl ?_
  refine z_sld (x := (zsc G (l4 + 1))) dL_law_1671 ⟨by omega, by omega⟩ (Nat.le_trans hL (by decide)) rfl rfl ?_
  refine z_callVl vX12_leads kL_160 dL_law_1672 rfl hR (as := [vi (zsc G (l4 + 1))]) (rest := [vl x1]) (Nat.le_of_ble_eq_true rfl) rfl rfl (zCl_mono (fun x3 h4 k => ?_) k)
  refine z_lcmp dL_law_1675 rfl ?_
  obtain ⟨ka, kb⟩ := k
  refine z_if_eq (tgt := 2526) dL_law_1676 rfl (zcmp_R _ _) rfl ⟨fun q => ?_, fun q => ?_⟩
  · have k := ka q
    exact z_sub (L' := [some ((41, 0)), some (vr 11 0), some (vr 12 466), some (vr 14 525), some (vi l4), none, none]) (And.intro rfl (And.intro rfl (And.intro rfl (And.intro rfl (And.intro rfl trivial))))) k
  · have k := kb q
    refine z_iconst dL_law_1679 rfl ?_
    exact k.elim
theorem bL_law_1630 {G : zG} {d kc ks : Nat} {l4 : Int} {h : zH} (hR : zRo room_1 kc ks d) (hL : zgL G ≤ 3072) (hi : 0 ≤ l4 ∧ l4 + 6 ≤ zgL G) (k : zCi G d mX11_taken [vr 11 0, vi (zsc G (l4 + 1))] h (fun x1 h2 => zCi G d mX12_taken [vr 12 466, vi (zsc G (l4 + 1))] h2 (fun x3 h4 => zR x1 ∧ zR x3 ∧ (x1 = x3 → tL_law_2526 G kc ks l4 h4) ∧ (¬ x1 = x3 → False)))) : tL_law_1630 G kc ks l4 h := by
  unfold tL_law_1630
  refine z_aload_n 1 dL_law_1630 rfl rfl (Nat.le_of_ble_eq_true rfl) rfl ?_
  refine z_aload_n 0 dL_law_1631 rfl rfl (Nat.le_of_ble_eq_true rfl) rfl ?_
  refine z_iload dL_law_1632 rfl rfl ?_
  refine z_iconst dL_law_1634 rfl ?_
  refine z_iadd dL_law_1635 rfl ?_
  refine z_sld (x := (zsc G (l4 + 1))) dL_law_1636 ⟨by omega, by omega⟩ (Nat.le_trans hL (by decide)) rfl rfl ?_
  refine z_callVi vX11_taken kL_153 dL_law_1637 rfl hR (as := [vi (zsc G (l4 + 1))]) (rest := []) (Nat.le_of_ble_eq_true rfl) rfl rfl (zCi_mono (fun x1 h2 k => ?_) k)
  refine z_aload_n 2 dL_law_1640 rfl rfl (Nat.le_of_ble_eq_true rfl) rfl ?_
  refine z_aload_n 0 dL_law_1641 rfl rfl (Nat.le_of_ble_eq_true rfl) rfl ?_
  refine z_iload dL_law_1642 rfl rfl ?_
  refine z_iconst dL_law_1644 rfl ?_
  refine z_iadd dL_law_1645 rfl ?_
  refine z_sld (x := (zsc G (l4 + 1))) dL_law_1646 ⟨by omega, by omega⟩ (Nat.le_trans hL (by decide)) rfl rfl ?_
  refine z_callVi vX12_taken kL_156 dL_law_1647 rfl hR (as := [vi (zsc G (l4 + 1))]) (rest := [vi x1]) (Nat.le_of_ble_eq_true rfl) rfl rfl (zCi_mono (fun x3 h4 k => ?_) k)
  obtain ⟨r1, r2, ka, kb⟩ := k
  refine z_icmp_eq (tgt := 2526) dL_law_1650 rfl r1 r2 rfl ⟨fun q => ?_, fun q => ?_⟩
  · have k := ka q
    exact z_sub (L' := [some ((41, 0)), some (vr 11 0), some (vr 12 466), some (vr 14 525), some (vi l4), none, none]) (And.intro rfl (And.intro rfl (And.intro rfl (And.intro rfl (And.intro rfl trivial))))) k
  · have k := kb q
    refine z_iconst dL_law_1653 rfl ?_
    exact k.elim
theorem bL_law_1605 {G : zG} {d kc ks : Nat} {l4 : Int} {h : zH} (hR : zRo room_1 kc ks d) (hL : zgL G ≤ 3072) (hi : 0 ≤ l4 ∧ l4 + 6 ≤ zgL G) (k : zCi G d mX11_more [vr 11 0, vi (zsc G (l4 + 1))] h (fun x1 h2 => zCi G d mX12_more [vr 12 466, vi (zsc G (l4 + 1))] h2 (fun x3 h4 => zR x1 ∧ zR x3 ∧ (x1 = x3 → tL_law_2526 G kc ks l4 h4) ∧ (¬ x1 = x3 → False)))) : tL_law_1605 G kc ks l4 h := by
  unfold tL_law_1605
  refine z_aload_n 1 dL_law_1605 rfl rfl (Nat.le_of_ble_eq_true rfl) rfl ?_
  refine z_aload_n 0 dL_law_1606 rfl rfl (Nat.le_of_ble_eq_true rfl) rfl ?_
  refine z_iload dL_law_1607 rfl rfl ?_
  refine z_iconst dL_law_1609 rfl ?_
  refine z_iadd dL_law_1610 rfl ?_
  refine z_sld (x := (zsc G (l4 + 1))) dL_law_1611 ⟨by omega, by omega⟩ (Nat.le_trans hL (by decide)) rfl rfl ?_
  refine z_callVi vX11_more kL_149 dL_law_1612 rfl hR (as := [vi (zsc G (l4 + 1))]) (rest := []) (Nat.le_of_ble_eq_true rfl) rfl rfl (zCi_mono (fun x1 h2 k => ?_) k)
  refine z_aload_n 2 dL_law_1615 rfl rfl (Nat.le_of_ble_eq_true rfl) rfl ?_
  refine z_aload_n 0 dL_law_1616 rfl rfl (Nat.le_of_ble_eq_true rfl) rfl ?_
  refine z_iload dL_law_1617 rfl rfl ?_
  refine z_iconst dL_law_1619 rfl ?_
  refine z_iadd dL_law_1620 rfl ?_
  refine z_sld (x := (zsc G (l4 + 1))) dL_law_1621 ⟨by omega, by omega⟩ (Nat.le_trans hL (by decide)) rfl rfl ?_
  refine z_callVi vX12_more kL_152 dL_law_1622 rfl hR (as := [vi (zsc G (l4 + 1))]) (rest := [vi x1]) (Nat.le_of_ble_eq_true rfl) rfl rfl (zCi_mono (fun x3 h4 k => ?_) k)
  obtain ⟨r1, r2, ka, kb⟩ := k
  refine z_icmp_eq (tgt := 2526) dL_law_1625 rfl r1 r2 rfl ⟨fun q => ?_, fun q => ?_⟩
  · have k := ka q
    exact z_sub (L' := [some ((41, 0)), some (vr 11 0), some (vr 12 466), some (vr 14 525), some (vi l4), none, none]) (And.intro rfl (And.intro rfl (And.intro rfl (And.intro rfl (And.intro rfl trivial))))) k
  · have k := kb q
    refine z_iconst dL_law_1628 rfl ?_
    exact k.elim
theorem bL_law_1532 {G : zG} {d kc ks : Nat} {l4 : Int} {h : zH} (hR : zRo room_1 kc ks d) (hL : zgL G ≤ 3072) (hi : 0 ≤ l4 ∧ l4 + 6 ≤ zgL G) (k : zCi G d mX11_word [vr 11 0, vi (zsc G (l4 + 1)), vi (zsc G (l4 + 2)), vi (zsc G (l4 + 3)), vi (zsc G (l4 + 4)), vi (zsc G (l4 + 5))] h (fun x1 h2 => zCi G d mX12_word [vr 12 466, vi (zsc G (l4 + 1)), vi (zsc G (l4 + 2)), vi (zsc G (l4 + 3)), vi (zsc G (l4 + 4)), vi (zsc G (l4 + 5))] h2 (fun x3 h4 => zR x1 ∧ zR x3 ∧ (x1 = x3 → tL_law_2526 G kc ks l4 h4) ∧ (¬ x1 = x3 → False)))) : tL_law_1532 G kc ks l4 h := by
  unfold tL_law_1532
  refine z_aload_n 1 dL_law_1532 rfl rfl (Nat.le_of_ble_eq_true rfl) rfl ?_
  refine z_aload_n 0 dL_law_1533 rfl rfl (Nat.le_of_ble_eq_true rfl) rfl ?_
  refine z_iload dL_law_1534 rfl rfl ?_
  refine z_iconst dL_law_1536 rfl ?_
  refine z_iadd dL_law_1537 rfl ?_
  refine z_sld (x := (zsc G (l4 + 1))) dL_law_1538 ⟨by omega, by omega⟩ (Nat.le_trans hL (by decide)) rfl rfl ?_
  refine z_aload_n 0 dL_law_1539 rfl rfl (Nat.le_of_ble_eq_true rfl) rfl ?_
  refine z_iload dL_law_1540 rfl rfl ?_
  refine z_iconst dL_law_1542 rfl ?_
  refine z_iadd dL_law_1543 rfl ?_
  refine z_sld (x := (zsc G (l4 + 2))) dL_law_1544 ⟨by omega, by omega⟩ (Nat.le_trans hL (by decide)) rfl rfl ?_
  refine z_aload_n 0 dL_law_1545 rfl rfl (Nat.le_of_ble_eq_true rfl) rfl ?_
  refine z_iload dL_law_1546 rfl rfl ?_
  refine z_iconst dL_law_1548 rfl ?_
  refine z_iadd dL_law_1549 rfl ?_
  refine z_sld (x := (zsc G (l4 + 3))) dL_law_1550 ⟨by omega, by omega⟩ (Nat.le_trans hL (by decide)) rfl rfl ?_
  refine z_aload_n 0 dL_law_1551 rfl rfl (Nat.le_of_ble_eq_true rfl) rfl ?_
  refine z_iload dL_law_1552 rfl rfl ?_
  refine z_iconst dL_law_1554 rfl ?_
  refine z_iadd dL_law_1555 rfl ?_
  refine z_sld (x := (zsc G (l4 + 4))) dL_law_1556 ⟨by omega, by omega⟩ (Nat.le_trans hL (by decide)) rfl rfl ?_
  refine z_aload_n 0 dL_law_1557 rfl rfl (Nat.le_of_ble_eq_true rfl) rfl ?_
  refine z_iload dL_law_1558 rfl rfl ?_
  refine z_iconst dL_law_1560 rfl ?_
  refine z_iadd dL_law_1561 rfl ?_
  refine z_sld (x := (zsc G (l4 + 5))) dL_law_1562 ⟨by omega, by omega⟩ (Nat.le_trans hL (by decide)) rfl rfl ?_
  refine z_callVi vX11_word kL_145 dL_law_1563 rfl hR (as := [vi (zsc G (l4 + 1)), vi (zsc G (l4 + 2)), vi (zsc G (l4 + 3)), vi (zsc G (l4 + 4)), vi (zsc G (l4 + 5))]) (rest := []) (Nat.le_of_ble_eq_true rfl) rfl rfl (zCi_mono (fun x1 h2 k => ?_) k)
  refine z_aload_n 2 dL_law_1566 rfl rfl (Nat.le_of_ble_eq_true rfl) rfl ?_
  refine z_aload_n 0 dL_law_1567 rfl rfl (Nat.le_of_ble_eq_true rfl) rfl ?_
  refine z_iload dL_law_1568 rfl rfl ?_
  refine z_iconst dL_law_1570 rfl ?_
  refine z_iadd dL_law_1571 rfl ?_
  refine z_sld (x := (zsc G (l4 + 1))) dL_law_1572 ⟨by omega, by omega⟩ (Nat.le_trans hL (by decide)) rfl rfl ?_
  refine z_aload_n 0 dL_law_1573 rfl rfl (Nat.le_of_ble_eq_true rfl) rfl ?_
  refine z_iload dL_law_1574 rfl rfl ?_
  refine z_iconst dL_law_1576 rfl ?_
  refine z_iadd dL_law_1577 rfl ?_
  refine z_sld (x := (zsc G (l4 + 2))) dL_law_1578 ⟨by omega, by omega⟩ (Nat.le_trans hL (by decide)) rfl rfl ?_
  refine z_aload_n 0 dL_law_1579 rfl rfl (Nat.le_of_ble_eq_true rfl) rfl ?_
  refine z_iload dL_law_1580 rfl rfl ?_
  refine z_iconst dL_law_1582 rfl ?_
  refine z_iadd dL_law_1583 rfl ?_
  refine z_sld (x := (zsc G (l4 + 3))) dL_law_1584 ⟨by omega, by omega⟩ (Nat.le_trans hL (by decide)) rfl rfl ?_
  refine z_aload_n 0 dL_law_1585 rfl rfl (Nat.le_of_ble_eq_true rfl) rfl ?_
  refine z_iload dL_law_1586 rfl rfl ?_
  refine z_iconst dL_law_1588 rfl ?_
  refine z_iadd dL_law_1589 rfl ?_
  refine z_sld (x := (zsc G (l4 + 4))) dL_law_1590 ⟨by omega, by omega⟩ (Nat.le_trans hL (by decide)) rfl rfl ?_
  refine z_aload_n 0 dL_law_1591 rfl rfl (Nat.le_of_ble_eq_true rfl) rfl ?_
  refine z_iload dL_law_1592 rfl rfl ?_
  refine z_iconst dL_law_1594 rfl ?_
  refine z_iadd dL_law_1595 rfl ?_
  refine z_sld (x := (zsc G (l4 + 5))) dL_law_1596 ⟨by omega, by omega⟩ (Nat.le_trans hL (by decide)) rfl rfl ?_
  refine z_callVi vX12_word kL_148 dL_law_1597 rfl hR (as := [vi (zsc G (l4 + 1)), vi (zsc G (l4 + 2)), vi (zsc G (l4 + 3)), vi (zsc G (l4 + 4)), vi (zsc G (l4 + 5))]) (rest := [vi x1]) (Nat.le_of_ble_eq_true rfl) rfl rfl (zCi_mono (fun x3 h4 k => ?_) k)
  obtain ⟨r1, r2, ka, kb⟩ := k
  refine z_icmp_eq (tgt := 2526) dL_law_1600 rfl r1 r2 rfl ⟨fun q => ?_, fun q => ?_⟩
  · have k := ka q
    exact z_sub (L' := [some ((41, 0)), some (vr 11 0), some (vr 12 466), some (vr 14 525), some (vi l4), none, none]) (And.intro rfl (And.intro rfl (And.intro rfl (And.intro rfl (And.intro rfl trivial))))) k
  · have k := kb q
    refine z_iconst dL_law_1603 rfl ?_
    exact k.elim
theorem bL_law_1507 {G : zG} {d kc ks : Nat} {l4 : Int} {h : zH} (hR : zRo room_1 kc ks d) (hL : zgL G ≤ 3072) (hi : 0 ≤ l4 ∧ l4 + 6 ≤ zgL G) (k : zCi G d mX11_rounds [vr 11 0, vi (zsc G (l4 + 1))] h (fun x1 h2 => zCi G d mX12_rounds [vr 12 466, vi (zsc G (l4 + 1))] h2 (fun x3 h4 => zR x1 ∧ zR x3 ∧ (x1 = x3 → tL_law_2526 G kc ks l4 h4) ∧ (¬ x1 = x3 → False)))) : tL_law_1507 G kc ks l4 h := by
  unfold tL_law_1507
  refine z_aload_n 1 dL_law_1507 rfl rfl (Nat.le_of_ble_eq_true rfl) rfl ?_
  refine z_aload_n 0 dL_law_1508 rfl rfl (Nat.le_of_ble_eq_true rfl) rfl ?_
  refine z_iload dL_law_1509 rfl rfl ?_
  refine z_iconst dL_law_1511 rfl ?_
  refine z_iadd dL_law_1512 rfl ?_
  refine z_sld (x := (zsc G (l4 + 1))) dL_law_1513 ⟨by omega, by omega⟩ (Nat.le_trans hL (by decide)) rfl rfl ?_
  refine z_callVi vX11_rounds kL_141 dL_law_1514 rfl hR (as := [vi (zsc G (l4 + 1))]) (rest := []) (Nat.le_of_ble_eq_true rfl) rfl rfl (zCi_mono (fun x1 h2 k => ?_) k)
  refine z_aload_n 2 dL_law_1517 rfl rfl (Nat.le_of_ble_eq_true rfl) rfl ?_
  refine z_aload_n 0 dL_law_1518 rfl rfl (Nat.le_of_ble_eq_true rfl) rfl ?_
  refine z_iload dL_law_1519 rfl rfl ?_
  refine z_iconst dL_law_1521 rfl ?_
  refine z_iadd dL_law_1522 rfl ?_
  refine z_sld (x := (zsc G (l4 + 1))) dL_law_1523 ⟨by omega, by omega⟩ (Nat.le_trans hL (by decide)) rfl rfl ?_
  refine z_callVi vX12_rounds kL_144 dL_law_1524 rfl hR (as := [vi (zsc G (l4 + 1))]) (rest := [vi x1]) (Nat.le_of_ble_eq_true rfl) rfl rfl (zCi_mono (fun x3 h4 k => ?_) k)
  obtain ⟨r1, r2, ka, kb⟩ := k
  refine z_icmp_eq (tgt := 2526) dL_law_1527 rfl r1 r2 rfl ⟨fun q => ?_, fun q => ?_⟩
  · have k := ka q
    exact z_sub (L' := [some ((41, 0)), some (vr 11 0), some (vr 12 466), some (vr 14 525), some (vi l4), none, none]) (And.intro rfl (And.intro rfl (And.intro rfl (And.intro rfl (And.intro rfl trivial))))) k
  · have k := kb q
    refine z_iconst dL_law_1530 rfl ?_
    exact k.elim
theorem bL_law_1446 {G : zG} {d kc ks : Nat} {l4 : Int} {h : zH} (hR : zRo room_1 kc ks d) (hL : zgL G ≤ 3072) (hi : 0 ≤ l4 ∧ l4 + 6 ≤ zgL G) (k : zCi G d mX11_partingLetter [vr 11 0, vi (zsc G (l4 + 1)), vi (zsc G (l4 + 2)), vi (zsc G (l4 + 3)), vi (zsc G (l4 + 4))] h (fun x1 h2 => zCi G d mX12_partingLetter [vr 12 466, vi (zsc G (l4 + 1)), vi (zsc G (l4 + 2)), vi (zsc G (l4 + 3)), vi (zsc G (l4 + 4))] h2 (fun x3 h4 => zR x1 ∧ zR x3 ∧ (x1 = x3 → tL_law_2526 G kc ks l4 h4) ∧ (¬ x1 = x3 → False)))) : tL_law_1446 G kc ks l4 h := by
  unfold tL_law_1446
  refine z_aload_n 1 dL_law_1446 rfl rfl (Nat.le_of_ble_eq_true rfl) rfl ?_
  refine z_aload_n 0 dL_law_1447 rfl rfl (Nat.le_of_ble_eq_true rfl) rfl ?_
  refine z_iload dL_law_1448 rfl rfl ?_
  refine z_iconst dL_law_1450 rfl ?_
  refine z_iadd dL_law_1451 rfl ?_
  refine z_sld (x := (zsc G (l4 + 1))) dL_law_1452 ⟨by omega, by omega⟩ (Nat.le_trans hL (by decide)) rfl rfl ?_
  refine z_aload_n 0 dL_law_1453 rfl rfl (Nat.le_of_ble_eq_true rfl) rfl ?_
  refine z_iload dL_law_1454 rfl rfl ?_
  refine z_iconst dL_law_1456 rfl ?_
  refine z_iadd dL_law_1457 rfl ?_
  refine z_sld (x := (zsc G (l4 + 2))) dL_law_1458 ⟨by omega, by omega⟩ (Nat.le_trans hL (by decide)) rfl rfl ?_
  refine z_aload_n 0 dL_law_1459 rfl rfl (Nat.le_of_ble_eq_true rfl) rfl ?_
  refine z_iload dL_law_1460 rfl rfl ?_
  refine z_iconst dL_law_1462 rfl ?_
  refine z_iadd dL_law_1463 rfl ?_
  refine z_sld (x := (zsc G (l4 + 3))) dL_law_1464 ⟨by omega, by omega⟩ (Nat.le_trans hL (by decide)) rfl rfl ?_
  refine z_aload_n 0 dL_law_1465 rfl rfl (Nat.le_of_ble_eq_true rfl) rfl ?_
  refine z_iload dL_law_1466 rfl rfl ?_
  refine z_iconst dL_law_1468 rfl ?_
  refine z_iadd dL_law_1469 rfl ?_
  refine z_sld (x := (zsc G (l4 + 4))) dL_law_1470 ⟨by omega, by omega⟩ (Nat.le_trans hL (by decide)) rfl rfl ?_
  refine z_callVi vX11_partingLetter kL_137 dL_law_1471 rfl hR (as := [vi (zsc G (l4 + 1)), vi (zsc G (l4 + 2)), vi (zsc G (l4 + 3)), vi (zsc G (l4 + 4))]) (rest := []) (Nat.le_of_ble_eq_true rfl) rfl rfl (zCi_mono (fun x1 h2 k => ?_) k)
  refine z_aload_n 2 dL_law_1474 rfl rfl (Nat.le_of_ble_eq_true rfl) rfl ?_
  refine z_aload_n 0 dL_law_1475 rfl rfl (Nat.le_of_ble_eq_true rfl) rfl ?_
  refine z_iload dL_law_1476 rfl rfl ?_
  refine z_iconst dL_law_1478 rfl ?_
  refine z_iadd dL_law_1479 rfl ?_
  refine z_sld (x := (zsc G (l4 + 1))) dL_law_1480 ⟨by omega, by omega⟩ (Nat.le_trans hL (by decide)) rfl rfl ?_
  refine z_aload_n 0 dL_law_1481 rfl rfl (Nat.le_of_ble_eq_true rfl) rfl ?_
  refine z_iload dL_law_1482 rfl rfl ?_
  refine z_iconst dL_law_1484 rfl ?_
  refine z_iadd dL_law_1485 rfl ?_
  refine z_sld (x := (zsc G (l4 + 2))) dL_law_1486 ⟨by omega, by omega⟩ (Nat.le_trans hL (by decide)) rfl rfl ?_
  refine z_aload_n 0 dL_law_1487 rfl rfl (Nat.le_of_ble_eq_true rfl) rfl ?_
  refine z_iload dL_law_1488 rfl rfl ?_
  refine z_iconst dL_law_1490 rfl ?_
  refine z_iadd dL_law_1491 rfl ?_
  refine z_sld (x := (zsc G (l4 + 3))) dL_law_1492 ⟨by omega, by omega⟩ (Nat.le_trans hL (by decide)) rfl rfl ?_
  refine z_aload_n 0 dL_law_1493 rfl rfl (Nat.le_of_ble_eq_true rfl) rfl ?_
  refine z_iload dL_law_1494 rfl rfl ?_
  refine z_iconst dL_law_1496 rfl ?_
  refine z_iadd dL_law_1497 rfl ?_
  refine z_sld (x := (zsc G (l4 + 4))) dL_law_1498 ⟨by omega, by omega⟩ (Nat.le_trans hL (by decide)) rfl rfl ?_
  refine z_callVi vX12_partingLetter kL_140 dL_law_1499 rfl hR (as := [vi (zsc G (l4 + 1)), vi (zsc G (l4 + 2)), vi (zsc G (l4 + 3)), vi (zsc G (l4 + 4))]) (rest := [vi x1]) (Nat.le_of_ble_eq_true rfl) rfl rfl (zCi_mono (fun x3 h4 k => ?_) k)
  obtain ⟨r1, r2, ka, kb⟩ := k
  refine z_icmp_eq (tgt := 2526) dL_law_1502 rfl r1 r2 rfl ⟨fun q => ?_, fun q => ?_⟩
  · have k := ka q
    exact z_sub (L' := [some ((41, 0)), some (vr 11 0), some (vr 12 466), some (vr 14 525), some (vi l4), none, none]) (And.intro rfl (And.intro rfl (And.intro rfl (And.intro rfl (And.intro rfl trivial))))) k
  · have k := kb q
    refine z_iconst dL_law_1505 rfl ?_
    exact k.elim
theorem bL_law_1397 {G : zG} {d kc ks : Nat} {l4 : Int} {h : zH} (hR : zRo room_1 kc ks d) (hL : zgL G ≤ 3072) (hi : 0 ≤ l4 ∧ l4 + 6 ≤ zgL G) (k : zCi G d mX11_parting [vr 11 0, vi (zsc G (l4 + 1)), vi (zsc G (l4 + 2)), vi (zsc G (l4 + 3))] h (fun x1 h2 => zCi G d mX12_parting [vr 12 466, vi (zsc G (l4 + 1)), vi (zsc G (l4 + 2)), vi (zsc G (l4 + 3))] h2 (fun x3 h4 => zR x1 ∧ zR x3 ∧ (x1 = x3 → tL_law_2526 G kc ks l4 h4) ∧ (¬ x1 = x3 → False)))) : tL_law_1397 G kc ks l4 h := by
  unfold tL_law_1397
  refine z_aload_n 1 dL_law_1397 rfl rfl (Nat.le_of_ble_eq_true rfl) rfl ?_
  refine z_aload_n 0 dL_law_1398 rfl rfl (Nat.le_of_ble_eq_true rfl) rfl ?_
  refine z_iload dL_law_1399 rfl rfl ?_
  refine z_iconst dL_law_1401 rfl ?_
  refine z_iadd dL_law_1402 rfl ?_
  refine z_sld (x := (zsc G (l4 + 1))) dL_law_1403 ⟨by omega, by omega⟩ (Nat.le_trans hL (by decide)) rfl rfl ?_
  refine z_aload_n 0 dL_law_1404 rfl rfl (Nat.le_of_ble_eq_true rfl) rfl ?_
  refine z_iload dL_law_1405 rfl rfl ?_
  refine z_iconst dL_law_1407 rfl ?_
  refine z_iadd dL_law_1408 rfl ?_
  refine z_sld (x := (zsc G (l4 + 2))) dL_law_1409 ⟨by omega, by omega⟩ (Nat.le_trans hL (by decide)) rfl rfl ?_
  refine z_aload_n 0 dL_law_1410 rfl rfl (Nat.le_of_ble_eq_true rfl) rfl ?_
  refine z_iload dL_law_1411 rfl rfl ?_
  refine z_iconst dL_law_1413 rfl ?_
  refine z_iadd dL_law_1414 rfl ?_
  refine z_sld (x := (zsc G (l4 + 3))) dL_law_1415 ⟨by omega, by omega⟩ (Nat.le_trans hL (by decide)) rfl rfl ?_
  refine z_callVi vX11_parting kL_133 dL_law_1416 rfl hR (as := [vi (zsc G (l4 + 1)), vi (zsc G (l4 + 2)), vi (zsc G (l4 + 3))]) (rest := []) (Nat.le_of_ble_eq_true rfl) rfl rfl (zCi_mono (fun x1 h2 k => ?_) k)
  refine z_aload_n 2 dL_law_1419 rfl rfl (Nat.le_of_ble_eq_true rfl) rfl ?_
  refine z_aload_n 0 dL_law_1420 rfl rfl (Nat.le_of_ble_eq_true rfl) rfl ?_
  refine z_iload dL_law_1421 rfl rfl ?_
  refine z_iconst dL_law_1423 rfl ?_
  refine z_iadd dL_law_1424 rfl ?_
  refine z_sld (x := (zsc G (l4 + 1))) dL_law_1425 ⟨by omega, by omega⟩ (Nat.le_trans hL (by decide)) rfl rfl ?_
  refine z_aload_n 0 dL_law_1426 rfl rfl (Nat.le_of_ble_eq_true rfl) rfl ?_
  refine z_iload dL_law_1427 rfl rfl ?_
  refine z_iconst dL_law_1429 rfl ?_
  refine z_iadd dL_law_1430 rfl ?_
  refine z_sld (x := (zsc G (l4 + 2))) dL_law_1431 ⟨by omega, by omega⟩ (Nat.le_trans hL (by decide)) rfl rfl ?_
  refine z_aload_n 0 dL_law_1432 rfl rfl (Nat.le_of_ble_eq_true rfl) rfl ?_
  refine z_iload dL_law_1433 rfl rfl ?_
  refine z_iconst dL_law_1435 rfl ?_
  refine z_iadd dL_law_1436 rfl ?_
  refine z_sld (x := (zsc G (l4 + 3))) dL_law_1437 ⟨by omega, by omega⟩ (Nat.le_trans hL (by decide)) rfl rfl ?_
  refine z_callVi vX12_parting kL_136 dL_law_1438 rfl hR (as := [vi (zsc G (l4 + 1)), vi (zsc G (l4 + 2)), vi (zsc G (l4 + 3))]) (rest := [vi x1]) (Nat.le_of_ble_eq_true rfl) rfl rfl (zCi_mono (fun x3 h4 k => ?_) k)
  obtain ⟨r1, r2, ka, kb⟩ := k
  refine z_icmp_eq (tgt := 2526) dL_law_1441 rfl r1 r2 rfl ⟨fun q => ?_, fun q => ?_⟩
  · have k := ka q
    exact z_sub (L' := [some ((41, 0)), some (vr 11 0), some (vr 12 466), some (vr 14 525), some (vi l4), none, none]) (And.intro rfl (And.intro rfl (And.intro rfl (And.intro rfl (And.intro rfl trivial))))) k
  · have k := kb q
    refine z_iconst dL_law_1444 rfl ?_
    exact k.elim
theorem bL_law_1348 {G : zG} {d kc ks : Nat} {l4 : Int} {h : zH} (hR : zRo room_1 kc ks d) (hL : zgL G ≤ 3072) (hi : 0 ≤ l4 ∧ l4 + 6 ≤ zgL G) (k : zCi G d mX11_firstLetter [vr 11 0, vi (zsc G (l4 + 1)), vi (zsc G (l4 + 2)), vi (zsc G (l4 + 3))] h (fun x1 h2 => zCi G d mX12_firstLetter [vr 12 466, vi (zsc G (l4 + 1)), vi (zsc G (l4 + 2)), vi (zsc G (l4 + 3))] h2 (fun x3 h4 => zR x1 ∧ zR x3 ∧ (x1 = x3 → tL_law_2526 G kc ks l4 h4) ∧ (¬ x1 = x3 → False)))) : tL_law_1348 G kc ks l4 h := by
  unfold tL_law_1348
  refine z_aload_n 1 dL_law_1348 rfl rfl (Nat.le_of_ble_eq_true rfl) rfl ?_
  refine z_aload_n 0 dL_law_1349 rfl rfl (Nat.le_of_ble_eq_true rfl) rfl ?_
  refine z_iload dL_law_1350 rfl rfl ?_
  refine z_iconst dL_law_1352 rfl ?_
  refine z_iadd dL_law_1353 rfl ?_
  refine z_sld (x := (zsc G (l4 + 1))) dL_law_1354 ⟨by omega, by omega⟩ (Nat.le_trans hL (by decide)) rfl rfl ?_
  refine z_aload_n 0 dL_law_1355 rfl rfl (Nat.le_of_ble_eq_true rfl) rfl ?_
  refine z_iload dL_law_1356 rfl rfl ?_
  refine z_iconst dL_law_1358 rfl ?_
  refine z_iadd dL_law_1359 rfl ?_
  refine z_sld (x := (zsc G (l4 + 2))) dL_law_1360 ⟨by omega, by omega⟩ (Nat.le_trans hL (by decide)) rfl rfl ?_
  refine z_aload_n 0 dL_law_1361 rfl rfl (Nat.le_of_ble_eq_true rfl) rfl ?_
  refine z_iload dL_law_1362 rfl rfl ?_
  refine z_iconst dL_law_1364 rfl ?_
  refine z_iadd dL_law_1365 rfl ?_
  refine z_sld (x := (zsc G (l4 + 3))) dL_law_1366 ⟨by omega, by omega⟩ (Nat.le_trans hL (by decide)) rfl rfl ?_
  refine z_callVi vX11_firstLetter kL_129 dL_law_1367 rfl hR (as := [vi (zsc G (l4 + 1)), vi (zsc G (l4 + 2)), vi (zsc G (l4 + 3))]) (rest := []) (Nat.le_of_ble_eq_true rfl) rfl rfl (zCi_mono (fun x1 h2 k => ?_) k)
  refine z_aload_n 2 dL_law_1370 rfl rfl (Nat.le_of_ble_eq_true rfl) rfl ?_
  refine z_aload_n 0 dL_law_1371 rfl rfl (Nat.le_of_ble_eq_true rfl) rfl ?_
  refine z_iload dL_law_1372 rfl rfl ?_
  refine z_iconst dL_law_1374 rfl ?_
  refine z_iadd dL_law_1375 rfl ?_
  refine z_sld (x := (zsc G (l4 + 1))) dL_law_1376 ⟨by omega, by omega⟩ (Nat.le_trans hL (by decide)) rfl rfl ?_
  refine z_aload_n 0 dL_law_1377 rfl rfl (Nat.le_of_ble_eq_true rfl) rfl ?_
  refine z_iload dL_law_1378 rfl rfl ?_
  refine z_iconst dL_law_1380 rfl ?_
  refine z_iadd dL_law_1381 rfl ?_
  refine z_sld (x := (zsc G (l4 + 2))) dL_law_1382 ⟨by omega, by omega⟩ (Nat.le_trans hL (by decide)) rfl rfl ?_
  refine z_aload_n 0 dL_law_1383 rfl rfl (Nat.le_of_ble_eq_true rfl) rfl ?_
  refine z_iload dL_law_1384 rfl rfl ?_
  refine z_iconst dL_law_1386 rfl ?_
  refine z_iadd dL_law_1387 rfl ?_
  refine z_sld (x := (zsc G (l4 + 3))) dL_law_1388 ⟨by omega, by omega⟩ (Nat.le_trans hL (by decide)) rfl rfl ?_
  refine z_callVi vX12_firstLetter kL_132 dL_law_1389 rfl hR (as := [vi (zsc G (l4 + 1)), vi (zsc G (l4 + 2)), vi (zsc G (l4 + 3))]) (rest := [vi x1]) (Nat.le_of_ble_eq_true rfl) rfl rfl (zCi_mono (fun x3 h4 k => ?_) k)
  obtain ⟨r1, r2, ka, kb⟩ := k
  refine z_icmp_eq (tgt := 2526) dL_law_1392 rfl r1 r2 rfl ⟨fun q => ?_, fun q => ?_⟩
  · have k := ka q
    exact z_sub (L' := [some ((41, 0)), some (vr 11 0), some (vr 12 466), some (vr 14 525), some (vi l4), none, none]) (And.intro rfl (And.intro rfl (And.intro rfl (And.intro rfl (And.intro rfl trivial))))) k
  · have k := kb q
    refine z_iconst dL_law_1395 rfl ?_
    exact k.elim
theorem bL_law_1311 {G : zG} {d kc ks : Nat} {l4 : Int} {h : zH} (hR : zRo room_1 kc ks d) (hL : zgL G ≤ 3072) (hi : 0 ≤ l4 ∧ l4 + 6 ≤ zgL G) (k : zCi G d mX11_first [vr 11 0, vi (zsc G (l4 + 1)), vi (zsc G (l4 + 2))] h (fun x1 h2 => zCi G d mX12_first [vr 12 466, vi (zsc G (l4 + 1)), vi (zsc G (l4 + 2))] h2 (fun x3 h4 => zR x1 ∧ zR x3 ∧ (x1 = x3 → tL_law_2526 G kc ks l4 h4) ∧ (¬ x1 = x3 → False)))) : tL_law_1311 G kc ks l4 h := by
  unfold tL_law_1311
  refine z_aload_n 1 dL_law_1311 rfl rfl (Nat.le_of_ble_eq_true rfl) rfl ?_
  refine z_aload_n 0 dL_law_1312 rfl rfl (Nat.le_of_ble_eq_true rfl) rfl ?_
  refine z_iload dL_law_1313 rfl rfl ?_
  refine z_iconst dL_law_1315 rfl ?_
  refine z_iadd dL_law_1316 rfl ?_
  refine z_sld (x := (zsc G (l4 + 1))) dL_law_1317 ⟨by omega, by omega⟩ (Nat.le_trans hL (by decide)) rfl rfl ?_
  refine z_aload_n 0 dL_law_1318 rfl rfl (Nat.le_of_ble_eq_true rfl) rfl ?_
  refine z_iload dL_law_1319 rfl rfl ?_
  refine z_iconst dL_law_1321 rfl ?_
  refine z_iadd dL_law_1322 rfl ?_
  refine z_sld (x := (zsc G (l4 + 2))) dL_law_1323 ⟨by omega, by omega⟩ (Nat.le_trans hL (by decide)) rfl rfl ?_
  refine z_callVi vX11_first kL_125 dL_law_1324 rfl hR (as := [vi (zsc G (l4 + 1)), vi (zsc G (l4 + 2))]) (rest := []) (Nat.le_of_ble_eq_true rfl) rfl rfl (zCi_mono (fun x1 h2 k => ?_) k)
  refine z_aload_n 2 dL_law_1327 rfl rfl (Nat.le_of_ble_eq_true rfl) rfl ?_
  refine z_aload_n 0 dL_law_1328 rfl rfl (Nat.le_of_ble_eq_true rfl) rfl ?_
  refine z_iload dL_law_1329 rfl rfl ?_
  refine z_iconst dL_law_1331 rfl ?_
  refine z_iadd dL_law_1332 rfl ?_
  refine z_sld (x := (zsc G (l4 + 1))) dL_law_1333 ⟨by omega, by omega⟩ (Nat.le_trans hL (by decide)) rfl rfl ?_
  refine z_aload_n 0 dL_law_1334 rfl rfl (Nat.le_of_ble_eq_true rfl) rfl ?_
  refine z_iload dL_law_1335 rfl rfl ?_
  refine z_iconst dL_law_1337 rfl ?_
  refine z_iadd dL_law_1338 rfl ?_
  refine z_sld (x := (zsc G (l4 + 2))) dL_law_1339 ⟨by omega, by omega⟩ (Nat.le_trans hL (by decide)) rfl rfl ?_
  refine z_callVi vX12_first kL_128 dL_law_1340 rfl hR (as := [vi (zsc G (l4 + 1)), vi (zsc G (l4 + 2))]) (rest := [vi x1]) (Nat.le_of_ble_eq_true rfl) rfl rfl (zCi_mono (fun x3 h4 k => ?_) k)
  obtain ⟨r1, r2, ka, kb⟩ := k
  refine z_icmp_eq (tgt := 2526) dL_law_1343 rfl r1 r2 rfl ⟨fun q => ?_, fun q => ?_⟩
  · have k := ka q
    exact z_sub (L' := [some ((41, 0)), some (vr 11 0), some (vr 12 466), some (vr 14 525), some (vi l4), none, none]) (And.intro rfl (And.intro rfl (And.intro rfl (And.intro rfl (And.intro rfl trivial))))) k
  · have k := kb q
    refine z_iconst dL_law_1346 rfl ?_
    exact k.elim
theorem bL_law_1286 {G : zG} {d kc ks : Nat} {l4 : Int} {h : zH} (hR : zRo room_1 kc ks d) (hL : zgL G ≤ 3072) (hi : 0 ≤ l4 ∧ l4 + 6 ≤ zgL G) (k : zCi G d mX11_dead [vr 11 0, vi (zsc G (l4 + 1))] h (fun x1 h2 => zCi G d mX12_dead [vr 12 466, vi (zsc G (l4 + 1))] h2 (fun x3 h4 => zR x1 ∧ zR x3 ∧ (x1 = x3 → tL_law_2526 G kc ks l4 h4) ∧ (¬ x1 = x3 → False)))) : tL_law_1286 G kc ks l4 h := by
  unfold tL_law_1286
  refine z_aload_n 1 dL_law_1286 rfl rfl (Nat.le_of_ble_eq_true rfl) rfl ?_
  refine z_aload_n 0 dL_law_1287 rfl rfl (Nat.le_of_ble_eq_true rfl) rfl ?_
  refine z_iload dL_law_1288 rfl rfl ?_
  refine z_iconst dL_law_1290 rfl ?_
  refine z_iadd dL_law_1291 rfl ?_
  refine z_sld (x := (zsc G (l4 + 1))) dL_law_1292 ⟨by omega, by omega⟩ (Nat.le_trans hL (by decide)) rfl rfl ?_
  refine z_callVi vX11_dead kL_121 dL_law_1293 rfl hR (as := [vi (zsc G (l4 + 1))]) (rest := []) (Nat.le_of_ble_eq_true rfl) rfl rfl (zCi_mono (fun x1 h2 k => ?_) k)
  refine z_aload_n 2 dL_law_1296 rfl rfl (Nat.le_of_ble_eq_true rfl) rfl ?_
  refine z_aload_n 0 dL_law_1297 rfl rfl (Nat.le_of_ble_eq_true rfl) rfl ?_
  refine z_iload dL_law_1298 rfl rfl ?_
  refine z_iconst dL_law_1300 rfl ?_
  refine z_iadd dL_law_1301 rfl ?_
  refine z_sld (x := (zsc G (l4 + 1))) dL_law_1302 ⟨by omega, by omega⟩ (Nat.le_trans hL (by decide)) rfl rfl ?_
  refine z_callVi vX12_dead kL_124 dL_law_1303 rfl hR (as := [vi (zsc G (l4 + 1))]) (rest := [vi x1]) (Nat.le_of_ble_eq_true rfl) rfl rfl (zCi_mono (fun x3 h4 k => ?_) k)
  obtain ⟨r1, r2, ka, kb⟩ := k
  refine z_icmp_eq (tgt := 2526) dL_law_1306 rfl r1 r2 rfl ⟨fun q => ?_, fun q => ?_⟩
  · have k := ka q
    exact z_sub (L' := [some ((41, 0)), some (vr 11 0), some (vr 12 466), some (vr 14 525), some (vi l4), none, none]) (And.intro rfl (And.intro rfl (And.intro rfl (And.intro rfl (And.intro rfl trivial))))) k
  · have k := kb q
    refine z_iconst dL_law_1309 rfl ?_
    exact k.elim
theorem bL_law_1249 {G : zG} {d kc ks : Nat} {l4 : Int} {h : zH} (hR : zRo room_1 kc ks d) (hL : zgL G ≤ 3072) (hi : 0 ≤ l4 ∧ l4 + 6 ≤ zgL G) (k : zCi G d mX11_takes [vr 11 0, vi (zsc G (l4 + 1)), vi (zsc G (l4 + 2))] h (fun x1 h2 => zCi G d mX12_takes [vr 12 466, vi (zsc G (l4 + 1)), vi (zsc G (l4 + 2))] h2 (fun x3 h4 => zR x1 ∧ zR x3 ∧ (x1 = x3 → tL_law_2526 G kc ks l4 h4) ∧ (¬ x1 = x3 → False)))) : tL_law_1249 G kc ks l4 h := by
  unfold tL_law_1249
  refine z_aload_n 1 dL_law_1249 rfl rfl (Nat.le_of_ble_eq_true rfl) rfl ?_
  refine z_aload_n 0 dL_law_1250 rfl rfl (Nat.le_of_ble_eq_true rfl) rfl ?_
  refine z_iload dL_law_1251 rfl rfl ?_
  refine z_iconst dL_law_1253 rfl ?_
  refine z_iadd dL_law_1254 rfl ?_
  refine z_sld (x := (zsc G (l4 + 1))) dL_law_1255 ⟨by omega, by omega⟩ (Nat.le_trans hL (by decide)) rfl rfl ?_
  refine z_aload_n 0 dL_law_1256 rfl rfl (Nat.le_of_ble_eq_true rfl) rfl ?_
  refine z_iload dL_law_1257 rfl rfl ?_
  refine z_iconst dL_law_1259 rfl ?_
  refine z_iadd dL_law_1260 rfl ?_
  refine z_sld (x := (zsc G (l4 + 2))) dL_law_1261 ⟨by omega, by omega⟩ (Nat.le_trans hL (by decide)) rfl rfl ?_
  refine z_callVi vX11_takes kL_117 dL_law_1262 rfl hR (as := [vi (zsc G (l4 + 1)), vi (zsc G (l4 + 2))]) (rest := []) (Nat.le_of_ble_eq_true rfl) rfl rfl (zCi_mono (fun x1 h2 k => ?_) k)
  refine z_aload_n 2 dL_law_1265 rfl rfl (Nat.le_of_ble_eq_true rfl) rfl ?_
  refine z_aload_n 0 dL_law_1266 rfl rfl (Nat.le_of_ble_eq_true rfl) rfl ?_
  refine z_iload dL_law_1267 rfl rfl ?_
  refine z_iconst dL_law_1269 rfl ?_
  refine z_iadd dL_law_1270 rfl ?_
  refine z_sld (x := (zsc G (l4 + 1))) dL_law_1271 ⟨by omega, by omega⟩ (Nat.le_trans hL (by decide)) rfl rfl ?_
  refine z_aload_n 0 dL_law_1272 rfl rfl (Nat.le_of_ble_eq_true rfl) rfl ?_
  refine z_iload dL_law_1273 rfl rfl ?_
  refine z_iconst dL_law_1275 rfl ?_
  refine z_iadd dL_law_1276 rfl ?_
  refine z_sld (x := (zsc G (l4 + 2))) dL_law_1277 ⟨by omega, by omega⟩ (Nat.le_trans hL (by decide)) rfl rfl ?_
  refine z_callVi vX12_takes kL_120 dL_law_1278 rfl hR (as := [vi (zsc G (l4 + 1)), vi (zsc G (l4 + 2))]) (rest := [vi x1]) (Nat.le_of_ble_eq_true rfl) rfl rfl (zCi_mono (fun x3 h4 k => ?_) k)
  obtain ⟨r1, r2, ka, kb⟩ := k
  refine z_icmp_eq (tgt := 2526) dL_law_1281 rfl r1 r2 rfl ⟨fun q => ?_, fun q => ?_⟩
  · have k := ka q
    exact z_sub (L' := [some ((41, 0)), some (vr 11 0), some (vr 12 466), some (vr 14 525), some (vi l4), none, none]) (And.intro rfl (And.intro rfl (And.intro rfl (And.intro rfl (And.intro rfl trivial))))) k
  · have k := kb q
    refine z_iconst dL_law_1284 rfl ?_
    exact k.elim
theorem bL_law_1200 {G : zG} {d kc ks : Nat} {l4 : Int} {h : zH} (hR : zRo room_1 kc ks d) (hL : zgL G ≤ 3072) (hi : 0 ≤ l4 ∧ l4 + 6 ≤ zgL G) (k : zCi G d mX11_go [vr 11 0, vi (zsc G (l4 + 1)), vi (zsc G (l4 + 2)), vi (zsc G (l4 + 3))] h (fun x1 h2 => zCi G d mX12_go [vr 12 466, vi (zsc G (l4 + 1)), vi (zsc G (l4 + 2)), vi (zsc G (l4 + 3))] h2 (fun x3 h4 => zR x1 ∧ zR x3 ∧ (x1 = x3 → tL_law_2526 G kc ks l4 h4) ∧ (¬ x1 = x3 → False)))) : tL_law_1200 G kc ks l4 h := by
  unfold tL_law_1200
  refine z_aload_n 1 dL_law_1200 rfl rfl (Nat.le_of_ble_eq_true rfl) rfl ?_
  refine z_aload_n 0 dL_law_1201 rfl rfl (Nat.le_of_ble_eq_true rfl) rfl ?_
  refine z_iload dL_law_1202 rfl rfl ?_
  refine z_iconst dL_law_1204 rfl ?_
  refine z_iadd dL_law_1205 rfl ?_
  refine z_sld (x := (zsc G (l4 + 1))) dL_law_1206 ⟨by omega, by omega⟩ (Nat.le_trans hL (by decide)) rfl rfl ?_
  refine z_aload_n 0 dL_law_1207 rfl rfl (Nat.le_of_ble_eq_true rfl) rfl ?_
  refine z_iload dL_law_1208 rfl rfl ?_
  refine z_iconst dL_law_1210 rfl ?_
  refine z_iadd dL_law_1211 rfl ?_
  refine z_sld (x := (zsc G (l4 + 2))) dL_law_1212 ⟨by omega, by omega⟩ (Nat.le_trans hL (by decide)) rfl rfl ?_
  refine z_aload_n 0 dL_law_1213 rfl rfl (Nat.le_of_ble_eq_true rfl) rfl ?_
  refine z_iload dL_law_1214 rfl rfl ?_
  refine z_iconst dL_law_1216 rfl ?_
  refine z_iadd dL_law_1217 rfl ?_
  refine z_sld (x := (zsc G (l4 + 3))) dL_law_1218 ⟨by omega, by omega⟩ (Nat.le_trans hL (by decide)) rfl rfl ?_
  refine z_callVi vX11_go kL_113 dL_law_1219 rfl hR (as := [vi (zsc G (l4 + 1)), vi (zsc G (l4 + 2)), vi (zsc G (l4 + 3))]) (rest := []) (Nat.le_of_ble_eq_true rfl) rfl rfl (zCi_mono (fun x1 h2 k => ?_) k)
  refine z_aload_n 2 dL_law_1222 rfl rfl (Nat.le_of_ble_eq_true rfl) rfl ?_
  refine z_aload_n 0 dL_law_1223 rfl rfl (Nat.le_of_ble_eq_true rfl) rfl ?_
  refine z_iload dL_law_1224 rfl rfl ?_
  refine z_iconst dL_law_1226 rfl ?_
  refine z_iadd dL_law_1227 rfl ?_
  refine z_sld (x := (zsc G (l4 + 1))) dL_law_1228 ⟨by omega, by omega⟩ (Nat.le_trans hL (by decide)) rfl rfl ?_
  refine z_aload_n 0 dL_law_1229 rfl rfl (Nat.le_of_ble_eq_true rfl) rfl ?_
  refine z_iload dL_law_1230 rfl rfl ?_
  refine z_iconst dL_law_1232 rfl ?_
  refine z_iadd dL_law_1233 rfl ?_
  refine z_sld (x := (zsc G (l4 + 2))) dL_law_1234 ⟨by omega, by omega⟩ (Nat.le_trans hL (by decide)) rfl rfl ?_
  refine z_aload_n 0 dL_law_1235 rfl rfl (Nat.le_of_ble_eq_true rfl) rfl ?_
  refine z_iload dL_law_1236 rfl rfl ?_
  refine z_iconst dL_law_1238 rfl ?_
  refine z_iadd dL_law_1239 rfl ?_
  refine z_sld (x := (zsc G (l4 + 3))) dL_law_1240 ⟨by omega, by omega⟩ (Nat.le_trans hL (by decide)) rfl rfl ?_
  refine z_callVi vX12_go kL_116 dL_law_1241 rfl hR (as := [vi (zsc G (l4 + 1)), vi (zsc G (l4 + 2)), vi (zsc G (l4 + 3))]) (rest := [vi x1]) (Nat.le_of_ble_eq_true rfl) rfl rfl (zCi_mono (fun x3 h4 k => ?_) k)
  obtain ⟨r1, r2, ka, kb⟩ := k
  refine z_icmp_eq (tgt := 2526) dL_law_1244 rfl r1 r2 rfl ⟨fun q => ?_, fun q => ?_⟩
  · have k := ka q
    exact z_sub (L' := [some ((41, 0)), some (vr 11 0), some (vr 12 466), some (vr 14 525), some (vi l4), none, none]) (And.intro rfl (And.intro rfl (And.intro rfl (And.intro rfl (And.intro rfl trivial))))) k
  · have k := kb q
    refine z_iconst dL_law_1247 rfl ?_
    exact k.elim
theorem bL_law_1139 {G : zG} {d kc ks : Nat} {l4 : Int} {h : zH} (hR : zRo room_1 kc ks d) (hL : zgL G ≤ 3072) (hi : 0 ≤ l4 ∧ l4 + 6 ≤ zgL G) (k : zCi G d mX11_term [vr 11 0, vi (zsc G (l4 + 1)), vi (zsc G (l4 + 2)), vi (zsc G (l4 + 3)), vi (zsc G (l4 + 4))] h (fun x1 h2 => zCi G d mX12_term [vr 12 466, vi (zsc G (l4 + 1)), vi (zsc G (l4 + 2)), vi (zsc G (l4 + 3)), vi (zsc G (l4 + 4))] h2 (fun x3 h4 => zR x1 ∧ zR x3 ∧ (x1 = x3 → tL_law_2526 G kc ks l4 h4) ∧ (¬ x1 = x3 → False)))) : tL_law_1139 G kc ks l4 h := by
  unfold tL_law_1139
  refine z_aload_n 1 dL_law_1139 rfl rfl (Nat.le_of_ble_eq_true rfl) rfl ?_
  refine z_aload_n 0 dL_law_1140 rfl rfl (Nat.le_of_ble_eq_true rfl) rfl ?_
  refine z_iload dL_law_1141 rfl rfl ?_
  refine z_iconst dL_law_1143 rfl ?_
  refine z_iadd dL_law_1144 rfl ?_
  refine z_sld (x := (zsc G (l4 + 1))) dL_law_1145 ⟨by omega, by omega⟩ (Nat.le_trans hL (by decide)) rfl rfl ?_
  refine z_aload_n 0 dL_law_1146 rfl rfl (Nat.le_of_ble_eq_true rfl) rfl ?_
  refine z_iload dL_law_1147 rfl rfl ?_
  refine z_iconst dL_law_1149 rfl ?_
  refine z_iadd dL_law_1150 rfl ?_
  refine z_sld (x := (zsc G (l4 + 2))) dL_law_1151 ⟨by omega, by omega⟩ (Nat.le_trans hL (by decide)) rfl rfl ?_
  refine z_aload_n 0 dL_law_1152 rfl rfl (Nat.le_of_ble_eq_true rfl) rfl ?_
  refine z_iload dL_law_1153 rfl rfl ?_
  refine z_iconst dL_law_1155 rfl ?_
  refine z_iadd dL_law_1156 rfl ?_
  refine z_sld (x := (zsc G (l4 + 3))) dL_law_1157 ⟨by omega, by omega⟩ (Nat.le_trans hL (by decide)) rfl rfl ?_
  refine z_aload_n 0 dL_law_1158 rfl rfl (Nat.le_of_ble_eq_true rfl) rfl ?_
  refine z_iload dL_law_1159 rfl rfl ?_
  refine z_iconst dL_law_1161 rfl ?_
  refine z_iadd dL_law_1162 rfl ?_
  refine z_sld (x := (zsc G (l4 + 4))) dL_law_1163 ⟨by omega, by omega⟩ (Nat.le_trans hL (by decide)) rfl rfl ?_
  refine z_callVi vX11_term kL_108 dL_law_1164 rfl hR (as := [vi (zsc G (l4 + 1)), vi (zsc G (l4 + 2)), vi (zsc G (l4 + 3)), vi (zsc G (l4 + 4))]) (rest := []) (Nat.le_of_ble_eq_true rfl) rfl rfl (zCi_mono (fun x1 h2 k => ?_) k)
  refine z_aload_n 2 dL_law_1167 rfl rfl (Nat.le_of_ble_eq_true rfl) rfl ?_
  refine z_aload_n 0 dL_law_1168 rfl rfl (Nat.le_of_ble_eq_true rfl) rfl ?_
  refine z_iload dL_law_1169 rfl rfl ?_
  refine z_iconst dL_law_1171 rfl ?_
  refine z_iadd dL_law_1172 rfl ?_
  refine z_sld (x := (zsc G (l4 + 1))) dL_law_1173 ⟨by omega, by omega⟩ (Nat.le_trans hL (by decide)) rfl rfl ?_
  refine z_aload_n 0 dL_law_1174 rfl rfl (Nat.le_of_ble_eq_true rfl) rfl ?_
  refine z_iload dL_law_1175 rfl rfl ?_
  refine z_iconst dL_law_1177 rfl ?_
  refine z_iadd dL_law_1178 rfl ?_
  refine z_sld (x := (zsc G (l4 + 2))) dL_law_1179 ⟨by omega, by omega⟩ (Nat.le_trans hL (by decide)) rfl rfl ?_
  refine z_aload_n 0 dL_law_1180 rfl rfl (Nat.le_of_ble_eq_true rfl) rfl ?_
  refine z_iload dL_law_1181 rfl rfl ?_
  refine z_iconst dL_law_1183 rfl ?_
  refine z_iadd dL_law_1184 rfl ?_
  refine z_sld (x := (zsc G (l4 + 3))) dL_law_1185 ⟨by omega, by omega⟩ (Nat.le_trans hL (by decide)) rfl rfl ?_
  refine z_aload_n 0 dL_law_1186 rfl rfl (Nat.le_of_ble_eq_true rfl) rfl ?_
  refine z_iload dL_law_1187 rfl rfl ?_
  refine z_iconst dL_law_1189 rfl ?_
  refine z_iadd dL_law_1190 rfl ?_
  refine z_sld (x := (zsc G (l4 + 4))) dL_law_1191 ⟨by omega, by omega⟩ (Nat.le_trans hL (by decide)) rfl rfl ?_
  refine z_callVi vX12_term kL_112 dL_law_1192 rfl hR (as := [vi (zsc G (l4 + 1)), vi (zsc G (l4 + 2)), vi (zsc G (l4 + 3)), vi (zsc G (l4 + 4))]) (rest := [vi x1]) (Nat.le_of_ble_eq_true rfl) rfl rfl (zCi_mono (fun x3 h4 k => ?_) k)
  obtain ⟨r1, r2, ka, kb⟩ := k
  refine z_icmp_eq (tgt := 2526) dL_law_1195 rfl r1 r2 rfl ⟨fun q => ?_, fun q => ?_⟩
  · have k := ka q
    exact z_sub (L' := [some ((41, 0)), some (vr 11 0), some (vr 12 466), some (vr 14 525), some (vi l4), none, none]) (And.intro rfl (And.intro rfl (And.intro rfl (And.intro rfl (And.intro rfl trivial))))) k
  · have k := kb q
    refine z_iconst dL_law_1198 rfl ?_
    exact k.elim
theorem bL_law_1102 {G : zG} {d kc ks : Nat} {l4 : Int} {h : zH} (hR : zRo room_1 kc ks d) (hL : zgL G ≤ 3072) (hi : 0 ≤ l4 ∧ l4 + 6 ≤ zgL G) (k : zCi G d mX11_terms [vr 11 0, vi (zsc G (l4 + 1)), vi (zsc G (l4 + 2))] h (fun x1 h2 => zCi G d mX12_terms [vr 12 466, vi (zsc G (l4 + 1)), vi (zsc G (l4 + 2))] h2 (fun x3 h4 => zR x1 ∧ zR x3 ∧ (x1 = x3 → tL_law_2526 G kc ks l4 h4) ∧ (¬ x1 = x3 → False)))) : tL_law_1102 G kc ks l4 h := by
  unfold tL_law_1102
  refine z_aload_n 1 dL_law_1102 rfl rfl (Nat.le_of_ble_eq_true rfl) rfl ?_
  refine z_aload_n 0 dL_law_1103 rfl rfl (Nat.le_of_ble_eq_true rfl) rfl ?_
  refine z_iload dL_law_1104 rfl rfl ?_
  refine z_iconst dL_law_1106 rfl ?_
  refine z_iadd dL_law_1107 rfl ?_
  refine z_sld (x := (zsc G (l4 + 1))) dL_law_1108 ⟨by omega, by omega⟩ (Nat.le_trans hL (by decide)) rfl rfl ?_
  refine z_aload_n 0 dL_law_1109 rfl rfl (Nat.le_of_ble_eq_true rfl) rfl ?_
  refine z_iload dL_law_1110 rfl rfl ?_
  refine z_iconst dL_law_1112 rfl ?_
  refine z_iadd dL_law_1113 rfl ?_
  refine z_sld (x := (zsc G (l4 + 2))) dL_law_1114 ⟨by omega, by omega⟩ (Nat.le_trans hL (by decide)) rfl rfl ?_
  refine z_callVi vX11_terms kL_104 dL_law_1115 rfl hR (as := [vi (zsc G (l4 + 1)), vi (zsc G (l4 + 2))]) (rest := []) (Nat.le_of_ble_eq_true rfl) rfl rfl (zCi_mono (fun x1 h2 k => ?_) k)
  refine z_aload_n 2 dL_law_1118 rfl rfl (Nat.le_of_ble_eq_true rfl) rfl ?_
  refine z_aload_n 0 dL_law_1119 rfl rfl (Nat.le_of_ble_eq_true rfl) rfl ?_
  refine z_iload dL_law_1120 rfl rfl ?_
  refine z_iconst dL_law_1122 rfl ?_
  refine z_iadd dL_law_1123 rfl ?_
  refine z_sld (x := (zsc G (l4 + 1))) dL_law_1124 ⟨by omega, by omega⟩ (Nat.le_trans hL (by decide)) rfl rfl ?_
  refine z_aload_n 0 dL_law_1125 rfl rfl (Nat.le_of_ble_eq_true rfl) rfl ?_
  refine z_iload dL_law_1126 rfl rfl ?_
  refine z_iconst dL_law_1128 rfl ?_
  refine z_iadd dL_law_1129 rfl ?_
  refine z_sld (x := (zsc G (l4 + 2))) dL_law_1130 ⟨by omega, by omega⟩ (Nat.le_trans hL (by decide)) rfl rfl ?_
  refine z_callVi vX12_terms kL_107 dL_law_1131 rfl hR (as := [vi (zsc G (l4 + 1)), vi (zsc G (l4 + 2))]) (rest := [vi x1]) (Nat.le_of_ble_eq_true rfl) rfl rfl (zCi_mono (fun x3 h4 k => ?_) k)
  obtain ⟨r1, r2, ka, kb⟩ := k
  refine z_icmp_eq (tgt := 2526) dL_law_1134 rfl r1 r2 rfl ⟨fun q => ?_, fun q => ?_⟩
  · have k := ka q
    exact z_sub (L' := [some ((41, 0)), some (vr 11 0), some (vr 12 466), some (vr 14 525), some (vi l4), none, none]) (And.intro rfl (And.intro rfl (And.intro rfl (And.intro rfl (And.intro rfl trivial))))) k
  · have k := kb q
    refine z_iconst dL_law_1137 rfl ?_
    exact k.elim
theorem bL_law_1076 {G : zG} {d kc ks : Nat} {l4 : Int} {h : zH} (hR : zRo room_1 kc ks d) (hL : zgL G ≤ 3072) (hi : 0 ≤ l4 ∧ l4 + 6 ≤ zgL G) (k : zCl G d mX11_useless [vr 11 0, vi (zsc G (l4 + 1))] h (fun x1 h2 => zCl G d mX12_useless [vr 12 466, vi (zsc G (l4 + 1))] h2 (fun x3 h4 => ((zcmp x1 x3) = 0 → tL_law_2526 G kc ks l4 h4) ∧ (¬ (zcmp x1 x3) = 0 → False)))) : tL_law_1076 G kc ks l4 h := by
  unfold tL_law_1076
  refine z_aload_n 1 dL_law_1076 rfl rfl (Nat.le_of_ble_eq_true rfl) rfl ?_
  refine z_aload_n 0 dL_law_1077 rfl rfl (Nat.le_of_ble_eq_true rfl) rfl ?_
  refine z_iload dL_law_1078 rfl rfl ?_
  refine z_iconst dL_law_1080 rfl ?_
  refine z_iadd dL_law_1081 rfl ?_
  refine z_sld (x := (zsc G (l4 + 1))) dL_law_1082 ⟨by omega, by omega⟩ (Nat.le_trans hL (by decide)) rfl rfl ?_
  refine z_callVl vX11_useless kL_100 dL_law_1083 rfl hR (as := [vi (zsc G (l4 + 1))]) (rest := []) (Nat.le_of_ble_eq_true rfl) rfl rfl (zCl_mono (fun x1 h2 k => ?_) k)
  refine z_aload_n 2 dL_law_1086 rfl rfl (Nat.le_of_ble_eq_true rfl) rfl ?_
  refine z_aload_n 0 dL_law_1087 rfl rfl (Nat.le_of_ble_eq_true rfl) rfl ?_
  refine z_iload dL_law_1088 rfl rfl ?_
  refine z_iconst dL_law_1090 rfl ?_
  refine z_iadd dL_law_1091 rfl ?_
  refine z_sld (x := (zsc G (l4 + 1))) dL_law_1092 ⟨by omega, by omega⟩ (Nat.le_trans hL (by decide)) rfl rfl ?_
  refine z_callVl vX12_useless kL_103 dL_law_1093 rfl hR (as := [vi (zsc G (l4 + 1))]) (rest := [vl x1]) (Nat.le_of_ble_eq_true rfl) rfl rfl (zCl_mono (fun x3 h4 k => ?_) k)
  refine z_lcmp dL_law_1096 rfl ?_
  obtain ⟨ka, kb⟩ := k
  refine z_if_eq (tgt := 2526) dL_law_1097 rfl (zcmp_R _ _) rfl ⟨fun q => ?_, fun q => ?_⟩
  · have k := ka q
    exact z_sub (L' := [some ((41, 0)), some (vr 11 0), some (vr 12 466), some (vr 14 525), some (vi l4), none, none]) (And.intro rfl (And.intro rfl (And.intro rfl (And.intro rfl (And.intro rfl trivial))))) k
  · have k := kb q
    refine z_iconst dL_law_1100 rfl ?_
    exact k.elim
theorem bL_law_1038 {G : zG} {d kc ks : Nat} {l4 : Int} {h : zH} (hR : zRo room_1 kc ks d) (hL : zgL G ≤ 3072) (hi : 0 ≤ l4 ∧ l4 + 6 ≤ zgL G) (k : zCl G d mX11_sheaf [vr 11 0, vi (zsc G (l4 + 1)), vi (zsc G (l4 + 2))] h (fun x1 h2 => zCl G d mX12_sheaf [vr 12 466, vi (zsc G (l4 + 1)), vi (zsc G (l4 + 2))] h2 (fun x3 h4 => ((zcmp x1 x3) = 0 → tL_law_2526 G kc ks l4 h4) ∧ (¬ (zcmp x1 x3) = 0 → False)))) : tL_law_1038 G kc ks l4 h := by
  unfold tL_law_1038
  refine z_aload_n 1 dL_law_1038 rfl rfl (Nat.le_of_ble_eq_true rfl) rfl ?_
  refine z_aload_n 0 dL_law_1039 rfl rfl (Nat.le_of_ble_eq_true rfl) rfl ?_
  refine z_iload dL_law_1040 rfl rfl ?_
  refine z_iconst dL_law_1042 rfl ?_
  refine z_iadd dL_law_1043 rfl ?_
  refine z_sld (x := (zsc G (l4 + 1))) dL_law_1044 ⟨by omega, by omega⟩ (Nat.le_trans hL (by decide)) rfl rfl ?_
  refine z_aload_n 0 dL_law_1045 rfl rfl (Nat.le_of_ble_eq_true rfl) rfl ?_
  refine z_iload dL_law_1046 rfl rfl ?_
  refine z_iconst dL_law_1048 rfl ?_
  refine z_iadd dL_law_1049 rfl ?_
  refine z_sld (x := (zsc G (l4 + 2))) dL_law_1050 ⟨by omega, by omega⟩ (Nat.le_trans hL (by decide)) rfl rfl ?_
  refine z_callVl vX11_sheaf kL_95 dL_law_1051 rfl hR (as := [vi (zsc G (l4 + 1)), vi (zsc G (l4 + 2))]) (rest := []) (Nat.le_of_ble_eq_true rfl) rfl rfl (zCl_mono (fun x1 h2 k => ?_) k)
  refine z_aload_n 2 dL_law_1054 rfl rfl (Nat.le_of_ble_eq_true rfl) rfl ?_
  refine z_aload_n 0 dL_law_1055 rfl rfl (Nat.le_of_ble_eq_true rfl) rfl ?_
  refine z_iload dL_law_1056 rfl rfl ?_
  refine z_iconst dL_law_1058 rfl ?_
  refine z_iadd dL_law_1059 rfl ?_
  refine z_sld (x := (zsc G (l4 + 1))) dL_law_1060 ⟨by omega, by omega⟩ (Nat.le_trans hL (by decide)) rfl rfl ?_
  refine z_aload_n 0 dL_law_1061 rfl rfl (Nat.le_of_ble_eq_true rfl) rfl ?_
  refine z_iload dL_law_1062 rfl rfl ?_
  refine z_iconst dL_law_1064 rfl ?_
  refine z_iadd dL_law_1065 rfl ?_
  refine z_sld (x := (zsc G (l4 + 2))) dL_law_1066 ⟨by omega, by omega⟩ (Nat.le_trans hL (by decide)) rfl rfl ?_
  refine z_callVl vX12_sheaf kL_99 dL_law_1067 rfl hR (as := [vi (zsc G (l4 + 1)), vi (zsc G (l4 + 2))]) (rest := [vl x1]) (Nat.le_of_ble_eq_true rfl) rfl rfl (zCl_mono (fun x3 h4 k => ?_) k)
  refine z_lcmp dL_law_1070 rfl ?_
  obtain ⟨ka, kb⟩ := k
  refine z_if_eq (tgt := 2526) dL_law_1071 rfl (zcmp_R _ _) rfl ⟨fun q => ?_, fun q => ?_⟩
  · have k := ka q
    exact z_sub (L' := [some ((41, 0)), some (vr 11 0), some (vr 12 466), some (vr 14 525), some (vi l4), none, none]) (And.intro rfl (And.intro rfl (And.intro rfl (And.intro rfl (And.intro rfl trivial))))) k
  · have k := kb q
    refine z_iconst dL_law_1074 rfl ?_
    exact k.elim
theorem bL_law_1001 {G : zG} {d kc ks : Nat} {l4 : Int} {h : zH} (hR : zRo room_1 kc ks d) (hL : zgL G ≤ 3072) (hi : 0 ≤ l4 ∧ l4 + 6 ≤ zgL G) (k : zCi G d mX11_block [vr 11 0, vi (zsc G (l4 + 1)), vi (zsc G (l4 + 2))] h (fun x1 h2 => zCi G d mX12_block [vr 12 466, vi (zsc G (l4 + 1)), vi (zsc G (l4 + 2))] h2 (fun x3 h4 => zR x1 ∧ zR x3 ∧ (x1 = x3 → tL_law_2526 G kc ks l4 h4) ∧ (¬ x1 = x3 → False)))) : tL_law_1001 G kc ks l4 h := by
  unfold tL_law_1001
  refine z_aload_n 1 dL_law_1001 rfl rfl (Nat.le_of_ble_eq_true rfl) rfl ?_
  refine z_aload_n 0 dL_law_1002 rfl rfl (Nat.le_of_ble_eq_true rfl) rfl ?_
  refine z_iload dL_law_1003 rfl rfl ?_
  refine z_iconst dL_law_1005 rfl ?_
  refine z_iadd dL_law_1006 rfl ?_
  refine z_sld (x := (zsc G (l4 + 1))) dL_law_1007 ⟨by omega, by omega⟩ (Nat.le_trans hL (by decide)) rfl rfl ?_
  refine z_aload_n 0 dL_law_1008 rfl rfl (Nat.le_of_ble_eq_true rfl) rfl ?_
  refine z_iload dL_law_1009 rfl rfl ?_
  refine z_iconst dL_law_1011 rfl ?_
  refine z_iadd dL_law_1012 rfl ?_
  refine z_sld (x := (zsc G (l4 + 2))) dL_law_1013 ⟨by omega, by omega⟩ (Nat.le_trans hL (by decide)) rfl rfl ?_
  refine z_callVi vX11_block kL_91 dL_law_1014 rfl hR (as := [vi (zsc G (l4 + 1)), vi (zsc G (l4 + 2))]) (rest := []) (Nat.le_of_ble_eq_true rfl) rfl rfl (zCi_mono (fun x1 h2 k => ?_) k)
  refine z_aload_n 2 dL_law_1017 rfl rfl (Nat.le_of_ble_eq_true rfl) rfl ?_
  refine z_aload_n 0 dL_law_1018 rfl rfl (Nat.le_of_ble_eq_true rfl) rfl ?_
  refine z_iload dL_law_1019 rfl rfl ?_
  refine z_iconst dL_law_1021 rfl ?_
  refine z_iadd dL_law_1022 rfl ?_
  refine z_sld (x := (zsc G (l4 + 1))) dL_law_1023 ⟨by omega, by omega⟩ (Nat.le_trans hL (by decide)) rfl rfl ?_
  refine z_aload_n 0 dL_law_1024 rfl rfl (Nat.le_of_ble_eq_true rfl) rfl ?_
  refine z_iload dL_law_1025 rfl rfl ?_
  refine z_iconst dL_law_1027 rfl ?_
  refine z_iadd dL_law_1028 rfl ?_
  refine z_sld (x := (zsc G (l4 + 2))) dL_law_1029 ⟨by omega, by omega⟩ (Nat.le_trans hL (by decide)) rfl rfl ?_
  refine z_callVi vX12_block kL_94 dL_law_1030 rfl hR (as := [vi (zsc G (l4 + 1)), vi (zsc G (l4 + 2))]) (rest := [vi x1]) (Nat.le_of_ble_eq_true rfl) rfl rfl (zCi_mono (fun x3 h4 k => ?_) k)
  obtain ⟨r1, r2, ka, kb⟩ := k
  refine z_icmp_eq (tgt := 2526) dL_law_1033 rfl r1 r2 rfl ⟨fun q => ?_, fun q => ?_⟩
  · have k := ka q
    exact z_sub (L' := [some ((41, 0)), some (vr 11 0), some (vr 12 466), some (vr 14 525), some (vi l4), none, none]) (And.intro rfl (And.intro rfl (And.intro rfl (And.intro rfl (And.intro rfl trivial))))) k
  · have k := kb q
    refine z_iconst dL_law_1036 rfl ?_
    exact k.elim
theorem bL_law_975 {G : zG} {d kc ks : Nat} {l4 : Int} {h : zH} (hR : zRo room_1 kc ks d) (hL : zgL G ≤ 3072) (hi : 0 ≤ l4 ∧ l4 + 6 ≤ zgL G) (k : zCl G d mX11_ends [vr 11 0, vi (zsc G (l4 + 1))] h (fun x1 h2 => zCl G d mX12_ends [vr 12 466, vi (zsc G (l4 + 1))] h2 (fun x3 h4 => ((zcmp x1 x3) = 0 → tL_law_2526 G kc ks l4 h4) ∧ (¬ (zcmp x1 x3) = 0 → False)))) : tL_law_975 G kc ks l4 h := by
  unfold tL_law_975
  refine z_aload_n 1 dL_law_975 rfl rfl (Nat.le_of_ble_eq_true rfl) rfl ?_
  refine z_aload_n 0 dL_law_976 rfl rfl (Nat.le_of_ble_eq_true rfl) rfl ?_
  refine z_iload dL_law_977 rfl rfl ?_
  refine z_iconst dL_law_979 rfl ?_
  refine z_iadd dL_law_980 rfl ?_
  refine z_sld (x := (zsc G (l4 + 1))) dL_law_981 ⟨by omega, by omega⟩ (Nat.le_trans hL (by decide)) rfl rfl ?_
  refine z_callVl vX11_ends kL_86 dL_law_982 rfl hR (as := [vi (zsc G (l4 + 1))]) (rest := []) (Nat.le_of_ble_eq_true rfl) rfl rfl (zCl_mono (fun x1 h2 k => ?_) k)
  refine z_aload_n 2 dL_law_985 rfl rfl (Nat.le_of_ble_eq_true rfl) rfl ?_
  refine z_aload_n 0 dL_law_986 rfl rfl (Nat.le_of_ble_eq_true rfl) rfl ?_
  refine z_iload dL_law_987 rfl rfl ?_
  refine z_iconst dL_law_989 rfl ?_
  refine z_iadd dL_law_990 rfl ?_
  refine z_sld (x := (zsc G (l4 + 1))) dL_law_991 ⟨by omega, by omega⟩ (Nat.le_trans hL (by decide)) rfl rfl ?_
  refine z_callVl vX12_ends kL_90 dL_law_992 rfl hR (as := [vi (zsc G (l4 + 1))]) (rest := [vl x1]) (Nat.le_of_ble_eq_true rfl) rfl rfl (zCl_mono (fun x3 h4 k => ?_) k)
  refine z_lcmp dL_law_995 rfl ?_
  obtain ⟨ka, kb⟩ := k
  refine z_if_eq (tgt := 2526) dL_law_996 rfl (zcmp_R _ _) rfl ⟨fun q => ?_, fun q => ?_⟩
  · have k := ka q
    exact z_sub (L' := [some ((41, 0)), some (vr 11 0), some (vr 12 466), some (vr 14 525), some (vi l4), none, none]) (And.intro rfl (And.intro rfl (And.intro rfl (And.intro rfl (And.intro rfl trivial))))) k
  · have k := kb q
    refine z_iconst dL_law_999 rfl ?_
    exact k.elim
theorem bL_law_910 {G : zG} {d kc ks : Nat} {l4 : Int} {h : zH} (hR : zRo room_1 kc ks d) (hL : zgL G ≤ 3072) (hi : 0 ≤ l4 ∧ l4 + 6 ≤ zgL G) (k : ((zsc G (l4 + 3)) = 0 → zCi G d mX11_free [vr 11 0, vi (zsc G (l4 + 1)), vi (zsc G (l4 + 2)), vi (bi false)] h (fun x1 h2 => ((zsc G (l4 + 3)) = 0 → zCi G d mX12_free [vr 12 466, vi (zsc G (l4 + 1)), vi (zsc G (l4 + 2)), vi (bi false)] h2 (fun x3 h4 => zR x1 ∧ zR x3 ∧ (x1 = x3 → tL_law_2526 G kc ks l4 h4) ∧ (¬ x1 = x3 → False))) ∧ (¬ (zsc G (l4 + 3)) = 0 → zCi G d mX12_free [vr 12 466, vi (zsc G (l4 + 1)), vi (zsc G (l4 + 2)), vi (bi true)] h2 (fun x5 h6 => zR x1 ∧ zR x5 ∧ (x1 = x5 → tL_law_2526 G kc ks l4 h6) ∧ (¬ x1 = x5 → False))))) ∧ (¬ (zsc G (l4 + 3)) = 0 → zCi G d mX11_free [vr 11 0, vi (zsc G (l4 + 1)), vi (zsc G (l4 + 2)), vi (bi true)] h (fun x7 h8 => ((zsc G (l4 + 3)) = 0 → zCi G d mX12_free [vr 12 466, vi (zsc G (l4 + 1)), vi (zsc G (l4 + 2)), vi (bi false)] h8 (fun x9 h10 => zR x7 ∧ zR x9 ∧ (x7 = x9 → tL_law_2526 G kc ks l4 h10) ∧ (¬ x7 = x9 → False))) ∧ (¬ (zsc G (l4 + 3)) = 0 → zCi G d mX12_free [vr 12 466, vi (zsc G (l4 + 1)), vi (zsc G (l4 + 2)), vi (bi true)] h8 (fun x11 h12 => zR x7 ∧ zR x11 ∧ (x7 = x11 → tL_law_2526 G kc ks l4 h12) ∧ (¬ x7 = x11 → False)))))) : tL_law_910 G kc ks l4 h := by
  unfold tL_law_910
  refine z_aload_n 1 dL_law_910 rfl rfl (Nat.le_of_ble_eq_true rfl) rfl ?_
  refine z_aload_n 0 dL_law_911 rfl rfl (Nat.le_of_ble_eq_true rfl) rfl ?_
  refine z_iload dL_law_912 rfl rfl ?_
  refine z_iconst dL_law_914 rfl ?_
  refine z_iadd dL_law_915 rfl ?_
  refine z_sld (x := (zsc G (l4 + 1))) dL_law_916 ⟨by omega, by omega⟩ (Nat.le_trans hL (by decide)) rfl rfl ?_
  refine z_aload_n 0 dL_law_917 rfl rfl (Nat.le_of_ble_eq_true rfl) rfl ?_
  refine z_iload dL_law_918 rfl rfl ?_
  refine z_iconst dL_law_920 rfl ?_
  refine z_iadd dL_law_921 rfl ?_
  refine z_sld (x := (zsc G (l4 + 2))) dL_law_922 ⟨by omega, by omega⟩ (Nat.le_trans hL (by decide)) rfl rfl ?_
  refine z_aload_n 0 dL_law_923 rfl rfl (Nat.le_of_ble_eq_true rfl) rfl ?_
  refine z_iload dL_law_924 rfl rfl ?_
  refine z_iconst dL_law_926 rfl ?_
  refine z_iadd dL_law_927 rfl ?_
  refine z_sld (x := (zsc G (l4 + 3))) dL_law_928 ⟨by omega, by omega⟩ (Nat.le_trans hL (by decide)) rfl rfl ?_
  obtain ⟨ka, kb⟩ := k
  refine z_if_eq (tgt := 936) dL_law_929 rfl (zsc_R _ _) rfl ⟨fun q => ?_, fun q => ?_⟩
  · have k := ka q
    refine z_iconst dL_law_936 rfl ?_
    refine z_callVi vX11_free kL_82 dL_law_937 rfl hR (as := [vi (zsc G (l4 + 1)), vi (zsc G (l4 + 2)), vi (bi false)]) (rest := []) (Nat.le_of_ble_eq_true rfl) rfl rfl (zCi_mono (fun x1 h2 k => ?_) k)
    refine z_aload_n 2 dL_law_940 rfl rfl (Nat.le_of_ble_eq_true rfl) rfl ?_
    refine z_aload_n 0 dL_law_941 rfl rfl (Nat.le_of_ble_eq_true rfl) rfl ?_
    refine z_iload dL_law_942 rfl rfl ?_
    refine z_iconst dL_law_944 rfl ?_
    refine z_iadd dL_law_945 rfl ?_
    refine z_sld (x := (zsc G (l4 + 1))) dL_law_946 ⟨by omega, by omega⟩ (Nat.le_trans hL (by decide)) rfl rfl ?_
    refine z_aload_n 0 dL_law_947 rfl rfl (Nat.le_of_ble_eq_true rfl) rfl ?_
    refine z_iload dL_law_948 rfl rfl ?_
    refine z_iconst dL_law_950 rfl ?_
    refine z_iadd dL_law_951 rfl ?_
    refine z_sld (x := (zsc G (l4 + 2))) dL_law_952 ⟨by omega, by omega⟩ (Nat.le_trans hL (by decide)) rfl rfl ?_
    refine z_aload_n 0 dL_law_953 rfl rfl (Nat.le_of_ble_eq_true rfl) rfl ?_
    refine z_iload dL_law_954 rfl rfl ?_
    refine z_iconst dL_law_956 rfl ?_
    refine z_iadd dL_law_957 rfl ?_
    refine z_sld (x := (zsc G (l4 + 3))) dL_law_958 ⟨by omega, by omega⟩ (Nat.le_trans hL (by decide)) rfl rfl ?_
    obtain ⟨ka, kb⟩ := k
    refine z_if_eq (tgt := 966) dL_law_959 rfl (zsc_R _ _) rfl ⟨fun q => ?_, fun q => ?_⟩
    · have k := ka q
      refine z_iconst dL_law_966 rfl ?_
      refine z_callVi vX12_free kL_85 dL_law_967 rfl hR (as := [vi (zsc G (l4 + 1)), vi (zsc G (l4 + 2)), vi (bi false)]) (rest := [vi x1]) (Nat.le_of_ble_eq_true rfl) rfl rfl (zCi_mono (fun x3 h4 k => ?_) k)
      obtain ⟨r1, r2, ka, kb⟩ := k
      refine z_icmp_eq (tgt := 2526) dL_law_970 rfl r1 r2 rfl ⟨fun q => ?_, fun q => ?_⟩
      · have k := ka q
        exact z_sub (L' := [some ((41, 0)), some (vr 11 0), some (vr 12 466), some (vr 14 525), some (vi l4), none, none]) (And.intro rfl (And.intro rfl (And.intro rfl (And.intro rfl (And.intro rfl trivial))))) k
      · have k := kb q
        refine z_iconst dL_law_973 rfl ?_
        exact k.elim
    · have k := kb q
      refine z_iconst dL_law_962 rfl ?_
      refine z_goto (tgt := 967) dL_law_963 rfl ?_
      refine z_callVi vX12_free kL_85 dL_law_967 rfl hR (as := [vi (zsc G (l4 + 1)), vi (zsc G (l4 + 2)), vi (bi true)]) (rest := [vi x1]) (Nat.le_of_ble_eq_true rfl) rfl rfl (zCi_mono (fun x5 h6 k => ?_) k)
      obtain ⟨r1, r2, ka, kb⟩ := k
      refine z_icmp_eq (tgt := 2526) dL_law_970 rfl r1 r2 rfl ⟨fun q => ?_, fun q => ?_⟩
      · have k := ka q
        exact z_sub (L' := [some ((41, 0)), some (vr 11 0), some (vr 12 466), some (vr 14 525), some (vi l4), none, none]) (And.intro rfl (And.intro rfl (And.intro rfl (And.intro rfl (And.intro rfl trivial))))) k
      · have k := kb q
        refine z_iconst dL_law_973 rfl ?_
        exact k.elim
  · have k := kb q
    refine z_iconst dL_law_932 rfl ?_
    refine z_goto (tgt := 937) dL_law_933 rfl ?_
    refine z_callVi vX11_free kL_82 dL_law_937 rfl hR (as := [vi (zsc G (l4 + 1)), vi (zsc G (l4 + 2)), vi (bi true)]) (rest := []) (Nat.le_of_ble_eq_true rfl) rfl rfl (zCi_mono (fun x7 h8 k => ?_) k)
    refine z_aload_n 2 dL_law_940 rfl rfl (Nat.le_of_ble_eq_true rfl) rfl ?_
    refine z_aload_n 0 dL_law_941 rfl rfl (Nat.le_of_ble_eq_true rfl) rfl ?_
    refine z_iload dL_law_942 rfl rfl ?_
    refine z_iconst dL_law_944 rfl ?_
    refine z_iadd dL_law_945 rfl ?_
    refine z_sld (x := (zsc G (l4 + 1))) dL_law_946 ⟨by omega, by omega⟩ (Nat.le_trans hL (by decide)) rfl rfl ?_
    refine z_aload_n 0 dL_law_947 rfl rfl (Nat.le_of_ble_eq_true rfl) rfl ?_
    refine z_iload dL_law_948 rfl rfl ?_
    refine z_iconst dL_law_950 rfl ?_
    refine z_iadd dL_law_951 rfl ?_
    refine z_sld (x := (zsc G (l4 + 2))) dL_law_952 ⟨by omega, by omega⟩ (Nat.le_trans hL (by decide)) rfl rfl ?_
    refine z_aload_n 0 dL_law_953 rfl rfl (Nat.le_of_ble_eq_true rfl) rfl ?_
    refine z_iload dL_law_954 rfl rfl ?_
    refine z_iconst dL_law_956 rfl ?_
    refine z_iadd dL_law_957 rfl ?_
    refine z_sld (x := (zsc G (l4 + 3))) dL_law_958 ⟨by omega, by omega⟩ (Nat.le_trans hL (by decide)) rfl rfl ?_
    obtain ⟨ka, kb⟩ := k
    refine z_if_eq (tgt := 966) dL_law_959 rfl (zsc_R _ _) rfl ⟨fun q => ?_, fun q => ?_⟩
    · have k := ka q
      refine z_iconst dL_law_966 rfl ?_
      refine z_callVi vX12_free kL_85 dL_law_967 rfl hR (as := [vi (zsc G (l4 + 1)), vi (zsc G (l4 + 2)), vi (bi false)]) (rest := [vi x7]) (Nat.le_of_ble_eq_true rfl) rfl rfl (zCi_mono (fun x9 h10 k => ?_) k)
      obtain ⟨r1, r2, ka, kb⟩ := k
      refine z_icmp_eq (tgt := 2526) dL_law_970 rfl r1 r2 rfl ⟨fun q => ?_, fun q => ?_⟩
      · have k := ka q
        exact z_sub (L' := [some ((41, 0)), some (vr 11 0), some (vr 12 466), some (vr 14 525), some (vi l4), none, none]) (And.intro rfl (And.intro rfl (And.intro rfl (And.intro rfl (And.intro rfl trivial))))) k
      · have k := kb q
        refine z_iconst dL_law_973 rfl ?_
        exact k.elim
    · have k := kb q
      refine z_iconst dL_law_962 rfl ?_
      refine z_goto (tgt := 967) dL_law_963 rfl ?_
      refine z_callVi vX12_free kL_85 dL_law_967 rfl hR (as := [vi (zsc G (l4 + 1)), vi (zsc G (l4 + 2)), vi (bi true)]) (rest := [vi x7]) (Nat.le_of_ble_eq_true rfl) rfl rfl (zCi_mono (fun x11 h12 k => ?_) k)
      obtain ⟨r1, r2, ka, kb⟩ := k
      refine z_icmp_eq (tgt := 2526) dL_law_970 rfl r1 r2 rfl ⟨fun q => ?_, fun q => ?_⟩
      · have k := ka q
        exact z_sub (L' := [some ((41, 0)), some (vr 11 0), some (vr 12 466), some (vr 14 525), some (vi l4), none, none]) (And.intro rfl (And.intro rfl (And.intro rfl (And.intro rfl (And.intro rfl trivial))))) k
      · have k := kb q
        refine z_iconst dL_law_973 rfl ?_
        exact k.elim
theorem bL_law_833 {G : zG} {d kc ks : Nat} {l4 : Int} {h : zH} (hR : zRo room_1 kc ks d) (hL : zgL G ≤ 3072) (hi : 0 ≤ l4 ∧ l4 + 6 ≤ zgL G) (k : ((zsc G (l4 + 4)) = 0 → zCi G d mX11_edgeRange [vr 11 0, vi (zsc G (l4 + 1)), vi (zsc G (l4 + 2)), vi (zsc G (l4 + 3)), vi (bi false)] h (fun x1 h2 => ((zsc G (l4 + 4)) = 0 → zCi G d mX12_edgeRange [vr 12 466, vi (zsc G (l4 + 1)), vi (zsc G (l4 + 2)), vi (zsc G (l4 + 3)), vi (bi false)] h2 (fun x3 h4 => zR x1 ∧ zR x3 ∧ (x1 = x3 → tL_law_2526 G kc ks l4 h4) ∧ (¬ x1 = x3 → False))) ∧ (¬ (zsc G (l4 + 4)) = 0 → zCi G d mX12_edgeRange [vr 12 466, vi (zsc G (l4 + 1)), vi (zsc G (l4 + 2)), vi (zsc G (l4 + 3)), vi (bi true)] h2 (fun x5 h6 => zR x1 ∧ zR x5 ∧ (x1 = x5 → tL_law_2526 G kc ks l4 h6) ∧ (¬ x1 = x5 → False))))) ∧ (¬ (zsc G (l4 + 4)) = 0 → zCi G d mX11_edgeRange [vr 11 0, vi (zsc G (l4 + 1)), vi (zsc G (l4 + 2)), vi (zsc G (l4 + 3)), vi (bi true)] h (fun x7 h8 => ((zsc G (l4 + 4)) = 0 → zCi G d mX12_edgeRange [vr 12 466, vi (zsc G (l4 + 1)), vi (zsc G (l4 + 2)), vi (zsc G (l4 + 3)), vi (bi false)] h8 (fun x9 h10 => zR x7 ∧ zR x9 ∧ (x7 = x9 → tL_law_2526 G kc ks l4 h10) ∧ (¬ x7 = x9 → False))) ∧ (¬ (zsc G (l4 + 4)) = 0 → zCi G d mX12_edgeRange [vr 12 466, vi (zsc G (l4 + 1)), vi (zsc G (l4 + 2)), vi (zsc G (l4 + 3)), vi (bi true)] h8 (fun x11 h12 => zR x7 ∧ zR x11 ∧ (x7 = x11 → tL_law_2526 G kc ks l4 h12) ∧ (¬ x7 = x11 → False)))))) : tL_law_833 G kc ks l4 h := by
  unfold tL_law_833
  refine z_aload_n 1 dL_law_833 rfl rfl (Nat.le_of_ble_eq_true rfl) rfl ?_
  refine z_aload_n 0 dL_law_834 rfl rfl (Nat.le_of_ble_eq_true rfl) rfl ?_
  refine z_iload dL_law_835 rfl rfl ?_
  refine z_iconst dL_law_837 rfl ?_
  refine z_iadd dL_law_838 rfl ?_
  refine z_sld (x := (zsc G (l4 + 1))) dL_law_839 ⟨by omega, by omega⟩ (Nat.le_trans hL (by decide)) rfl rfl ?_
  refine z_aload_n 0 dL_law_840 rfl rfl (Nat.le_of_ble_eq_true rfl) rfl ?_
  refine z_iload dL_law_841 rfl rfl ?_
  refine z_iconst dL_law_843 rfl ?_
  refine z_iadd dL_law_844 rfl ?_
  refine z_sld (x := (zsc G (l4 + 2))) dL_law_845 ⟨by omega, by omega⟩ (Nat.le_trans hL (by decide)) rfl rfl ?_
  refine z_aload_n 0 dL_law_846 rfl rfl (Nat.le_of_ble_eq_true rfl) rfl ?_
  refine z_iload dL_law_847 rfl rfl ?_
  refine z_iconst dL_law_849 rfl ?_
  refine z_iadd dL_law_850 rfl ?_
  refine z_sld (x := (zsc G (l4 + 3))) dL_law_851 ⟨by omega, by omega⟩ (Nat.le_trans hL (by decide)) rfl rfl ?_
  refine z_aload_n 0 dL_law_852 rfl rfl (Nat.le_of_ble_eq_true rfl) rfl ?_
  refine z_iload dL_law_853 rfl rfl ?_
  refine z_iconst dL_law_855 rfl ?_
  refine z_iadd dL_law_856 rfl ?_
  refine z_sld (x := (zsc G (l4 + 4))) dL_law_857 ⟨by omega, by omega⟩ (Nat.le_trans hL (by decide)) rfl rfl ?_
  obtain ⟨ka, kb⟩ := k
  refine z_if_eq (tgt := 865) dL_law_858 rfl (zsc_R _ _) rfl ⟨fun q => ?_, fun q => ?_⟩
  · have k := ka q
    refine z_iconst dL_law_865 rfl ?_
    refine z_callVi vX11_edgeRange kL_77 dL_law_866 rfl hR (as := [vi (zsc G (l4 + 1)), vi (zsc G (l4 + 2)), vi (zsc G (l4 + 3)), vi (bi false)]) (rest := []) (Nat.le_of_ble_eq_true rfl) rfl rfl (zCi_mono (fun x1 h2 k => ?_) k)
    refine z_aload_n 2 dL_law_869 rfl rfl (Nat.le_of_ble_eq_true rfl) rfl ?_
    refine z_aload_n 0 dL_law_870 rfl rfl (Nat.le_of_ble_eq_true rfl) rfl ?_
    refine z_iload dL_law_871 rfl rfl ?_
    refine z_iconst dL_law_873 rfl ?_
    refine z_iadd dL_law_874 rfl ?_
    refine z_sld (x := (zsc G (l4 + 1))) dL_law_875 ⟨by omega, by omega⟩ (Nat.le_trans hL (by decide)) rfl rfl ?_
    refine z_aload_n 0 dL_law_876 rfl rfl (Nat.le_of_ble_eq_true rfl) rfl ?_
    refine z_iload dL_law_877 rfl rfl ?_
    refine z_iconst dL_law_879 rfl ?_
    refine z_iadd dL_law_880 rfl ?_
    refine z_sld (x := (zsc G (l4 + 2))) dL_law_881 ⟨by omega, by omega⟩ (Nat.le_trans hL (by decide)) rfl rfl ?_
    refine z_aload_n 0 dL_law_882 rfl rfl (Nat.le_of_ble_eq_true rfl) rfl ?_
    refine z_iload dL_law_883 rfl rfl ?_
    refine z_iconst dL_law_885 rfl ?_
    refine z_iadd dL_law_886 rfl ?_
    refine z_sld (x := (zsc G (l4 + 3))) dL_law_887 ⟨by omega, by omega⟩ (Nat.le_trans hL (by decide)) rfl rfl ?_
    refine z_aload_n 0 dL_law_888 rfl rfl (Nat.le_of_ble_eq_true rfl) rfl ?_
    refine z_iload dL_law_889 rfl rfl ?_
    refine z_iconst dL_law_891 rfl ?_
    refine z_iadd dL_law_892 rfl ?_
    refine z_sld (x := (zsc G (l4 + 4))) dL_law_893 ⟨by omega, by omega⟩ (Nat.le_trans hL (by decide)) rfl rfl ?_
    obtain ⟨ka, kb⟩ := k
    refine z_if_eq (tgt := 901) dL_law_894 rfl (zsc_R _ _) rfl ⟨fun q => ?_, fun q => ?_⟩
    · have k := ka q
      refine z_iconst dL_law_901 rfl ?_
      refine z_callVi vX12_edgeRange kL_81 dL_law_902 rfl hR (as := [vi (zsc G (l4 + 1)), vi (zsc G (l4 + 2)), vi (zsc G (l4 + 3)), vi (bi false)]) (rest := [vi x1]) (Nat.le_of_ble_eq_true rfl) rfl rfl (zCi_mono (fun x3 h4 k => ?_) k)
      obtain ⟨r1, r2, ka, kb⟩ := k
      refine z_icmp_eq (tgt := 2526) dL_law_905 rfl r1 r2 rfl ⟨fun q => ?_, fun q => ?_⟩
      · have k := ka q
        exact z_sub (L' := [some ((41, 0)), some (vr 11 0), some (vr 12 466), some (vr 14 525), some (vi l4), none, none]) (And.intro rfl (And.intro rfl (And.intro rfl (And.intro rfl (And.intro rfl trivial))))) k
      · have k := kb q
        refine z_iconst dL_law_908 rfl ?_
        exact k.elim
    · have k := kb q
      refine z_iconst dL_law_897 rfl ?_
      refine z_goto (tgt := 902) dL_law_898 rfl ?_
      refine z_callVi vX12_edgeRange kL_81 dL_law_902 rfl hR (as := [vi (zsc G (l4 + 1)), vi (zsc G (l4 + 2)), vi (zsc G (l4 + 3)), vi (bi true)]) (rest := [vi x1]) (Nat.le_of_ble_eq_true rfl) rfl rfl (zCi_mono (fun x5 h6 k => ?_) k)
      obtain ⟨r1, r2, ka, kb⟩ := k
      refine z_icmp_eq (tgt := 2526) dL_law_905 rfl r1 r2 rfl ⟨fun q => ?_, fun q => ?_⟩
      · have k := ka q
        exact z_sub (L' := [some ((41, 0)), some (vr 11 0), some (vr 12 466), some (vr 14 525), some (vi l4), none, none]) (And.intro rfl (And.intro rfl (And.intro rfl (And.intro rfl (And.intro rfl trivial))))) k
      · have k := kb q
        refine z_iconst dL_law_908 rfl ?_
        exact k.elim
  · have k := kb q
    refine z_iconst dL_law_861 rfl ?_
    refine z_goto (tgt := 866) dL_law_862 rfl ?_
    refine z_callVi vX11_edgeRange kL_77 dL_law_866 rfl hR (as := [vi (zsc G (l4 + 1)), vi (zsc G (l4 + 2)), vi (zsc G (l4 + 3)), vi (bi true)]) (rest := []) (Nat.le_of_ble_eq_true rfl) rfl rfl (zCi_mono (fun x7 h8 k => ?_) k)
    refine z_aload_n 2 dL_law_869 rfl rfl (Nat.le_of_ble_eq_true rfl) rfl ?_
    refine z_aload_n 0 dL_law_870 rfl rfl (Nat.le_of_ble_eq_true rfl) rfl ?_
    refine z_iload dL_law_871 rfl rfl ?_
    refine z_iconst dL_law_873 rfl ?_
    refine z_iadd dL_law_874 rfl ?_
    refine z_sld (x := (zsc G (l4 + 1))) dL_law_875 ⟨by omega, by omega⟩ (Nat.le_trans hL (by decide)) rfl rfl ?_
    refine z_aload_n 0 dL_law_876 rfl rfl (Nat.le_of_ble_eq_true rfl) rfl ?_
    refine z_iload dL_law_877 rfl rfl ?_
    refine z_iconst dL_law_879 rfl ?_
    refine z_iadd dL_law_880 rfl ?_
    refine z_sld (x := (zsc G (l4 + 2))) dL_law_881 ⟨by omega, by omega⟩ (Nat.le_trans hL (by decide)) rfl rfl ?_
    refine z_aload_n 0 dL_law_882 rfl rfl (Nat.le_of_ble_eq_true rfl) rfl ?_
    refine z_iload dL_law_883 rfl rfl ?_
    refine z_iconst dL_law_885 rfl ?_
    refine z_iadd dL_law_886 rfl ?_
    refine z_sld (x := (zsc G (l4 + 3))) dL_law_887 ⟨by omega, by omega⟩ (Nat.le_trans hL (by decide)) rfl rfl ?_
    refine z_aload_n 0 dL_law_888 rfl rfl (Nat.le_of_ble_eq_true rfl) rfl ?_
    refine z_iload dL_law_889 rfl rfl ?_
    refine z_iconst dL_law_891 rfl ?_
    refine z_iadd dL_law_892 rfl ?_
    refine z_sld (x := (zsc G (l4 + 4))) dL_law_893 ⟨by omega, by omega⟩ (Nat.le_trans hL (by decide)) rfl rfl ?_
    obtain ⟨ka, kb⟩ := k
    refine z_if_eq (tgt := 901) dL_law_894 rfl (zsc_R _ _) rfl ⟨fun q => ?_, fun q => ?_⟩
    · have k := ka q
      refine z_iconst dL_law_901 rfl ?_
      refine z_callVi vX12_edgeRange kL_81 dL_law_902 rfl hR (as := [vi (zsc G (l4 + 1)), vi (zsc G (l4 + 2)), vi (zsc G (l4 + 3)), vi (bi false)]) (rest := [vi x7]) (Nat.le_of_ble_eq_true rfl) rfl rfl (zCi_mono (fun x9 h10 k => ?_) k)
      obtain ⟨r1, r2, ka, kb⟩ := k
      refine z_icmp_eq (tgt := 2526) dL_law_905 rfl r1 r2 rfl ⟨fun q => ?_, fun q => ?_⟩
      · have k := ka q
        exact z_sub (L' := [some ((41, 0)), some (vr 11 0), some (vr 12 466), some (vr 14 525), some (vi l4), none, none]) (And.intro rfl (And.intro rfl (And.intro rfl (And.intro rfl (And.intro rfl trivial))))) k
      · have k := kb q
        refine z_iconst dL_law_908 rfl ?_
        exact k.elim
    · have k := kb q
      refine z_iconst dL_law_897 rfl ?_
      refine z_goto (tgt := 902) dL_law_898 rfl ?_
      refine z_callVi vX12_edgeRange kL_81 dL_law_902 rfl hR (as := [vi (zsc G (l4 + 1)), vi (zsc G (l4 + 2)), vi (zsc G (l4 + 3)), vi (bi true)]) (rest := [vi x7]) (Nat.le_of_ble_eq_true rfl) rfl rfl (zCi_mono (fun x11 h12 k => ?_) k)
      obtain ⟨r1, r2, ka, kb⟩ := k
      refine z_icmp_eq (tgt := 2526) dL_law_905 rfl r1 r2 rfl ⟨fun q => ?_, fun q => ?_⟩
      · have k := ka q
        exact z_sub (L' := [some ((41, 0)), some (vr 11 0), some (vr 12 466), some (vr 14 525), some (vi l4), none, none]) (And.intro rfl (And.intro rfl (And.intro rfl (And.intro rfl (And.intro rfl trivial))))) k
      · have k := kb q
        refine z_iconst dL_law_908 rfl ?_
        exact k.elim
theorem bL_law_784 {G : zG} {d kc ks : Nat} {l4 : Int} {h : zH} (hR : zRo room_1 kc ks d) (hL : zgL G ≤ 3072) (hi : 0 ≤ l4 ∧ l4 + 6 ≤ zgL G) (k : zCi G d mX11_edge [vr 11 0, vi (zsc G (l4 + 1)), vi (zsc G (l4 + 2)), vi (zsc G (l4 + 3))] h (fun x1 h2 => zCi G d mX12_edge [vr 12 466, vi (zsc G (l4 + 1)), vi (zsc G (l4 + 2)), vi (zsc G (l4 + 3))] h2 (fun x3 h4 => zR x1 ∧ zR x3 ∧ (x1 = x3 → tL_law_2526 G kc ks l4 h4) ∧ (¬ x1 = x3 → False)))) : tL_law_784 G kc ks l4 h := by
  unfold tL_law_784
  refine z_aload_n 1 dL_law_784 rfl rfl (Nat.le_of_ble_eq_true rfl) rfl ?_
  refine z_aload_n 0 dL_law_785 rfl rfl (Nat.le_of_ble_eq_true rfl) rfl ?_
  refine z_iload dL_law_786 rfl rfl ?_
  refine z_iconst dL_law_788 rfl ?_
  refine z_iadd dL_law_789 rfl ?_
  refine z_sld (x := (zsc G (l4 + 1))) dL_law_790 ⟨by omega, by omega⟩ (Nat.le_trans hL (by decide)) rfl rfl ?_
  refine z_aload_n 0 dL_law_791 rfl rfl (Nat.le_of_ble_eq_true rfl) rfl ?_
  refine z_iload dL_law_792 rfl rfl ?_
  refine z_iconst dL_law_794 rfl ?_
  refine z_iadd dL_law_795 rfl ?_
  refine z_sld (x := (zsc G (l4 + 2))) dL_law_796 ⟨by omega, by omega⟩ (Nat.le_trans hL (by decide)) rfl rfl ?_
  refine z_aload_n 0 dL_law_797 rfl rfl (Nat.le_of_ble_eq_true rfl) rfl ?_
  refine z_iload dL_law_798 rfl rfl ?_
  refine z_iconst dL_law_800 rfl ?_
  refine z_iadd dL_law_801 rfl ?_
  refine z_sld (x := (zsc G (l4 + 3))) dL_law_802 ⟨by omega, by omega⟩ (Nat.le_trans hL (by decide)) rfl rfl ?_
  refine z_callVi vX11_edge kL_73 dL_law_803 rfl hR (as := [vi (zsc G (l4 + 1)), vi (zsc G (l4 + 2)), vi (zsc G (l4 + 3))]) (rest := []) (Nat.le_of_ble_eq_true rfl) rfl rfl (zCi_mono (fun x1 h2 k => ?_) k)
  refine z_aload_n 2 dL_law_806 rfl rfl (Nat.le_of_ble_eq_true rfl) rfl ?_
  refine z_aload_n 0 dL_law_807 rfl rfl (Nat.le_of_ble_eq_true rfl) rfl ?_
  refine z_iload dL_law_808 rfl rfl ?_
  refine z_iconst dL_law_810 rfl ?_
  refine z_iadd dL_law_811 rfl ?_
  refine z_sld (x := (zsc G (l4 + 1))) dL_law_812 ⟨by omega, by omega⟩ (Nat.le_trans hL (by decide)) rfl rfl ?_
  refine z_aload_n 0 dL_law_813 rfl rfl (Nat.le_of_ble_eq_true rfl) rfl ?_
  refine z_iload dL_law_814 rfl rfl ?_
  refine z_iconst dL_law_816 rfl ?_
  refine z_iadd dL_law_817 rfl ?_
  refine z_sld (x := (zsc G (l4 + 2))) dL_law_818 ⟨by omega, by omega⟩ (Nat.le_trans hL (by decide)) rfl rfl ?_
  refine z_aload_n 0 dL_law_819 rfl rfl (Nat.le_of_ble_eq_true rfl) rfl ?_
  refine z_iload dL_law_820 rfl rfl ?_
  refine z_iconst dL_law_822 rfl ?_
  refine z_iadd dL_law_823 rfl ?_
  refine z_sld (x := (zsc G (l4 + 3))) dL_law_824 ⟨by omega, by omega⟩ (Nat.le_trans hL (by decide)) rfl rfl ?_
  refine z_callVi vX12_edge kL_76 dL_law_825 rfl hR (as := [vi (zsc G (l4 + 1)), vi (zsc G (l4 + 2)), vi (zsc G (l4 + 3))]) (rest := [vi x1]) (Nat.le_of_ble_eq_true rfl) rfl rfl (zCi_mono (fun x3 h4 k => ?_) k)
  obtain ⟨r1, r2, ka, kb⟩ := k
  refine z_icmp_eq (tgt := 2526) dL_law_828 rfl r1 r2 rfl ⟨fun q => ?_, fun q => ?_⟩
  · have k := ka q
    exact z_sub (L' := [some ((41, 0)), some (vr 11 0), some (vr 12 466), some (vr 14 525), some (vi l4), none, none]) (And.intro rfl (And.intro rfl (And.intro rfl (And.intro rfl (And.intro rfl trivial))))) k
  · have k := kb q
    refine z_iconst dL_law_831 rfl ?_
    exact k.elim
theorem bL_law_747 {G : zG} {d kc ks : Nat} {l4 : Int} {h : zH} (hR : zRo room_1 kc ks d) (hL : zgL G ≤ 3072) (hi : 0 ≤ l4 ∧ l4 + 6 ≤ zgL G) (k : zCi G d mX11_size [vr 11 0, vi (zsc G (l4 + 1)), vi (zsc G (l4 + 2))] h (fun x1 h2 => zCi G d mX12_size [vr 12 466, vi (zsc G (l4 + 1)), vi (zsc G (l4 + 2))] h2 (fun x3 h4 => zR x1 ∧ zR x3 ∧ (x1 = x3 → tL_law_2526 G kc ks l4 h4) ∧ (¬ x1 = x3 → False)))) : tL_law_747 G kc ks l4 h := by
  unfold tL_law_747
  refine z_aload_n 1 dL_law_747 rfl rfl (Nat.le_of_ble_eq_true rfl) rfl ?_
  refine z_aload_n 0 dL_law_748 rfl rfl (Nat.le_of_ble_eq_true rfl) rfl ?_
  refine z_iload dL_law_749 rfl rfl ?_
  refine z_iconst dL_law_751 rfl ?_
  refine z_iadd dL_law_752 rfl ?_
  refine z_sld (x := (zsc G (l4 + 1))) dL_law_753 ⟨by omega, by omega⟩ (Nat.le_trans hL (by decide)) rfl rfl ?_
  refine z_aload_n 0 dL_law_754 rfl rfl (Nat.le_of_ble_eq_true rfl) rfl ?_
  refine z_iload dL_law_755 rfl rfl ?_
  refine z_iconst dL_law_757 rfl ?_
  refine z_iadd dL_law_758 rfl ?_
  refine z_sld (x := (zsc G (l4 + 2))) dL_law_759 ⟨by omega, by omega⟩ (Nat.le_trans hL (by decide)) rfl rfl ?_
  refine z_callVi vX11_size kL_69 dL_law_760 rfl hR (as := [vi (zsc G (l4 + 1)), vi (zsc G (l4 + 2))]) (rest := []) (Nat.le_of_ble_eq_true rfl) rfl rfl (zCi_mono (fun x1 h2 k => ?_) k)
  refine z_aload_n 2 dL_law_763 rfl rfl (Nat.le_of_ble_eq_true rfl) rfl ?_
  refine z_aload_n 0 dL_law_764 rfl rfl (Nat.le_of_ble_eq_true rfl) rfl ?_
  refine z_iload dL_law_765 rfl rfl ?_
  refine z_iconst dL_law_767 rfl ?_
  refine z_iadd dL_law_768 rfl ?_
  refine z_sld (x := (zsc G (l4 + 1))) dL_law_769 ⟨by omega, by omega⟩ (Nat.le_trans hL (by decide)) rfl rfl ?_
  refine z_aload_n 0 dL_law_770 rfl rfl (Nat.le_of_ble_eq_true rfl) rfl ?_
  refine z_iload dL_law_771 rfl rfl ?_
  refine z_iconst dL_law_773 rfl ?_
  refine z_iadd dL_law_774 rfl ?_
  refine z_sld (x := (zsc G (l4 + 2))) dL_law_775 ⟨by omega, by omega⟩ (Nat.le_trans hL (by decide)) rfl rfl ?_
  refine z_callVi vX12_size kL_72 dL_law_776 rfl hR (as := [vi (zsc G (l4 + 1)), vi (zsc G (l4 + 2))]) (rest := [vi x1]) (Nat.le_of_ble_eq_true rfl) rfl rfl (zCi_mono (fun x3 h4 k => ?_) k)
  obtain ⟨r1, r2, ka, kb⟩ := k
  refine z_icmp_eq (tgt := 2526) dL_law_779 rfl r1 r2 rfl ⟨fun q => ?_, fun q => ?_⟩
  · have k := ka q
    exact z_sub (L' := [some ((41, 0)), some (vr 11 0), some (vr 12 466), some (vr 14 525), some (vi l4), none, none]) (And.intro rfl (And.intro rfl (And.intro rfl (And.intro rfl (And.intro rfl trivial))))) k
  · have k := kb q
    refine z_iconst dL_law_782 rfl ?_
    exact k.elim
theorem bL_law_658 {G : zG} {d kc ks : Nat} {l4 : Int} {h : zH} (hR : zRo room_1 kc ks d) (hL : zgL G ≤ 3072) (hi : 0 ≤ l4 ∧ l4 + 6 ≤ zgL G) (k : ((zsc G (l4 + 5)) = 0 → zCi G d mX11_mixedRange [vr 11 0, vi (zsc G (l4 + 1)), vi (zsc G (l4 + 2)), vi (zsc G (l4 + 3)), vi (zsc G (l4 + 4)), vi (bi false)] h (fun x1 h2 => ((zsc G (l4 + 5)) = 0 → zCi G d mX12_mixedRange [vr 12 466, vi (zsc G (l4 + 1)), vi (zsc G (l4 + 2)), vi (zsc G (l4 + 3)), vi (zsc G (l4 + 4)), vi (bi false)] h2 (fun x3 h4 => zR x1 ∧ zR x3 ∧ (x1 = x3 → tL_law_2526 G kc ks l4 h4) ∧ (¬ x1 = x3 → False))) ∧ (¬ (zsc G (l4 + 5)) = 0 → zCi G d mX12_mixedRange [vr 12 466, vi (zsc G (l4 + 1)), vi (zsc G (l4 + 2)), vi (zsc G (l4 + 3)), vi (zsc G (l4 + 4)), vi (bi true)] h2 (fun x5 h6 => zR x1 ∧ zR x5 ∧ (x1 = x5 → tL_law_2526 G kc ks l4 h6) ∧ (¬ x1 = x5 → False))))) ∧ (¬ (zsc G (l4 + 5)) = 0 → zCi G d mX11_mixedRange [vr 11 0, vi (zsc G (l4 + 1)), vi (zsc G (l4 + 2)), vi (zsc G (l4 + 3)), vi (zsc G (l4 + 4)), vi (bi true)] h (fun x7 h8 => ((zsc G (l4 + 5)) = 0 → zCi G d mX12_mixedRange [vr 12 466, vi (zsc G (l4 + 1)), vi (zsc G (l4 + 2)), vi (zsc G (l4 + 3)), vi (zsc G (l4 + 4)), vi (bi false)] h8 (fun x9 h10 => zR x7 ∧ zR x9 ∧ (x7 = x9 → tL_law_2526 G kc ks l4 h10) ∧ (¬ x7 = x9 → False))) ∧ (¬ (zsc G (l4 + 5)) = 0 → zCi G d mX12_mixedRange [vr 12 466, vi (zsc G (l4 + 1)), vi (zsc G (l4 + 2)), vi (zsc G (l4 + 3)), vi (zsc G (l4 + 4)), vi (bi true)] h8 (fun x11 h12 => zR x7 ∧ zR x11 ∧ (x7 = x11 → tL_law_2526 G kc ks l4 h12) ∧ (¬ x7 = x11 → False)))))) : tL_law_658 G kc ks l4 h := by
  unfold tL_law_658
  refine z_aload_n 1 dL_law_658 rfl rfl (Nat.le_of_ble_eq_true rfl) rfl ?_
  refine z_aload_n 0 dL_law_659 rfl rfl (Nat.le_of_ble_eq_true rfl) rfl ?_
  refine z_iload dL_law_660 rfl rfl ?_
  refine z_iconst dL_law_662 rfl ?_
  refine z_iadd dL_law_663 rfl ?_
  refine z_sld (x := (zsc G (l4 + 1))) dL_law_664 ⟨by omega, by omega⟩ (Nat.le_trans hL (by decide)) rfl rfl ?_
  refine z_aload_n 0 dL_law_665 rfl rfl (Nat.le_of_ble_eq_true rfl) rfl ?_
  refine z_iload dL_law_666 rfl rfl ?_
  refine z_iconst dL_law_668 rfl ?_
  refine z_iadd dL_law_669 rfl ?_
  refine z_sld (x := (zsc G (l4 + 2))) dL_law_670 ⟨by omega, by omega⟩ (Nat.le_trans hL (by decide)) rfl rfl ?_
  refine z_aload_n 0 dL_law_671 rfl rfl (Nat.le_of_ble_eq_true rfl) rfl ?_
  refine z_iload dL_law_672 rfl rfl ?_
  refine z_iconst dL_law_674 rfl ?_
  refine z_iadd dL_law_675 rfl ?_
  refine z_sld (x := (zsc G (l4 + 3))) dL_law_676 ⟨by omega, by omega⟩ (Nat.le_trans hL (by decide)) rfl rfl ?_
  refine z_aload_n 0 dL_law_677 rfl rfl (Nat.le_of_ble_eq_true rfl) rfl ?_
  refine z_iload dL_law_678 rfl rfl ?_
  refine z_iconst dL_law_680 rfl ?_
  refine z_iadd dL_law_681 rfl ?_
  refine z_sld (x := (zsc G (l4 + 4))) dL_law_682 ⟨by omega, by omega⟩ (Nat.le_trans hL (by decide)) rfl rfl ?_
  refine z_aload_n 0 dL_law_683 rfl rfl (Nat.le_of_ble_eq_true rfl) rfl ?_
  refine z_iload dL_law_684 rfl rfl ?_
  refine z_iconst dL_law_686 rfl ?_
  refine z_iadd dL_law_687 rfl ?_
  refine z_sld (x := (zsc G (l4 + 5))) dL_law_688 ⟨by omega, by omega⟩ (Nat.le_trans hL (by decide)) rfl rfl ?_
  obtain ⟨ka, kb⟩ := k
  refine z_if_eq (tgt := 696) dL_law_689 rfl (zsc_R _ _) rfl ⟨fun q => ?_, fun q => ?_⟩
  · have k := ka q
    refine z_iconst dL_law_696 rfl ?_
    refine z_callVi vX11_mixedRange kL_64 dL_law_697 rfl hR (as := [vi (zsc G (l4 + 1)), vi (zsc G (l4 + 2)), vi (zsc G (l4 + 3)), vi (zsc G (l4 + 4)), vi (bi false)]) (rest := []) (Nat.le_of_ble_eq_true rfl) rfl rfl (zCi_mono (fun x1 h2 k => ?_) k)
    refine z_aload_n 2 dL_law_700 rfl rfl (Nat.le_of_ble_eq_true rfl) rfl ?_
    refine z_aload_n 0 dL_law_701 rfl rfl (Nat.le_of_ble_eq_true rfl) rfl ?_
    refine z_iload dL_law_702 rfl rfl ?_
    refine z_iconst dL_law_704 rfl ?_
    refine z_iadd dL_law_705 rfl ?_
    refine z_sld (x := (zsc G (l4 + 1))) dL_law_706 ⟨by omega, by omega⟩ (Nat.le_trans hL (by decide)) rfl rfl ?_
    refine z_aload_n 0 dL_law_707 rfl rfl (Nat.le_of_ble_eq_true rfl) rfl ?_
    refine z_iload dL_law_708 rfl rfl ?_
    refine z_iconst dL_law_710 rfl ?_
    refine z_iadd dL_law_711 rfl ?_
    refine z_sld (x := (zsc G (l4 + 2))) dL_law_712 ⟨by omega, by omega⟩ (Nat.le_trans hL (by decide)) rfl rfl ?_
    refine z_aload_n 0 dL_law_713 rfl rfl (Nat.le_of_ble_eq_true rfl) rfl ?_
    refine z_iload dL_law_714 rfl rfl ?_
    refine z_iconst dL_law_716 rfl ?_
    refine z_iadd dL_law_717 rfl ?_
    refine z_sld (x := (zsc G (l4 + 3))) dL_law_718 ⟨by omega, by omega⟩ (Nat.le_trans hL (by decide)) rfl rfl ?_
    refine z_aload_n 0 dL_law_719 rfl rfl (Nat.le_of_ble_eq_true rfl) rfl ?_
    refine z_iload dL_law_720 rfl rfl ?_
    refine z_iconst dL_law_722 rfl ?_
    refine z_iadd dL_law_723 rfl ?_
    refine z_sld (x := (zsc G (l4 + 4))) dL_law_724 ⟨by omega, by omega⟩ (Nat.le_trans hL (by decide)) rfl rfl ?_
    refine z_aload_n 0 dL_law_725 rfl rfl (Nat.le_of_ble_eq_true rfl) rfl ?_
    refine z_iload dL_law_726 rfl rfl ?_
    refine z_iconst dL_law_728 rfl ?_
    refine z_iadd dL_law_729 rfl ?_
    refine z_sld (x := (zsc G (l4 + 5))) dL_law_730 ⟨by omega, by omega⟩ (Nat.le_trans hL (by decide)) rfl rfl ?_
    obtain ⟨ka, kb⟩ := k
    refine z_if_eq (tgt := 738) dL_law_731 rfl (zsc_R _ _) rfl ⟨fun q => ?_, fun q => ?_⟩
    · have k := ka q
      refine z_iconst dL_law_738 rfl ?_
      refine z_callVi vX12_mixedRange kL_68 dL_law_739 rfl hR (as := [vi (zsc G (l4 + 1)), vi (zsc G (l4 + 2)), vi (zsc G (l4 + 3)), vi (zsc G (l4 + 4)), vi (bi false)]) (rest := [vi x1]) (Nat.le_of_ble_eq_true rfl) rfl rfl (zCi_mono (fun x3 h4 k => ?_) k)
      obtain ⟨r1, r2, ka, kb⟩ := k
      refine z_icmp_eq (tgt := 2526) dL_law_742 rfl r1 r2 rfl ⟨fun q => ?_, fun q => ?_⟩
      · have k := ka q
        exact z_sub (L' := [some ((41, 0)), some (vr 11 0), some (vr 12 466), some (vr 14 525), some (vi l4), none, none]) (And.intro rfl (And.intro rfl (And.intro rfl (And.intro rfl (And.intro rfl trivial))))) k
      · have k := kb q
        refine z_iconst dL_law_745 rfl ?_
        exact k.elim
    · have k := kb q
      refine z_iconst dL_law_734 rfl ?_
      refine z_goto (tgt := 739) dL_law_735 rfl ?_
      refine z_callVi vX12_mixedRange kL_68 dL_law_739 rfl hR (as := [vi (zsc G (l4 + 1)), vi (zsc G (l4 + 2)), vi (zsc G (l4 + 3)), vi (zsc G (l4 + 4)), vi (bi true)]) (rest := [vi x1]) (Nat.le_of_ble_eq_true rfl) rfl rfl (zCi_mono (fun x5 h6 k => ?_) k)
      obtain ⟨r1, r2, ka, kb⟩ := k
      refine z_icmp_eq (tgt := 2526) dL_law_742 rfl r1 r2 rfl ⟨fun q => ?_, fun q => ?_⟩
      · have k := ka q
        exact z_sub (L' := [some ((41, 0)), some (vr 11 0), some (vr 12 466), some (vr 14 525), some (vi l4), none, none]) (And.intro rfl (And.intro rfl (And.intro rfl (And.intro rfl (And.intro rfl trivial))))) k
      · have k := kb q
        refine z_iconst dL_law_745 rfl ?_
        exact k.elim
  · have k := kb q
    refine z_iconst dL_law_692 rfl ?_
    refine z_goto (tgt := 697) dL_law_693 rfl ?_
    refine z_callVi vX11_mixedRange kL_64 dL_law_697 rfl hR (as := [vi (zsc G (l4 + 1)), vi (zsc G (l4 + 2)), vi (zsc G (l4 + 3)), vi (zsc G (l4 + 4)), vi (bi true)]) (rest := []) (Nat.le_of_ble_eq_true rfl) rfl rfl (zCi_mono (fun x7 h8 k => ?_) k)
    refine z_aload_n 2 dL_law_700 rfl rfl (Nat.le_of_ble_eq_true rfl) rfl ?_
    refine z_aload_n 0 dL_law_701 rfl rfl (Nat.le_of_ble_eq_true rfl) rfl ?_
    refine z_iload dL_law_702 rfl rfl ?_
    refine z_iconst dL_law_704 rfl ?_
    refine z_iadd dL_law_705 rfl ?_
    refine z_sld (x := (zsc G (l4 + 1))) dL_law_706 ⟨by omega, by omega⟩ (Nat.le_trans hL (by decide)) rfl rfl ?_
    refine z_aload_n 0 dL_law_707 rfl rfl (Nat.le_of_ble_eq_true rfl) rfl ?_
    refine z_iload dL_law_708 rfl rfl ?_
    refine z_iconst dL_law_710 rfl ?_
    refine z_iadd dL_law_711 rfl ?_
    refine z_sld (x := (zsc G (l4 + 2))) dL_law_712 ⟨by omega, by omega⟩ (Nat.le_trans hL (by decide)) rfl rfl ?_
    refine z_aload_n 0 dL_law_713 rfl rfl (Nat.le_of_ble_eq_true rfl) rfl ?_
    refine z_iload dL_law_714 rfl rfl ?_
    refine z_iconst dL_law_716 rfl ?_
    refine z_iadd dL_law_717 rfl ?_
    refine z_sld (x := (zsc G (l4 + 3))) dL_law_718 ⟨by omega, by omega⟩ (Nat.le_trans hL (by decide)) rfl rfl ?_
    refine z_aload_n 0 dL_law_719 rfl rfl (Nat.le_of_ble_eq_true rfl) rfl ?_
    refine z_iload dL_law_720 rfl rfl ?_
    refine z_iconst dL_law_722 rfl ?_
    refine z_iadd dL_law_723 rfl ?_
    refine z_sld (x := (zsc G (l4 + 4))) dL_law_724 ⟨by omega, by omega⟩ (Nat.le_trans hL (by decide)) rfl rfl ?_
    refine z_aload_n 0 dL_law_725 rfl rfl (Nat.le_of_ble_eq_true rfl) rfl ?_
    refine z_iload dL_law_726 rfl rfl ?_
    refine z_iconst dL_law_728 rfl ?_
    refine z_iadd dL_law_729 rfl ?_
    refine z_sld (x := (zsc G (l4 + 5))) dL_law_730 ⟨by omega, by omega⟩ (Nat.le_trans hL (by decide)) rfl rfl ?_
    obtain ⟨ka, kb⟩ := k
    refine z_if_eq (tgt := 738) dL_law_731 rfl (zsc_R _ _) rfl ⟨fun q => ?_, fun q => ?_⟩
    · have k := ka q
      refine z_iconst dL_law_738 rfl ?_
      refine z_callVi vX12_mixedRange kL_68 dL_law_739 rfl hR (as := [vi (zsc G (l4 + 1)), vi (zsc G (l4 + 2)), vi (zsc G (l4 + 3)), vi (zsc G (l4 + 4)), vi (bi false)]) (rest := [vi x7]) (Nat.le_of_ble_eq_true rfl) rfl rfl (zCi_mono (fun x9 h10 k => ?_) k)
      obtain ⟨r1, r2, ka, kb⟩ := k
      refine z_icmp_eq (tgt := 2526) dL_law_742 rfl r1 r2 rfl ⟨fun q => ?_, fun q => ?_⟩
      · have k := ka q
        exact z_sub (L' := [some ((41, 0)), some (vr 11 0), some (vr 12 466), some (vr 14 525), some (vi l4), none, none]) (And.intro rfl (And.intro rfl (And.intro rfl (And.intro rfl (And.intro rfl trivial))))) k
      · have k := kb q
        refine z_iconst dL_law_745 rfl ?_
        exact k.elim
    · have k := kb q
      refine z_iconst dL_law_734 rfl ?_
      refine z_goto (tgt := 739) dL_law_735 rfl ?_
      refine z_callVi vX12_mixedRange kL_68 dL_law_739 rfl hR (as := [vi (zsc G (l4 + 1)), vi (zsc G (l4 + 2)), vi (zsc G (l4 + 3)), vi (zsc G (l4 + 4)), vi (bi true)]) (rest := [vi x7]) (Nat.le_of_ble_eq_true rfl) rfl rfl (zCi_mono (fun x11 h12 k => ?_) k)
      obtain ⟨r1, r2, ka, kb⟩ := k
      refine z_icmp_eq (tgt := 2526) dL_law_742 rfl r1 r2 rfl ⟨fun q => ?_, fun q => ?_⟩
      · have k := ka q
        exact z_sub (L' := [some ((41, 0)), some (vr 11 0), some (vr 12 466), some (vr 14 525), some (vi l4), none, none]) (And.intro rfl (And.intro rfl (And.intro rfl (And.intro rfl (And.intro rfl trivial))))) k
      · have k := kb q
        refine z_iconst dL_law_745 rfl ?_
        exact k.elim
theorem bL_law_609 {G : zG} {d kc ks : Nat} {l4 : Int} {h : zH} (hR : zRo room_1 kc ks d) (hL : zgL G ≤ 3072) (hi : 0 ≤ l4 ∧ l4 + 6 ≤ zgL G) (k : zCi G d mX11_mixedRanges [vr 11 0, vi (zsc G (l4 + 1)), vi (zsc G (l4 + 2)), vi (zsc G (l4 + 3))] h (fun x1 h2 => zCi G d mX12_mixedRanges [vr 12 466, vi (zsc G (l4 + 1)), vi (zsc G (l4 + 2)), vi (zsc G (l4 + 3))] h2 (fun x3 h4 => zR x1 ∧ zR x3 ∧ (x1 = x3 → tL_law_2526 G kc ks l4 h4) ∧ (¬ x1 = x3 → False)))) : tL_law_609 G kc ks l4 h := by
  unfold tL_law_609
  refine z_aload_n 1 dL_law_609 rfl rfl (Nat.le_of_ble_eq_true rfl) rfl ?_
  refine z_aload_n 0 dL_law_610 rfl rfl (Nat.le_of_ble_eq_true rfl) rfl ?_
  refine z_iload dL_law_611 rfl rfl ?_
  refine z_iconst dL_law_613 rfl ?_
  refine z_iadd dL_law_614 rfl ?_
  refine z_sld (x := (zsc G (l4 + 1))) dL_law_615 ⟨by omega, by omega⟩ (Nat.le_trans hL (by decide)) rfl rfl ?_
  refine z_aload_n 0 dL_law_616 rfl rfl (Nat.le_of_ble_eq_true rfl) rfl ?_
  refine z_iload dL_law_617 rfl rfl ?_
  refine z_iconst dL_law_619 rfl ?_
  refine z_iadd dL_law_620 rfl ?_
  refine z_sld (x := (zsc G (l4 + 2))) dL_law_621 ⟨by omega, by omega⟩ (Nat.le_trans hL (by decide)) rfl rfl ?_
  refine z_aload_n 0 dL_law_622 rfl rfl (Nat.le_of_ble_eq_true rfl) rfl ?_
  refine z_iload dL_law_623 rfl rfl ?_
  refine z_iconst dL_law_625 rfl ?_
  refine z_iadd dL_law_626 rfl ?_
  refine z_sld (x := (zsc G (l4 + 3))) dL_law_627 ⟨by omega, by omega⟩ (Nat.le_trans hL (by decide)) rfl rfl ?_
  refine z_callVi vX11_mixedRanges kL_60 dL_law_628 rfl hR (as := [vi (zsc G (l4 + 1)), vi (zsc G (l4 + 2)), vi (zsc G (l4 + 3))]) (rest := []) (Nat.le_of_ble_eq_true rfl) rfl rfl (zCi_mono (fun x1 h2 k => ?_) k)
  refine z_aload_n 2 dL_law_631 rfl rfl (Nat.le_of_ble_eq_true rfl) rfl ?_
  refine z_aload_n 0 dL_law_632 rfl rfl (Nat.le_of_ble_eq_true rfl) rfl ?_
  refine z_iload dL_law_633 rfl rfl ?_
  refine z_iconst dL_law_635 rfl ?_
  refine z_iadd dL_law_636 rfl ?_
  refine z_sld (x := (zsc G (l4 + 1))) dL_law_637 ⟨by omega, by omega⟩ (Nat.le_trans hL (by decide)) rfl rfl ?_
  refine z_aload_n 0 dL_law_638 rfl rfl (Nat.le_of_ble_eq_true rfl) rfl ?_
  refine z_iload dL_law_639 rfl rfl ?_
  refine z_iconst dL_law_641 rfl ?_
  refine z_iadd dL_law_642 rfl ?_
  refine z_sld (x := (zsc G (l4 + 2))) dL_law_643 ⟨by omega, by omega⟩ (Nat.le_trans hL (by decide)) rfl rfl ?_
  refine z_aload_n 0 dL_law_644 rfl rfl (Nat.le_of_ble_eq_true rfl) rfl ?_
  refine z_iload dL_law_645 rfl rfl ?_
  refine z_iconst dL_law_647 rfl ?_
  refine z_iadd dL_law_648 rfl ?_
  refine z_sld (x := (zsc G (l4 + 3))) dL_law_649 ⟨by omega, by omega⟩ (Nat.le_trans hL (by decide)) rfl rfl ?_
  refine z_callVi vX12_mixedRanges kL_63 dL_law_650 rfl hR (as := [vi (zsc G (l4 + 1)), vi (zsc G (l4 + 2)), vi (zsc G (l4 + 3))]) (rest := [vi x1]) (Nat.le_of_ble_eq_true rfl) rfl rfl (zCi_mono (fun x3 h4 k => ?_) k)
  obtain ⟨r1, r2, ka, kb⟩ := k
  refine z_icmp_eq (tgt := 2526) dL_law_653 rfl r1 r2 rfl ⟨fun q => ?_, fun q => ?_⟩
  · have k := ka q
    exact z_sub (L' := [some ((41, 0)), some (vr 11 0), some (vr 12 466), some (vr 14 525), some (vi l4), none, none]) (And.intro rfl (And.intro rfl (And.intro rfl (And.intro rfl (And.intro rfl trivial))))) k
  · have k := kb q
    refine z_iconst dL_law_656 rfl ?_
    exact k.elim
theorem bL_law_560 {G : zG} {d kc ks : Nat} {l4 : Int} {h : zH} (hR : zRo room_1 kc ks d) (hL : zgL G ≤ 3072) (hi : 0 ≤ l4 ∧ l4 + 6 ≤ zgL G) (k : zCi G d mX11_mixed [vr 11 0, vi (zsc G (l4 + 1)), vi (zsc G (l4 + 2)), vi (zsc G (l4 + 3))] h (fun x1 h2 => zCi G d mX12_mixed [vr 12 466, vi (zsc G (l4 + 1)), vi (zsc G (l4 + 2)), vi (zsc G (l4 + 3))] h2 (fun x3 h4 => zR x1 ∧ zR x3 ∧ (x1 = x3 → tL_law_2526 G kc ks l4 h4) ∧ (¬ x1 = x3 → False)))) : tL_law_560 G kc ks l4 h := by
  unfold tL_law_560
  refine z_aload_n 1 dL_law_560 rfl rfl (Nat.le_of_ble_eq_true rfl) rfl ?_
  refine z_aload_n 0 dL_law_561 rfl rfl (Nat.le_of_ble_eq_true rfl) rfl ?_
  refine z_iload dL_law_562 rfl rfl ?_
  refine z_iconst dL_law_564 rfl ?_
  refine z_iadd dL_law_565 rfl ?_
  refine z_sld (x := (zsc G (l4 + 1))) dL_law_566 ⟨by omega, by omega⟩ (Nat.le_trans hL (by decide)) rfl rfl ?_
  refine z_aload_n 0 dL_law_567 rfl rfl (Nat.le_of_ble_eq_true rfl) rfl ?_
  refine z_iload dL_law_568 rfl rfl ?_
  refine z_iconst dL_law_570 rfl ?_
  refine z_iadd dL_law_571 rfl ?_
  refine z_sld (x := (zsc G (l4 + 2))) dL_law_572 ⟨by omega, by omega⟩ (Nat.le_trans hL (by decide)) rfl rfl ?_
  refine z_aload_n 0 dL_law_573 rfl rfl (Nat.le_of_ble_eq_true rfl) rfl ?_
  refine z_iload dL_law_574 rfl rfl ?_
  refine z_iconst dL_law_576 rfl ?_
  refine z_iadd dL_law_577 rfl ?_
  refine z_sld (x := (zsc G (l4 + 3))) dL_law_578 ⟨by omega, by omega⟩ (Nat.le_trans hL (by decide)) rfl rfl ?_
  refine z_callVi vX11_mixed kL_55 dL_law_579 rfl hR (as := [vi (zsc G (l4 + 1)), vi (zsc G (l4 + 2)), vi (zsc G (l4 + 3))]) (rest := []) (Nat.le_of_ble_eq_true rfl) rfl rfl (zCi_mono (fun x1 h2 k => ?_) k)
  refine z_aload_n 2 dL_law_582 rfl rfl (Nat.le_of_ble_eq_true rfl) rfl ?_
  refine z_aload_n 0 dL_law_583 rfl rfl (Nat.le_of_ble_eq_true rfl) rfl ?_
  refine z_iload dL_law_584 rfl rfl ?_
  refine z_iconst dL_law_586 rfl ?_
  refine z_iadd dL_law_587 rfl ?_
  refine z_sld (x := (zsc G (l4 + 1))) dL_law_588 ⟨by omega, by omega⟩ (Nat.le_trans hL (by decide)) rfl rfl ?_
  refine z_aload_n 0 dL_law_589 rfl rfl (Nat.le_of_ble_eq_true rfl) rfl ?_
  refine z_iload dL_law_590 rfl rfl ?_
  refine z_iconst dL_law_592 rfl ?_
  refine z_iadd dL_law_593 rfl ?_
  refine z_sld (x := (zsc G (l4 + 2))) dL_law_594 ⟨by omega, by omega⟩ (Nat.le_trans hL (by decide)) rfl rfl ?_
  refine z_aload_n 0 dL_law_595 rfl rfl (Nat.le_of_ble_eq_true rfl) rfl ?_
  refine z_iload dL_law_596 rfl rfl ?_
  refine z_iconst dL_law_598 rfl ?_
  refine z_iadd dL_law_599 rfl ?_
  refine z_sld (x := (zsc G (l4 + 3))) dL_law_600 ⟨by omega, by omega⟩ (Nat.le_trans hL (by decide)) rfl rfl ?_
  refine z_callVi vX12_mixed kL_59 dL_law_601 rfl hR (as := [vi (zsc G (l4 + 1)), vi (zsc G (l4 + 2)), vi (zsc G (l4 + 3))]) (rest := [vi x1]) (Nat.le_of_ble_eq_true rfl) rfl rfl (zCi_mono (fun x3 h4 k => ?_) k)
  obtain ⟨r1, r2, ka, kb⟩ := k
  refine z_icmp_eq (tgt := 2526) dL_law_604 rfl r1 r2 rfl ⟨fun q => ?_, fun q => ?_⟩
  · have k := ka q
    exact z_sub (L' := [some ((41, 0)), some (vr 11 0), some (vr 12 466), some (vr 14 525), some (vi l4), none, none]) (And.intro rfl (And.intro rfl (And.intro rfl (And.intro rfl (And.intro rfl trivial))))) k
  · have k := kb q
    refine z_iconst dL_law_607 rfl ?_
    exact k.elim
theorem bL_law_523 {G : zG} {d kc ks : Nat} {l4 : Int} {h : zH} (hR : zRo room_1 kc ks d) (hL : zgL G ≤ 3072) (hi : 0 ≤ l4 ∧ l4 + 6 ≤ zgL G) (k : zCi G d mX11_has [vr 11 0, vi (zsc G (l4 + 1)), vi (zsc G (l4 + 2))] h (fun x1 h2 => zCi G d mX12_has [vr 12 466, vi (zsc G (l4 + 1)), vi (zsc G (l4 + 2))] h2 (fun x3 h4 => zR x1 ∧ zR x3 ∧ (x1 = x3 → tL_law_2526 G kc ks l4 h4) ∧ (¬ x1 = x3 → False)))) : tL_law_523 G kc ks l4 h := by
  unfold tL_law_523
  refine z_aload_n 1 dL_law_523 rfl rfl (Nat.le_of_ble_eq_true rfl) rfl ?_
  refine z_aload_n 0 dL_law_524 rfl rfl (Nat.le_of_ble_eq_true rfl) rfl ?_
  refine z_iload dL_law_525 rfl rfl ?_
  refine z_iconst dL_law_527 rfl ?_
  refine z_iadd dL_law_528 rfl ?_
  refine z_sld (x := (zsc G (l4 + 1))) dL_law_529 ⟨by omega, by omega⟩ (Nat.le_trans hL (by decide)) rfl rfl ?_
  refine z_aload_n 0 dL_law_530 rfl rfl (Nat.le_of_ble_eq_true rfl) rfl ?_
  refine z_iload dL_law_531 rfl rfl ?_
  refine z_iconst dL_law_533 rfl ?_
  refine z_iadd dL_law_534 rfl ?_
  refine z_sld (x := (zsc G (l4 + 2))) dL_law_535 ⟨by omega, by omega⟩ (Nat.le_trans hL (by decide)) rfl rfl ?_
  refine z_callVi vX11_has kL_50 dL_law_536 rfl hR (as := [vi (zsc G (l4 + 1)), vi (zsc G (l4 + 2))]) (rest := []) (Nat.le_of_ble_eq_true rfl) rfl rfl (zCi_mono (fun x1 h2 k => ?_) k)
  refine z_aload_n 2 dL_law_539 rfl rfl (Nat.le_of_ble_eq_true rfl) rfl ?_
  refine z_aload_n 0 dL_law_540 rfl rfl (Nat.le_of_ble_eq_true rfl) rfl ?_
  refine z_iload dL_law_541 rfl rfl ?_
  refine z_iconst dL_law_543 rfl ?_
  refine z_iadd dL_law_544 rfl ?_
  refine z_sld (x := (zsc G (l4 + 1))) dL_law_545 ⟨by omega, by omega⟩ (Nat.le_trans hL (by decide)) rfl rfl ?_
  refine z_aload_n 0 dL_law_546 rfl rfl (Nat.le_of_ble_eq_true rfl) rfl ?_
  refine z_iload dL_law_547 rfl rfl ?_
  refine z_iconst dL_law_549 rfl ?_
  refine z_iadd dL_law_550 rfl ?_
  refine z_sld (x := (zsc G (l4 + 2))) dL_law_551 ⟨by omega, by omega⟩ (Nat.le_trans hL (by decide)) rfl rfl ?_
  refine z_callVi vX12_has kL_54 dL_law_552 rfl hR (as := [vi (zsc G (l4 + 1)), vi (zsc G (l4 + 2))]) (rest := [vi x1]) (Nat.le_of_ble_eq_true rfl) rfl rfl (zCi_mono (fun x3 h4 k => ?_) k)
  obtain ⟨r1, r2, ka, kb⟩ := k
  refine z_icmp_eq (tgt := 2526) dL_law_555 rfl r1 r2 rfl ⟨fun q => ?_, fun q => ?_⟩
  · have k := ka q
    exact z_sub (L' := [some ((41, 0)), some (vr 11 0), some (vr 12 466), some (vr 14 525), some (vi l4), none, none]) (And.intro rfl (And.intro rfl (And.intro rfl (And.intro rfl (And.intro rfl trivial))))) k
  · have k := kb q
    refine z_iconst dL_law_558 rfl ?_
    exact k.elim
theorem bL_law_498 {G : zG} {d kc ks : Nat} {l4 : Int} {h : zH} (hR : zRo room_1 kc ks d) (hL : zgL G ≤ 3072) (hi : 0 ≤ l4 ∧ l4 + 6 ≤ zgL G) (k : zCi G d mX11_letters [vr 11 0, vi (zsc G (l4 + 1))] h (fun x1 h2 => zCi G d mX12_letters [vr 12 466, vi (zsc G (l4 + 1))] h2 (fun x3 h4 => zR x1 ∧ zR x3 ∧ (x1 = x3 → tL_law_2526 G kc ks l4 h4) ∧ (¬ x1 = x3 → False)))) : tL_law_498 G kc ks l4 h := by
  unfold tL_law_498
  refine z_aload_n 1 dL_law_498 rfl rfl (Nat.le_of_ble_eq_true rfl) rfl ?_
  refine z_aload_n 0 dL_law_499 rfl rfl (Nat.le_of_ble_eq_true rfl) rfl ?_
  refine z_iload dL_law_500 rfl rfl ?_
  refine z_iconst dL_law_502 rfl ?_
  refine z_iadd dL_law_503 rfl ?_
  refine z_sld (x := (zsc G (l4 + 1))) dL_law_504 ⟨by omega, by omega⟩ (Nat.le_trans hL (by decide)) rfl rfl ?_
  refine z_callVi vX11_letters kL_46 dL_law_505 rfl hR (as := [vi (zsc G (l4 + 1))]) (rest := []) (Nat.le_of_ble_eq_true rfl) rfl rfl (zCi_mono (fun x1 h2 k => ?_) k)
  refine z_aload_n 2 dL_law_508 rfl rfl (Nat.le_of_ble_eq_true rfl) rfl ?_
  refine z_aload_n 0 dL_law_509 rfl rfl (Nat.le_of_ble_eq_true rfl) rfl ?_
  refine z_iload dL_law_510 rfl rfl ?_
  refine z_iconst dL_law_512 rfl ?_
  refine z_iadd dL_law_513 rfl ?_
  refine z_sld (x := (zsc G (l4 + 1))) dL_law_514 ⟨by omega, by omega⟩ (Nat.le_trans hL (by decide)) rfl rfl ?_
  refine z_callVi vX12_letters kL_49 dL_law_515 rfl hR (as := [vi (zsc G (l4 + 1))]) (rest := [vi x1]) (Nat.le_of_ble_eq_true rfl) rfl rfl (zCi_mono (fun x3 h4 k => ?_) k)
  obtain ⟨r1, r2, ka, kb⟩ := k
  refine z_icmp_eq (tgt := 2526) dL_law_518 rfl r1 r2 rfl ⟨fun q => ?_, fun q => ?_⟩
  · have k := ka q
    exact z_sub (L' := [some ((41, 0)), some (vr 11 0), some (vr 12 466), some (vr 14 525), some (vi l4), none, none]) (And.intro rfl (And.intro rfl (And.intro rfl (And.intro rfl (And.intro rfl trivial))))) k
  · have k := kb q
    refine z_iconst dL_law_521 rfl ?_
    exact k.elim
theorem bL_law_433 {G : zG} {d kc ks : Nat} {l4 : Int} {h : zH} (hR : zRo room_1 kc ks d) (hL : zgL G ≤ 3072) (hi : 0 ≤ l4 ∧ l4 + 6 ≤ zgL G) (k : ((zsc G (l4 + 3)) = 0 → zCi G d mX11_range [vr 11 0, vi (zsc G (l4 + 1)), vi (zsc G (l4 + 2)), vi (bi false)] h (fun x1 h2 => ((zsc G (l4 + 3)) = 0 → zCi G d mX12_range [vr 12 466, vi (zsc G (l4 + 1)), vi (zsc G (l4 + 2)), vi (bi false)] h2 (fun x3 h4 => zR x1 ∧ zR x3 ∧ (x1 = x3 → tL_law_2526 G kc ks l4 h4) ∧ (¬ x1 = x3 → False))) ∧ (¬ (zsc G (l4 + 3)) = 0 → zCi G d mX12_range [vr 12 466, vi (zsc G (l4 + 1)), vi (zsc G (l4 + 2)), vi (bi true)] h2 (fun x5 h6 => zR x1 ∧ zR x5 ∧ (x1 = x5 → tL_law_2526 G kc ks l4 h6) ∧ (¬ x1 = x5 → False))))) ∧ (¬ (zsc G (l4 + 3)) = 0 → zCi G d mX11_range [vr 11 0, vi (zsc G (l4 + 1)), vi (zsc G (l4 + 2)), vi (bi true)] h (fun x7 h8 => ((zsc G (l4 + 3)) = 0 → zCi G d mX12_range [vr 12 466, vi (zsc G (l4 + 1)), vi (zsc G (l4 + 2)), vi (bi false)] h8 (fun x9 h10 => zR x7 ∧ zR x9 ∧ (x7 = x9 → tL_law_2526 G kc ks l4 h10) ∧ (¬ x7 = x9 → False))) ∧ (¬ (zsc G (l4 + 3)) = 0 → zCi G d mX12_range [vr 12 466, vi (zsc G (l4 + 1)), vi (zsc G (l4 + 2)), vi (bi true)] h8 (fun x11 h12 => zR x7 ∧ zR x11 ∧ (x7 = x11 → tL_law_2526 G kc ks l4 h12) ∧ (¬ x7 = x11 → False)))))) : tL_law_433 G kc ks l4 h := by
  unfold tL_law_433
  refine z_aload_n 1 dL_law_433 rfl rfl (Nat.le_of_ble_eq_true rfl) rfl ?_
  refine z_aload_n 0 dL_law_434 rfl rfl (Nat.le_of_ble_eq_true rfl) rfl ?_
  refine z_iload dL_law_435 rfl rfl ?_
  refine z_iconst dL_law_437 rfl ?_
  refine z_iadd dL_law_438 rfl ?_
  refine z_sld (x := (zsc G (l4 + 1))) dL_law_439 ⟨by omega, by omega⟩ (Nat.le_trans hL (by decide)) rfl rfl ?_
  refine z_aload_n 0 dL_law_440 rfl rfl (Nat.le_of_ble_eq_true rfl) rfl ?_
  refine z_iload dL_law_441 rfl rfl ?_
  refine z_iconst dL_law_443 rfl ?_
  refine z_iadd dL_law_444 rfl ?_
  refine z_sld (x := (zsc G (l4 + 2))) dL_law_445 ⟨by omega, by omega⟩ (Nat.le_trans hL (by decide)) rfl rfl ?_
  refine z_aload_n 0 dL_law_446 rfl rfl (Nat.le_of_ble_eq_true rfl) rfl ?_
  refine z_iload dL_law_447 rfl rfl ?_
  refine z_iconst dL_law_449 rfl ?_
  refine z_iadd dL_law_450 rfl ?_
  refine z_sld (x := (zsc G (l4 + 3))) dL_law_451 ⟨by omega, by omega⟩ (Nat.le_trans hL (by decide)) rfl rfl ?_
  obtain ⟨ka, kb⟩ := k
  refine z_if_eq (tgt := 459) dL_law_452 rfl (zsc_R _ _) rfl ⟨fun q => ?_, fun q => ?_⟩
  · have k := ka q
    refine z_iconst dL_law_459 rfl ?_
    refine z_callVi vX11_range kL_41 dL_law_460 rfl hR (as := [vi (zsc G (l4 + 1)), vi (zsc G (l4 + 2)), vi (bi false)]) (rest := []) (Nat.le_of_ble_eq_true rfl) rfl rfl (zCi_mono (fun x1 h2 k => ?_) k)
    refine z_aload_n 2 dL_law_463 rfl rfl (Nat.le_of_ble_eq_true rfl) rfl ?_
    refine z_aload_n 0 dL_law_464 rfl rfl (Nat.le_of_ble_eq_true rfl) rfl ?_
    refine z_iload dL_law_465 rfl rfl ?_
    refine z_iconst dL_law_467 rfl ?_
    refine z_iadd dL_law_468 rfl ?_
    refine z_sld (x := (zsc G (l4 + 1))) dL_law_469 ⟨by omega, by omega⟩ (Nat.le_trans hL (by decide)) rfl rfl ?_
    refine z_aload_n 0 dL_law_470 rfl rfl (Nat.le_of_ble_eq_true rfl) rfl ?_
    refine z_iload dL_law_471 rfl rfl ?_
    refine z_iconst dL_law_473 rfl ?_
    refine z_iadd dL_law_474 rfl ?_
    refine z_sld (x := (zsc G (l4 + 2))) dL_law_475 ⟨by omega, by omega⟩ (Nat.le_trans hL (by decide)) rfl rfl ?_
    refine z_aload_n 0 dL_law_476 rfl rfl (Nat.le_of_ble_eq_true rfl) rfl ?_
    refine z_iload dL_law_477 rfl rfl ?_
    refine z_iconst dL_law_479 rfl ?_
    refine z_iadd dL_law_480 rfl ?_
    refine z_sld (x := (zsc G (l4 + 3))) dL_law_481 ⟨by omega, by omega⟩ (Nat.le_trans hL (by decide)) rfl rfl ?_
    obtain ⟨ka, kb⟩ := k
    refine z_if_eq (tgt := 489) dL_law_482 rfl (zsc_R _ _) rfl ⟨fun q => ?_, fun q => ?_⟩
    · have k := ka q
      refine z_iconst dL_law_489 rfl ?_
      refine z_callVi vX12_range kL_45 dL_law_490 rfl hR (as := [vi (zsc G (l4 + 1)), vi (zsc G (l4 + 2)), vi (bi false)]) (rest := [vi x1]) (Nat.le_of_ble_eq_true rfl) rfl rfl (zCi_mono (fun x3 h4 k => ?_) k)
      obtain ⟨r1, r2, ka, kb⟩ := k
      refine z_icmp_eq (tgt := 2526) dL_law_493 rfl r1 r2 rfl ⟨fun q => ?_, fun q => ?_⟩
      · have k := ka q
        exact z_sub (L' := [some ((41, 0)), some (vr 11 0), some (vr 12 466), some (vr 14 525), some (vi l4), none, none]) (And.intro rfl (And.intro rfl (And.intro rfl (And.intro rfl (And.intro rfl trivial))))) k
      · have k := kb q
        refine z_iconst dL_law_496 rfl ?_
        exact k.elim
    · have k := kb q
      refine z_iconst dL_law_485 rfl ?_
      refine z_goto (tgt := 490) dL_law_486 rfl ?_
      refine z_callVi vX12_range kL_45 dL_law_490 rfl hR (as := [vi (zsc G (l4 + 1)), vi (zsc G (l4 + 2)), vi (bi true)]) (rest := [vi x1]) (Nat.le_of_ble_eq_true rfl) rfl rfl (zCi_mono (fun x5 h6 k => ?_) k)
      obtain ⟨r1, r2, ka, kb⟩ := k
      refine z_icmp_eq (tgt := 2526) dL_law_493 rfl r1 r2 rfl ⟨fun q => ?_, fun q => ?_⟩
      · have k := ka q
        exact z_sub (L' := [some ((41, 0)), some (vr 11 0), some (vr 12 466), some (vr 14 525), some (vi l4), none, none]) (And.intro rfl (And.intro rfl (And.intro rfl (And.intro rfl (And.intro rfl trivial))))) k
      · have k := kb q
        refine z_iconst dL_law_496 rfl ?_
        exact k.elim
  · have k := kb q
    refine z_iconst dL_law_455 rfl ?_
    refine z_goto (tgt := 460) dL_law_456 rfl ?_
    refine z_callVi vX11_range kL_41 dL_law_460 rfl hR (as := [vi (zsc G (l4 + 1)), vi (zsc G (l4 + 2)), vi (bi true)]) (rest := []) (Nat.le_of_ble_eq_true rfl) rfl rfl (zCi_mono (fun x7 h8 k => ?_) k)
    refine z_aload_n 2 dL_law_463 rfl rfl (Nat.le_of_ble_eq_true rfl) rfl ?_
    refine z_aload_n 0 dL_law_464 rfl rfl (Nat.le_of_ble_eq_true rfl) rfl ?_
    refine z_iload dL_law_465 rfl rfl ?_
    refine z_iconst dL_law_467 rfl ?_
    refine z_iadd dL_law_468 rfl ?_
    refine z_sld (x := (zsc G (l4 + 1))) dL_law_469 ⟨by omega, by omega⟩ (Nat.le_trans hL (by decide)) rfl rfl ?_
    refine z_aload_n 0 dL_law_470 rfl rfl (Nat.le_of_ble_eq_true rfl) rfl ?_
    refine z_iload dL_law_471 rfl rfl ?_
    refine z_iconst dL_law_473 rfl ?_
    refine z_iadd dL_law_474 rfl ?_
    refine z_sld (x := (zsc G (l4 + 2))) dL_law_475 ⟨by omega, by omega⟩ (Nat.le_trans hL (by decide)) rfl rfl ?_
    refine z_aload_n 0 dL_law_476 rfl rfl (Nat.le_of_ble_eq_true rfl) rfl ?_
    refine z_iload dL_law_477 rfl rfl ?_
    refine z_iconst dL_law_479 rfl ?_
    refine z_iadd dL_law_480 rfl ?_
    refine z_sld (x := (zsc G (l4 + 3))) dL_law_481 ⟨by omega, by omega⟩ (Nat.le_trans hL (by decide)) rfl rfl ?_
    obtain ⟨ka, kb⟩ := k
    refine z_if_eq (tgt := 489) dL_law_482 rfl (zsc_R _ _) rfl ⟨fun q => ?_, fun q => ?_⟩
    · have k := ka q
      refine z_iconst dL_law_489 rfl ?_
      refine z_callVi vX12_range kL_45 dL_law_490 rfl hR (as := [vi (zsc G (l4 + 1)), vi (zsc G (l4 + 2)), vi (bi false)]) (rest := [vi x7]) (Nat.le_of_ble_eq_true rfl) rfl rfl (zCi_mono (fun x9 h10 k => ?_) k)
      obtain ⟨r1, r2, ka, kb⟩ := k
      refine z_icmp_eq (tgt := 2526) dL_law_493 rfl r1 r2 rfl ⟨fun q => ?_, fun q => ?_⟩
      · have k := ka q
        exact z_sub (L' := [some ((41, 0)), some (vr 11 0), some (vr 12 466), some (vr 14 525), some (vi l4), none, none]) (And.intro rfl (And.intro rfl (And.intro rfl (And.intro rfl (And.intro rfl trivial))))) k
      · have k := kb q
        refine z_iconst dL_law_496 rfl ?_
        exact k.elim
    · have k := kb q
      refine z_iconst dL_law_485 rfl ?_
      refine z_goto (tgt := 490) dL_law_486 rfl ?_
      refine z_callVi vX12_range kL_45 dL_law_490 rfl hR (as := [vi (zsc G (l4 + 1)), vi (zsc G (l4 + 2)), vi (bi true)]) (rest := [vi x7]) (Nat.le_of_ble_eq_true rfl) rfl rfl (zCi_mono (fun x11 h12 k => ?_) k)
      obtain ⟨r1, r2, ka, kb⟩ := k
      refine z_icmp_eq (tgt := 2526) dL_law_493 rfl r1 r2 rfl ⟨fun q => ?_, fun q => ?_⟩
      · have k := ka q
        exact z_sub (L' := [some ((41, 0)), some (vr 11 0), some (vr 12 466), some (vr 14 525), some (vi l4), none, none]) (And.intro rfl (And.intro rfl (And.intro rfl (And.intro rfl (And.intro rfl trivial))))) k
      · have k := kb q
        refine z_iconst dL_law_496 rfl ?_
        exact k.elim
theorem bL_law_408 {G : zG} {d kc ks : Nat} {l4 : Int} {h : zH} (hR : zRo room_1 kc ks d) (hL : zgL G ≤ 3072) (hi : 0 ≤ l4 ∧ l4 + 6 ≤ zgL G) (k : zCi G d mX11_ranges [vr 11 0, vi (zsc G (l4 + 1))] h (fun x1 h2 => zCi G d mX12_ranges [vr 12 466, vi (zsc G (l4 + 1))] h2 (fun x3 h4 => zR x1 ∧ zR x3 ∧ (x1 = x3 → tL_law_2526 G kc ks l4 h4) ∧ (¬ x1 = x3 → False)))) : tL_law_408 G kc ks l4 h := by
  unfold tL_law_408
  refine z_aload_n 1 dL_law_408 rfl rfl (Nat.le_of_ble_eq_true rfl) rfl ?_
  refine z_aload_n 0 dL_law_409 rfl rfl (Nat.le_of_ble_eq_true rfl) rfl ?_
  refine z_iload dL_law_410 rfl rfl ?_
  refine z_iconst dL_law_412 rfl ?_
  refine z_iadd dL_law_413 rfl ?_
  refine z_sld (x := (zsc G (l4 + 1))) dL_law_414 ⟨by omega, by omega⟩ (Nat.le_trans hL (by decide)) rfl rfl ?_
  refine z_callVi vX11_ranges kL_37 dL_law_415 rfl hR (as := [vi (zsc G (l4 + 1))]) (rest := []) (Nat.le_of_ble_eq_true rfl) rfl rfl (zCi_mono (fun x1 h2 k => ?_) k)
  refine z_aload_n 2 dL_law_418 rfl rfl (Nat.le_of_ble_eq_true rfl) rfl ?_
  refine z_aload_n 0 dL_law_419 rfl rfl (Nat.le_of_ble_eq_true rfl) rfl ?_
  refine z_iload dL_law_420 rfl rfl ?_
  refine z_iconst dL_law_422 rfl ?_
  refine z_iadd dL_law_423 rfl ?_
  refine z_sld (x := (zsc G (l4 + 1))) dL_law_424 ⟨by omega, by omega⟩ (Nat.le_trans hL (by decide)) rfl rfl ?_
  refine z_callVi vX12_ranges kL_40 dL_law_425 rfl hR (as := [vi (zsc G (l4 + 1))]) (rest := [vi x1]) (Nat.le_of_ble_eq_true rfl) rfl rfl (zCi_mono (fun x3 h4 k => ?_) k)
  obtain ⟨r1, r2, ka, kb⟩ := k
  refine z_icmp_eq (tgt := 2526) dL_law_428 rfl r1 r2 rfl ⟨fun q => ?_, fun q => ?_⟩
  · have k := ka q
    exact z_sub (L' := [some ((41, 0)), some (vr 11 0), some (vr 12 466), some (vr 14 525), some (vi l4), none, none]) (And.intro rfl (And.intro rfl (And.intro rfl (And.intro rfl (And.intro rfl trivial))))) k
  · have k := kb q
    refine z_iconst dL_law_431 rfl ?_
    exact k.elim
theorem bL_law_395 {G : zG} {d kc ks : Nat} {l4 : Int} {h : zH} (hR : zRo room_1 kc ks d) (hL : zgL G ≤ 3072) (hi : 0 ≤ l4 ∧ l4 + 6 ≤ zgL G) (k : zCi G d mX11_where [vr 11 0] h (fun x1 h2 => zCi G d mX12_where [vr 12 466] h2 (fun x3 h4 => zR x1 ∧ zR x3 ∧ (x1 = x3 → tL_law_2526 G kc ks l4 h4) ∧ (¬ x1 = x3 → False)))) : tL_law_395 G kc ks l4 h := by
  unfold tL_law_395
  refine z_aload_n 1 dL_law_395 rfl rfl (Nat.le_of_ble_eq_true rfl) rfl ?_
  refine z_callVi vX11_where kL_33 dL_law_396 rfl hR (as := []) (rest := []) (Nat.le_of_ble_eq_true rfl) rfl rfl (zCi_mono (fun x1 h2 k => ?_) k)
  refine z_aload_n 2 dL_law_399 rfl rfl (Nat.le_of_ble_eq_true rfl) rfl ?_
  refine z_callVi vX12_where kL_36 dL_law_400 rfl hR (as := []) (rest := [vi x1]) (Nat.le_of_ble_eq_true rfl) rfl rfl (zCi_mono (fun x3 h4 k => ?_) k)
  obtain ⟨r1, r2, ka, kb⟩ := k
  refine z_icmp_eq (tgt := 2526) dL_law_403 rfl r1 r2 rfl ⟨fun q => ?_, fun q => ?_⟩
  · have k := ka q
    exact z_sub (L' := [some ((41, 0)), some (vr 11 0), some (vr 12 466), some (vr 14 525), some (vi l4), none, none]) (And.intro rfl (And.intro rfl (And.intro rfl (And.intro rfl (And.intro rfl trivial))))) k
  · have k := kb q
    refine z_iconst dL_law_406 rfl ?_
    exact k.elim
theorem bL_law_382 {G : zG} {d kc ks : Nat} {l4 : Int} {h : zH} (hR : zRo room_1 kc ks d) (hL : zgL G ≤ 3072) (hi : 0 ≤ l4 ∧ l4 + 6 ≤ zgL G) (k : zCi G d mX11_fault [vr 11 0] h (fun x1 h2 => zCi G d mX12_fault [vr 12 466] h2 (fun x3 h4 => zR x1 ∧ zR x3 ∧ (x1 = x3 → tL_law_2526 G kc ks l4 h4) ∧ (¬ x1 = x3 → False)))) : tL_law_382 G kc ks l4 h := by
  unfold tL_law_382
  refine z_aload_n 1 dL_law_382 rfl rfl (Nat.le_of_ble_eq_true rfl) rfl ?_
  refine z_callVi vX11_fault kL_28 dL_law_383 rfl hR (as := []) (rest := []) (Nat.le_of_ble_eq_true rfl) rfl rfl (zCi_mono (fun x1 h2 k => ?_) k)
  refine z_aload_n 2 dL_law_386 rfl rfl (Nat.le_of_ble_eq_true rfl) rfl ?_
  refine z_callVi vX12_fault kL_32 dL_law_387 rfl hR (as := []) (rest := [vi x1]) (Nat.le_of_ble_eq_true rfl) rfl rfl (zCi_mono (fun x3 h4 k => ?_) k)
  obtain ⟨r1, r2, ka, kb⟩ := k
  refine z_icmp_eq (tgt := 2526) dL_law_390 rfl r1 r2 rfl ⟨fun q => ?_, fun q => ?_⟩
  · have k := ka q
    exact z_sub (L' := [some ((41, 0)), some (vr 11 0), some (vr 12 466), some (vr 14 525), some (vi l4), none, none]) (And.intro rfl (And.intro rfl (And.intro rfl (And.intro rfl (And.intro rfl trivial))))) k
  · have k := kb q
    refine z_iconst dL_law_393 rfl ?_
    exact k.elim
theorem bL_law_357 {G : zG} {d kc ks : Nat} {l4 : Int} {h : zH} (hR : zRo room_1 kc ks d) (hL : zgL G ≤ 3072) (hi : 0 ≤ l4 ∧ l4 + 6 ≤ zgL G) (k : zCi G d mX11_bench [vr 11 0, vi (zsc G (l4 + 1))] h (fun x1 h2 => zCi G d mX12_bench [vr 12 466, vi (zsc G (l4 + 1))] h2 (fun x3 h4 => zR x1 ∧ zR x3 ∧ (x1 = x3 → tL_law_2526 G kc ks l4 h4) ∧ (¬ x1 = x3 → False)))) : tL_law_357 G kc ks l4 h := by
  unfold tL_law_357
  refine z_aload_n 1 dL_law_357 rfl rfl (Nat.le_of_ble_eq_true rfl) rfl ?_
  refine z_aload_n 0 dL_law_358 rfl rfl (Nat.le_of_ble_eq_true rfl) rfl ?_
  refine z_iload dL_law_359 rfl rfl ?_
  refine z_iconst dL_law_361 rfl ?_
  refine z_iadd dL_law_362 rfl ?_
  refine z_sld (x := (zsc G (l4 + 1))) dL_law_363 ⟨by omega, by omega⟩ (Nat.le_trans hL (by decide)) rfl rfl ?_
  refine z_callVi vX11_bench kL_24 dL_law_364 rfl hR (as := [vi (zsc G (l4 + 1))]) (rest := []) (Nat.le_of_ble_eq_true rfl) rfl rfl (zCi_mono (fun x1 h2 k => ?_) k)
  refine z_aload_n 2 dL_law_367 rfl rfl (Nat.le_of_ble_eq_true rfl) rfl ?_
  refine z_aload_n 0 dL_law_368 rfl rfl (Nat.le_of_ble_eq_true rfl) rfl ?_
  refine z_iload dL_law_369 rfl rfl ?_
  refine z_iconst dL_law_371 rfl ?_
  refine z_iadd dL_law_372 rfl ?_
  refine z_sld (x := (zsc G (l4 + 1))) dL_law_373 ⟨by omega, by omega⟩ (Nat.le_trans hL (by decide)) rfl rfl ?_
  refine z_callVi vX12_bench kL_27 dL_law_374 rfl hR (as := [vi (zsc G (l4 + 1))]) (rest := [vi x1]) (Nat.le_of_ble_eq_true rfl) rfl rfl (zCi_mono (fun x3 h4 k => ?_) k)
  obtain ⟨r1, r2, ka, kb⟩ := k
  refine z_icmp_eq (tgt := 2526) dL_law_377 rfl r1 r2 rfl ⟨fun q => ?_, fun q => ?_⟩
  · have k := ka q
    exact z_sub (L' := [some ((41, 0)), some (vr 11 0), some (vr 12 466), some (vr 14 525), some (vi l4), none, none]) (And.intro rfl (And.intro rfl (And.intro rfl (And.intro rfl (And.intro rfl trivial))))) k
  · have k := kb q
    refine z_iconst dL_law_380 rfl ?_
    exact k.elim
theorem bL_law_284 {G : zG} {d kc ks : Nat} {l4 : Int} {h : zH} (hR : zRo room_1 kc ks d) (hL : zgL G ≤ 3072) (hi : 0 ≤ l4 ∧ l4 + 6 ≤ zgL G) (k : zCi G d mX11_feed [vr 11 0, vi (zsc G (l4 + 1)), vi (zsc G (l4 + 2)), vi (zsc G (l4 + 3)), vi (zsc G (l4 + 4)), vi (zsc G (l4 + 5))] h (fun x1 h2 => zCi G d mX12_feed [vr 12 466, vi (zsc G (l4 + 1)), vi (zsc G (l4 + 2)), vi (zsc G (l4 + 3)), vi (zsc G (l4 + 4)), vi (zsc G (l4 + 5))] h2 (fun x3 h4 => zR x1 ∧ zR x3 ∧ (x1 = x3 → tL_law_2526 G kc ks l4 h4) ∧ (¬ x1 = x3 → False)))) : tL_law_284 G kc ks l4 h := by
  unfold tL_law_284
  refine z_aload_n 1 dL_law_284 rfl rfl (Nat.le_of_ble_eq_true rfl) rfl ?_
  refine z_aload_n 0 dL_law_285 rfl rfl (Nat.le_of_ble_eq_true rfl) rfl ?_
  refine z_iload dL_law_286 rfl rfl ?_
  refine z_iconst dL_law_288 rfl ?_
  refine z_iadd dL_law_289 rfl ?_
  refine z_sld (x := (zsc G (l4 + 1))) dL_law_290 ⟨by omega, by omega⟩ (Nat.le_trans hL (by decide)) rfl rfl ?_
  refine z_aload_n 0 dL_law_291 rfl rfl (Nat.le_of_ble_eq_true rfl) rfl ?_
  refine z_iload dL_law_292 rfl rfl ?_
  refine z_iconst dL_law_294 rfl ?_
  refine z_iadd dL_law_295 rfl ?_
  refine z_sld (x := (zsc G (l4 + 2))) dL_law_296 ⟨by omega, by omega⟩ (Nat.le_trans hL (by decide)) rfl rfl ?_
  refine z_aload_n 0 dL_law_297 rfl rfl (Nat.le_of_ble_eq_true rfl) rfl ?_
  refine z_iload dL_law_298 rfl rfl ?_
  refine z_iconst dL_law_300 rfl ?_
  refine z_iadd dL_law_301 rfl ?_
  refine z_sld (x := (zsc G (l4 + 3))) dL_law_302 ⟨by omega, by omega⟩ (Nat.le_trans hL (by decide)) rfl rfl ?_
  refine z_aload_n 0 dL_law_303 rfl rfl (Nat.le_of_ble_eq_true rfl) rfl ?_
  refine z_iload dL_law_304 rfl rfl ?_
  refine z_iconst dL_law_306 rfl ?_
  refine z_iadd dL_law_307 rfl ?_
  refine z_sld (x := (zsc G (l4 + 4))) dL_law_308 ⟨by omega, by omega⟩ (Nat.le_trans hL (by decide)) rfl rfl ?_
  refine z_aload_n 0 dL_law_309 rfl rfl (Nat.le_of_ble_eq_true rfl) rfl ?_
  refine z_iload dL_law_310 rfl rfl ?_
  refine z_iconst dL_law_312 rfl ?_
  refine z_iadd dL_law_313 rfl ?_
  refine z_sld (x := (zsc G (l4 + 5))) dL_law_314 ⟨by omega, by omega⟩ (Nat.le_trans hL (by decide)) rfl rfl ?_
  refine z_callVi vX11_feed kL_19 dL_law_315 rfl hR (as := [vi (zsc G (l4 + 1)), vi (zsc G (l4 + 2)), vi (zsc G (l4 + 3)), vi (zsc G (l4 + 4)), vi (zsc G (l4 + 5))]) (rest := []) (Nat.le_of_ble_eq_true rfl) rfl rfl (zCi_mono (fun x1 h2 k => ?_) k)
  refine z_aload_n 2 dL_law_318 rfl rfl (Nat.le_of_ble_eq_true rfl) rfl ?_
  refine z_aload_n 0 dL_law_319 rfl rfl (Nat.le_of_ble_eq_true rfl) rfl ?_
  refine z_iload dL_law_320 rfl rfl ?_
  refine z_iconst dL_law_322 rfl ?_
  refine z_iadd dL_law_323 rfl ?_
  refine z_sld (x := (zsc G (l4 + 1))) dL_law_324 ⟨by omega, by omega⟩ (Nat.le_trans hL (by decide)) rfl rfl ?_
  refine z_aload_n 0 dL_law_325 rfl rfl (Nat.le_of_ble_eq_true rfl) rfl ?_
  refine z_iload dL_law_326 rfl rfl ?_
  refine z_iconst dL_law_328 rfl ?_
  refine z_iadd dL_law_329 rfl ?_
  refine z_sld (x := (zsc G (l4 + 2))) dL_law_330 ⟨by omega, by omega⟩ (Nat.le_trans hL (by decide)) rfl rfl ?_
  refine z_aload_n 0 dL_law_331 rfl rfl (Nat.le_of_ble_eq_true rfl) rfl ?_
  refine z_iload dL_law_332 rfl rfl ?_
  refine z_iconst dL_law_334 rfl ?_
  refine z_iadd dL_law_335 rfl ?_
  refine z_sld (x := (zsc G (l4 + 3))) dL_law_336 ⟨by omega, by omega⟩ (Nat.le_trans hL (by decide)) rfl rfl ?_
  refine z_aload_n 0 dL_law_337 rfl rfl (Nat.le_of_ble_eq_true rfl) rfl ?_
  refine z_iload dL_law_338 rfl rfl ?_
  refine z_iconst dL_law_340 rfl ?_
  refine z_iadd dL_law_341 rfl ?_
  refine z_sld (x := (zsc G (l4 + 4))) dL_law_342 ⟨by omega, by omega⟩ (Nat.le_trans hL (by decide)) rfl rfl ?_
  refine z_aload_n 0 dL_law_343 rfl rfl (Nat.le_of_ble_eq_true rfl) rfl ?_
  refine z_iload dL_law_344 rfl rfl ?_
  refine z_iconst dL_law_346 rfl ?_
  refine z_iadd dL_law_347 rfl ?_
  refine z_sld (x := (zsc G (l4 + 5))) dL_law_348 ⟨by omega, by omega⟩ (Nat.le_trans hL (by decide)) rfl rfl ?_
  refine z_callVi vX12_feed kL_23 dL_law_349 rfl hR (as := [vi (zsc G (l4 + 1)), vi (zsc G (l4 + 2)), vi (zsc G (l4 + 3)), vi (zsc G (l4 + 4)), vi (zsc G (l4 + 5))]) (rest := [vi x1]) (Nat.le_of_ble_eq_true rfl) rfl rfl (zCi_mono (fun x3 h4 k => ?_) k)
  obtain ⟨r1, r2, ka, kb⟩ := k
  refine z_icmp_eq (tgt := 2526) dL_law_352 rfl r1 r2 rfl ⟨fun q => ?_, fun q => ?_⟩
  · have k := ka q
    exact z_sub (L' := [some ((41, 0)), some (vr 11 0), some (vr 12 466), some (vr 14 525), some (vi l4), none, none]) (And.intro rfl (And.intro rfl (And.intro rfl (And.intro rfl (And.intro rfl trivial))))) k
  · have k := kb q
    refine z_iconst dL_law_355 rfl ?_
    exact k.elim
theorem bL_law_23 {G : zG} {d kc ks : Nat} {l4 : Int} {h : zH} (hR : zRo room_1 kc ks d) (hL : zgL G ≤ 3072) (h0 : 0 ≤ l4) (k : zR l4 ∧ zR ((zgL G : Int) - 6) ∧ (((zgL G : Int) - 6) < l4 → (kc ≤ 601024 ∧ ks ≤ 7293034)) ∧ (¬ ((zgL G : Int) - 6) < l4 → zR (ziand (zsc G l4) 63) ∧ ((ziand (zsc G l4) 63) < 0 ∨ 56 < (ziand (zsc G l4) 63) → tL_law_2526 G kc ks l4 h) ∧ ((ziand (zsc G l4) 63) = 0 → tL_law_284 G kc ks l4 h) ∧ ((ziand (zsc G l4) 63) = 1 → tL_law_357 G kc ks l4 h) ∧ ((ziand (zsc G l4) 63) = 2 → tL_law_382 G kc ks l4 h) ∧ ((ziand (zsc G l4) 63) = 3 → tL_law_395 G kc ks l4 h) ∧ ((ziand (zsc G l4) 63) = 4 → tL_law_408 G kc ks l4 h) ∧ ((ziand (zsc G l4) 63) = 5 → tL_law_433 G kc ks l4 h) ∧ ((ziand (zsc G l4) 63) = 6 → tL_law_498 G kc ks l4 h) ∧ ((ziand (zsc G l4) 63) = 7 → tL_law_523 G kc ks l4 h) ∧ ((ziand (zsc G l4) 63) = 8 → tL_law_560 G kc ks l4 h) ∧ ((ziand (zsc G l4) 63) = 9 → tL_law_609 G kc ks l4 h) ∧ ((ziand (zsc G l4) 63) = 10 → tL_law_658 G kc ks l4 h) ∧ ((ziand (zsc G l4) 63) = 11 → tL_law_747 G kc ks l4 h) ∧ ((ziand (zsc G l4) 63) = 12 → tL_law_784 G kc ks l4 h) ∧ ((ziand (zsc G l4) 63) = 13 → tL_law_833 G kc ks l4 h) ∧ ((ziand (zsc G l4) 63) = 14 → tL_law_910 G kc ks l4 h) ∧ ((ziand (zsc G l4) 63) = 15 → tL_law_975 G kc ks l4 h) ∧ ((ziand (zsc G l4) 63) = 16 → tL_law_1001 G kc ks l4 h) ∧ ((ziand (zsc G l4) 63) = 17 → tL_law_1038 G kc ks l4 h) ∧ ((ziand (zsc G l4) 63) = 18 → tL_law_1076 G kc ks l4 h) ∧ ((ziand (zsc G l4) 63) = 19 → tL_law_1102 G kc ks l4 h) ∧ ((ziand (zsc G l4) 63) = 20 → tL_law_1139 G kc ks l4 h) ∧ ((ziand (zsc G l4) 63) = 21 → tL_law_1200 G kc ks l4 h) ∧ ((ziand (zsc G l4) 63) = 22 → tL_law_1249 G kc ks l4 h) ∧ ((ziand (zsc G l4) 63) = 23 → tL_law_1286 G kc ks l4 h) ∧ ((ziand (zsc G l4) 63) = 24 → tL_law_1311 G kc ks l4 h) ∧ ((ziand (zsc G l4) 63) = 25 → tL_law_1348 G kc ks l4 h) ∧ ((ziand (zsc G l4) 63) = 26 → tL_law_1397 G kc ks l4 h) ∧ ((ziand (zsc G l4) 63) = 27 → tL_law_1446 G kc ks l4 h) ∧ ((ziand (zsc G l4) 63) = 28 → tL_law_1507 G kc ks l4 h) ∧ ((ziand (zsc G l4) 63) = 29 → tL_law_1532 G kc ks l4 h) ∧ ((ziand (zsc G l4) 63) = 30 → tL_law_1605 G kc ks l4 h) ∧ ((ziand (zsc G l4) 63) = 31 → tL_law_1630 G kc ks l4 h) ∧ ((ziand (zsc G l4) 63) = 32 → tL_law_1655 G kc ks l4 h) ∧ ((ziand (zsc G l4) 63) = 33 → tL_law_1681 G kc ks l4 h) ∧ ((ziand (zsc G l4) 63) = 34 → tL_law_1706 G kc ks l4 h) ∧ ((ziand (zsc G l4) 63) = 35 → tL_law_1732 G kc ks l4 h) ∧ ((ziand (zsc G l4) 63) = 36 → tL_law_1770 G kc ks l4 h) ∧ ((ziand (zsc G l4) 63) = 37 → tL_law_1863 G kc ks l4 h) ∧ ((ziand (zsc G l4) 63) = 38 → tL_law_1888 G kc ks l4 h) ∧ ((ziand (zsc G l4) 63) = 39 → tL_law_1937 G kc ks l4 h) ∧ ((ziand (zsc G l4) 63) = 40 → tL_law_1998 G kc ks l4 h) ∧ ((ziand (zsc G l4) 63) = 41 → tL_law_2035 G kc ks l4 h) ∧ ((ziand (zsc G l4) 63) = 42 → tL_law_2072 G kc ks l4 h) ∧ ((ziand (zsc G l4) 63) = 43 → tL_law_2097 G kc ks l4 h) ∧ ((ziand (zsc G l4) 63) = 44 → tL_law_2122 G kc ks l4 h) ∧ ((ziand (zsc G l4) 63) = 45 → tL_law_2147 G kc ks l4 h) ∧ ((ziand (zsc G l4) 63) = 46 → tL_law_2196 G kc ks l4 h) ∧ ((ziand (zsc G l4) 63) = 47 → tL_law_2233 G kc ks l4 h) ∧ ((ziand (zsc G l4) 63) = 48 → tL_law_2258 G kc ks l4 h) ∧ ((ziand (zsc G l4) 63) = 49 → tL_law_2283 G kc ks l4 h) ∧ ((ziand (zsc G l4) 63) = 50 → tL_law_2320 G kc ks l4 h) ∧ ((ziand (zsc G l4) 63) = 51 → tL_law_2357 G kc ks l4 h) ∧ ((ziand (zsc G l4) 63) = 52 → tL_law_2394 G kc ks l4 h) ∧ ((ziand (zsc G l4) 63) = 53 → tL_law_2407 G kc ks l4 h) ∧ ((ziand (zsc G l4) 63) = 54 → tL_law_2463 G kc ks l4 h) ∧ ((ziand (zsc G l4) 63) = 55 → tL_law_2488 G kc ks l4 h) ∧ ((ziand (zsc G l4) 63) = 56 → tL_law_2513 G kc ks l4 h))) : tL_law_23 G kc ks l4 h := by
  unfold tL_law_23
  refine z_iload dL_law_23 rfl rfl ?_
  refine z_aload_n 0 dL_law_25 rfl rfl (Nat.le_of_ble_eq_true rfl) rfl ?_
  refine z_slen (x := (zgL G : Int)) dL_law_26 rfl rfl ?_
  refine z_bipush dL_law_27 rfl rfl ?_
  refine z_isub dL_law_29 rfl ?_
  obtain ⟨r1, r2, ka, kb⟩ := k
  refine z_icmp_gt (tgt := 2532) dL_law_30 rfl r1 r2 rfl ⟨fun q => ?_, fun q => ?_⟩
  · have k := ka q
    exact zL_end k.1 k.2
  · have k := kb q
    have hi : l4 + 6 ≤ zgL G := by omega
    refine z_aload_n 0 dL_law_33 rfl rfl (Nat.le_of_ble_eq_true rfl) rfl ?_
    refine z_iload dL_law_34 rfl rfl ?_
    refine z_sld (x := (zsc G l4)) dL_law_36 ⟨by omega, by omega⟩ (Nat.le_trans hL (by decide)) rfl rfl ?_
    refine z_bipush dL_law_37 rfl rfl ?_
    refine z_iand dL_law_39 rfl ?_
    obtain ⟨r1, kd, k_0, k_1, k_2, k_3, k_4, k_5, k_6, k_7, k_8, k_9, k_10, k_11, k_12, k_13, k_14, k_15, k_16, k_17, k_18, k_19, k_20, k_21, k_22, k_23, k_24, k_25, k_26, k_27, k_28, k_29, k_30, k_31, k_32, k_33, k_34, k_35, k_36, k_37, k_38, k_39, k_40, k_41, k_42, k_43, k_44, k_45, k_46, k_47, k_48, k_49, k_50, k_51, k_52, k_53, k_54, k_55, k_56⟩ := k
    refine z_table (dt := 2526) (ts := [284, 357, 382, 395, 408, 433, 498, 523, 560, 609, 658, 747, 784, 833, 910, 975, 1001, 1038, 1076, 1102, 1139, 1200, 1249, 1286, 1311, 1348, 1397, 1446, 1507, 1532, 1605, 1630, 1655, 1681, 1706, 1732, 1770, 1863, 1888, 1937, 1998, 2035, 2072, 2097, 2122, 2147, 2196, 2233, 2258, 2283, 2320, 2357, 2394, 2407, 2463, 2488, 2513]) dL_law_40 r1 rfl rfl rfl ⟨fun q => ?_, fun i t hi q => ?_⟩
    · have k := kd q
      exact z_sub (L' := [some ((41, 0)), some (vr 11 0), some (vr 12 466), some (vr 14 525), some (vi l4), none, none]) (And.intro rfl (And.intro rfl (And.intro rfl (And.intro rfl (And.intro rfl trivial))))) k
    · match i, hi, q with
      | 0, hi, q =>
        cases hi
        have k := k_0 (by omega)
        exact z_sub (L' := [some ((41, 0)), some (vr 11 0), some (vr 12 466), some (vr 14 525), some (vi l4), none, none]) (And.intro rfl (And.intro rfl (And.intro rfl (And.intro rfl (And.intro rfl trivial))))) k
      | 1, hi, q =>
        cases hi
        have k := k_1 (by omega)
        exact z_sub (L' := [some ((41, 0)), some (vr 11 0), some (vr 12 466), some (vr 14 525), some (vi l4), none, none]) (And.intro rfl (And.intro rfl (And.intro rfl (And.intro rfl (And.intro rfl trivial))))) k
      | 2, hi, q =>
        cases hi
        have k := k_2 (by omega)
        exact z_sub (L' := [some ((41, 0)), some (vr 11 0), some (vr 12 466), some (vr 14 525), some (vi l4), none, none]) (And.intro rfl (And.intro rfl (And.intro rfl (And.intro rfl (And.intro rfl trivial))))) k
      | 3, hi, q =>
        cases hi
        have k := k_3 (by omega)
        exact z_sub (L' := [some ((41, 0)), some (vr 11 0), some (vr 12 466), some (vr 14 525), some (vi l4), none, none]) (And.intro rfl (And.intro rfl (And.intro rfl (And.intro rfl (And.intro rfl trivial))))) k
      | 4, hi, q =>
        cases hi
        have k := k_4 (by omega)
        exact z_sub (L' := [some ((41, 0)), some (vr 11 0), some (vr 12 466), some (vr 14 525), some (vi l4), none, none]) (And.intro rfl (And.intro rfl (And.intro rfl (And.intro rfl (And.intro rfl trivial))))) k
      | 5, hi, q =>
        cases hi
        have k := k_5 (by omega)
        exact z_sub (L' := [some ((41, 0)), some (vr 11 0), some (vr 12 466), some (vr 14 525), some (vi l4), none, none]) (And.intro rfl (And.intro rfl (And.intro rfl (And.intro rfl (And.intro rfl trivial))))) k
      | 6, hi, q =>
        cases hi
        have k := k_6 (by omega)
        exact z_sub (L' := [some ((41, 0)), some (vr 11 0), some (vr 12 466), some (vr 14 525), some (vi l4), none, none]) (And.intro rfl (And.intro rfl (And.intro rfl (And.intro rfl (And.intro rfl trivial))))) k
      | 7, hi, q =>
        cases hi
        have k := k_7 (by omega)
        exact z_sub (L' := [some ((41, 0)), some (vr 11 0), some (vr 12 466), some (vr 14 525), some (vi l4), none, none]) (And.intro rfl (And.intro rfl (And.intro rfl (And.intro rfl (And.intro rfl trivial))))) k
      | 8, hi, q =>
        cases hi
        have k := k_8 (by omega)
        exact z_sub (L' := [some ((41, 0)), some (vr 11 0), some (vr 12 466), some (vr 14 525), some (vi l4), none, none]) (And.intro rfl (And.intro rfl (And.intro rfl (And.intro rfl (And.intro rfl trivial))))) k
      | 9, hi, q =>
        cases hi
        have k := k_9 (by omega)
        exact z_sub (L' := [some ((41, 0)), some (vr 11 0), some (vr 12 466), some (vr 14 525), some (vi l4), none, none]) (And.intro rfl (And.intro rfl (And.intro rfl (And.intro rfl (And.intro rfl trivial))))) k
      | 10, hi, q =>
        cases hi
        have k := k_10 (by omega)
        exact z_sub (L' := [some ((41, 0)), some (vr 11 0), some (vr 12 466), some (vr 14 525), some (vi l4), none, none]) (And.intro rfl (And.intro rfl (And.intro rfl (And.intro rfl (And.intro rfl trivial))))) k
      | 11, hi, q =>
        cases hi
        have k := k_11 (by omega)
        exact z_sub (L' := [some ((41, 0)), some (vr 11 0), some (vr 12 466), some (vr 14 525), some (vi l4), none, none]) (And.intro rfl (And.intro rfl (And.intro rfl (And.intro rfl (And.intro rfl trivial))))) k
      | 12, hi, q =>
        cases hi
        have k := k_12 (by omega)
        exact z_sub (L' := [some ((41, 0)), some (vr 11 0), some (vr 12 466), some (vr 14 525), some (vi l4), none, none]) (And.intro rfl (And.intro rfl (And.intro rfl (And.intro rfl (And.intro rfl trivial))))) k
      | 13, hi, q =>
        cases hi
        have k := k_13 (by omega)
        exact z_sub (L' := [some ((41, 0)), some (vr 11 0), some (vr 12 466), some (vr 14 525), some (vi l4), none, none]) (And.intro rfl (And.intro rfl (And.intro rfl (And.intro rfl (And.intro rfl trivial))))) k
      | 14, hi, q =>
        cases hi
        have k := k_14 (by omega)
        exact z_sub (L' := [some ((41, 0)), some (vr 11 0), some (vr 12 466), some (vr 14 525), some (vi l4), none, none]) (And.intro rfl (And.intro rfl (And.intro rfl (And.intro rfl (And.intro rfl trivial))))) k
      | 15, hi, q =>
        cases hi
        have k := k_15 (by omega)
        exact z_sub (L' := [some ((41, 0)), some (vr 11 0), some (vr 12 466), some (vr 14 525), some (vi l4), none, none]) (And.intro rfl (And.intro rfl (And.intro rfl (And.intro rfl (And.intro rfl trivial))))) k
      | 16, hi, q =>
        cases hi
        have k := k_16 (by omega)
        exact z_sub (L' := [some ((41, 0)), some (vr 11 0), some (vr 12 466), some (vr 14 525), some (vi l4), none, none]) (And.intro rfl (And.intro rfl (And.intro rfl (And.intro rfl (And.intro rfl trivial))))) k
      | 17, hi, q =>
        cases hi
        have k := k_17 (by omega)
        exact z_sub (L' := [some ((41, 0)), some (vr 11 0), some (vr 12 466), some (vr 14 525), some (vi l4), none, none]) (And.intro rfl (And.intro rfl (And.intro rfl (And.intro rfl (And.intro rfl trivial))))) k
      | 18, hi, q =>
        cases hi
        have k := k_18 (by omega)
        exact z_sub (L' := [some ((41, 0)), some (vr 11 0), some (vr 12 466), some (vr 14 525), some (vi l4), none, none]) (And.intro rfl (And.intro rfl (And.intro rfl (And.intro rfl (And.intro rfl trivial))))) k
      | 19, hi, q =>
        cases hi
        have k := k_19 (by omega)
        exact z_sub (L' := [some ((41, 0)), some (vr 11 0), some (vr 12 466), some (vr 14 525), some (vi l4), none, none]) (And.intro rfl (And.intro rfl (And.intro rfl (And.intro rfl (And.intro rfl trivial))))) k
      | 20, hi, q =>
        cases hi
        have k := k_20 (by omega)
        exact z_sub (L' := [some ((41, 0)), some (vr 11 0), some (vr 12 466), some (vr 14 525), some (vi l4), none, none]) (And.intro rfl (And.intro rfl (And.intro rfl (And.intro rfl (And.intro rfl trivial))))) k
      | 21, hi, q =>
        cases hi
        have k := k_21 (by omega)
        exact z_sub (L' := [some ((41, 0)), some (vr 11 0), some (vr 12 466), some (vr 14 525), some (vi l4), none, none]) (And.intro rfl (And.intro rfl (And.intro rfl (And.intro rfl (And.intro rfl trivial))))) k
      | 22, hi, q =>
        cases hi
        have k := k_22 (by omega)
        exact z_sub (L' := [some ((41, 0)), some (vr 11 0), some (vr 12 466), some (vr 14 525), some (vi l4), none, none]) (And.intro rfl (And.intro rfl (And.intro rfl (And.intro rfl (And.intro rfl trivial))))) k
      | 23, hi, q =>
        cases hi
        have k := k_23 (by omega)
        exact z_sub (L' := [some ((41, 0)), some (vr 11 0), some (vr 12 466), some (vr 14 525), some (vi l4), none, none]) (And.intro rfl (And.intro rfl (And.intro rfl (And.intro rfl (And.intro rfl trivial))))) k
      | 24, hi, q =>
        cases hi
        have k := k_24 (by omega)
        exact z_sub (L' := [some ((41, 0)), some (vr 11 0), some (vr 12 466), some (vr 14 525), some (vi l4), none, none]) (And.intro rfl (And.intro rfl (And.intro rfl (And.intro rfl (And.intro rfl trivial))))) k
      | 25, hi, q =>
        cases hi
        have k := k_25 (by omega)
        exact z_sub (L' := [some ((41, 0)), some (vr 11 0), some (vr 12 466), some (vr 14 525), some (vi l4), none, none]) (And.intro rfl (And.intro rfl (And.intro rfl (And.intro rfl (And.intro rfl trivial))))) k
      | 26, hi, q =>
        cases hi
        have k := k_26 (by omega)
        exact z_sub (L' := [some ((41, 0)), some (vr 11 0), some (vr 12 466), some (vr 14 525), some (vi l4), none, none]) (And.intro rfl (And.intro rfl (And.intro rfl (And.intro rfl (And.intro rfl trivial))))) k
      | 27, hi, q =>
        cases hi
        have k := k_27 (by omega)
        exact z_sub (L' := [some ((41, 0)), some (vr 11 0), some (vr 12 466), some (vr 14 525), some (vi l4), none, none]) (And.intro rfl (And.intro rfl (And.intro rfl (And.intro rfl (And.intro rfl trivial))))) k
      | 28, hi, q =>
        cases hi
        have k := k_28 (by omega)
        exact z_sub (L' := [some ((41, 0)), some (vr 11 0), some (vr 12 466), some (vr 14 525), some (vi l4), none, none]) (And.intro rfl (And.intro rfl (And.intro rfl (And.intro rfl (And.intro rfl trivial))))) k
      | 29, hi, q =>
        cases hi
        have k := k_29 (by omega)
        exact z_sub (L' := [some ((41, 0)), some (vr 11 0), some (vr 12 466), some (vr 14 525), some (vi l4), none, none]) (And.intro rfl (And.intro rfl (And.intro rfl (And.intro rfl (And.intro rfl trivial))))) k
      | 30, hi, q =>
        cases hi
        have k := k_30 (by omega)
        exact z_sub (L' := [some ((41, 0)), some (vr 11 0), some (vr 12 466), some (vr 14 525), some (vi l4), none, none]) (And.intro rfl (And.intro rfl (And.intro rfl (And.intro rfl (And.intro rfl trivial))))) k
      | 31, hi, q =>
        cases hi
        have k := k_31 (by omega)
        exact z_sub (L' := [some ((41, 0)), some (vr 11 0), some (vr 12 466), some (vr 14 525), some (vi l4), none, none]) (And.intro rfl (And.intro rfl (And.intro rfl (And.intro rfl (And.intro rfl trivial))))) k
      | 32, hi, q =>
        cases hi
        have k := k_32 (by omega)
        exact z_sub (L' := [some ((41, 0)), some (vr 11 0), some (vr 12 466), some (vr 14 525), some (vi l4), none, none]) (And.intro rfl (And.intro rfl (And.intro rfl (And.intro rfl (And.intro rfl trivial))))) k
      | 33, hi, q =>
        cases hi
        have k := k_33 (by omega)
        exact z_sub (L' := [some ((41, 0)), some (vr 11 0), some (vr 12 466), some (vr 14 525), some (vi l4), none, none]) (And.intro rfl (And.intro rfl (And.intro rfl (And.intro rfl (And.intro rfl trivial))))) k
      | 34, hi, q =>
        cases hi
        have k := k_34 (by omega)
        exact z_sub (L' := [some ((41, 0)), some (vr 11 0), some (vr 12 466), some (vr 14 525), some (vi l4), none, none]) (And.intro rfl (And.intro rfl (And.intro rfl (And.intro rfl (And.intro rfl trivial))))) k
      | 35, hi, q =>
        cases hi
        have k := k_35 (by omega)
        exact z_sub (L' := [some ((41, 0)), some (vr 11 0), some (vr 12 466), some (vr 14 525), some (vi l4), none, none]) (And.intro rfl (And.intro rfl (And.intro rfl (And.intro rfl (And.intro rfl trivial))))) k
      | 36, hi, q =>
        cases hi
        have k := k_36 (by omega)
        exact z_sub (L' := [some ((41, 0)), some (vr 11 0), some (vr 12 466), some (vr 14 525), some (vi l4), none, none]) (And.intro rfl (And.intro rfl (And.intro rfl (And.intro rfl (And.intro rfl trivial))))) k
      | 37, hi, q =>
        cases hi
        have k := k_37 (by omega)
        exact z_sub (L' := [some ((41, 0)), some (vr 11 0), some (vr 12 466), some (vr 14 525), some (vi l4), none, none]) (And.intro rfl (And.intro rfl (And.intro rfl (And.intro rfl (And.intro rfl trivial))))) k
      | 38, hi, q =>
        cases hi
        have k := k_38 (by omega)
        exact z_sub (L' := [some ((41, 0)), some (vr 11 0), some (vr 12 466), some (vr 14 525), some (vi l4), none, none]) (And.intro rfl (And.intro rfl (And.intro rfl (And.intro rfl (And.intro rfl trivial))))) k
      | 39, hi, q =>
        cases hi
        have k := k_39 (by omega)
        exact z_sub (L' := [some ((41, 0)), some (vr 11 0), some (vr 12 466), some (vr 14 525), some (vi l4), none, none]) (And.intro rfl (And.intro rfl (And.intro rfl (And.intro rfl (And.intro rfl trivial))))) k
      | 40, hi, q =>
        cases hi
        have k := k_40 (by omega)
        exact z_sub (L' := [some ((41, 0)), some (vr 11 0), some (vr 12 466), some (vr 14 525), some (vi l4), none, none]) (And.intro rfl (And.intro rfl (And.intro rfl (And.intro rfl (And.intro rfl trivial))))) k
      | 41, hi, q =>
        cases hi
        have k := k_41 (by omega)
        exact z_sub (L' := [some ((41, 0)), some (vr 11 0), some (vr 12 466), some (vr 14 525), some (vi l4), none, none]) (And.intro rfl (And.intro rfl (And.intro rfl (And.intro rfl (And.intro rfl trivial))))) k
      | 42, hi, q =>
        cases hi
        have k := k_42 (by omega)
        exact z_sub (L' := [some ((41, 0)), some (vr 11 0), some (vr 12 466), some (vr 14 525), some (vi l4), none, none]) (And.intro rfl (And.intro rfl (And.intro rfl (And.intro rfl (And.intro rfl trivial))))) k
      | 43, hi, q =>
        cases hi
        have k := k_43 (by omega)
        exact z_sub (L' := [some ((41, 0)), some (vr 11 0), some (vr 12 466), some (vr 14 525), some (vi l4), none, none]) (And.intro rfl (And.intro rfl (And.intro rfl (And.intro rfl (And.intro rfl trivial))))) k
      | 44, hi, q =>
        cases hi
        have k := k_44 (by omega)
        exact z_sub (L' := [some ((41, 0)), some (vr 11 0), some (vr 12 466), some (vr 14 525), some (vi l4), none, none]) (And.intro rfl (And.intro rfl (And.intro rfl (And.intro rfl (And.intro rfl trivial))))) k
      | 45, hi, q =>
        cases hi
        have k := k_45 (by omega)
        exact z_sub (L' := [some ((41, 0)), some (vr 11 0), some (vr 12 466), some (vr 14 525), some (vi l4), none, none]) (And.intro rfl (And.intro rfl (And.intro rfl (And.intro rfl (And.intro rfl trivial))))) k
      | 46, hi, q =>
        cases hi
        have k := k_46 (by omega)
        exact z_sub (L' := [some ((41, 0)), some (vr 11 0), some (vr 12 466), some (vr 14 525), some (vi l4), none, none]) (And.intro rfl (And.intro rfl (And.intro rfl (And.intro rfl (And.intro rfl trivial))))) k
      | 47, hi, q =>
        cases hi
        have k := k_47 (by omega)
        exact z_sub (L' := [some ((41, 0)), some (vr 11 0), some (vr 12 466), some (vr 14 525), some (vi l4), none, none]) (And.intro rfl (And.intro rfl (And.intro rfl (And.intro rfl (And.intro rfl trivial))))) k
      | 48, hi, q =>
        cases hi
        have k := k_48 (by omega)
        exact z_sub (L' := [some ((41, 0)), some (vr 11 0), some (vr 12 466), some (vr 14 525), some (vi l4), none, none]) (And.intro rfl (And.intro rfl (And.intro rfl (And.intro rfl (And.intro rfl trivial))))) k
      | 49, hi, q =>
        cases hi
        have k := k_49 (by omega)
        exact z_sub (L' := [some ((41, 0)), some (vr 11 0), some (vr 12 466), some (vr 14 525), some (vi l4), none, none]) (And.intro rfl (And.intro rfl (And.intro rfl (And.intro rfl (And.intro rfl trivial))))) k
      | 50, hi, q =>
        cases hi
        have k := k_50 (by omega)
        exact z_sub (L' := [some ((41, 0)), some (vr 11 0), some (vr 12 466), some (vr 14 525), some (vi l4), none, none]) (And.intro rfl (And.intro rfl (And.intro rfl (And.intro rfl (And.intro rfl trivial))))) k
      | 51, hi, q =>
        cases hi
        have k := k_51 (by omega)
        exact z_sub (L' := [some ((41, 0)), some (vr 11 0), some (vr 12 466), some (vr 14 525), some (vi l4), none, none]) (And.intro rfl (And.intro rfl (And.intro rfl (And.intro rfl (And.intro rfl trivial))))) k
      | 52, hi, q =>
        cases hi
        have k := k_52 (by omega)
        exact z_sub (L' := [some ((41, 0)), some (vr 11 0), some (vr 12 466), some (vr 14 525), some (vi l4), none, none]) (And.intro rfl (And.intro rfl (And.intro rfl (And.intro rfl (And.intro rfl trivial))))) k
      | 53, hi, q =>
        cases hi
        have k := k_53 (by omega)
        exact z_sub (L' := [some ((41, 0)), some (vr 11 0), some (vr 12 466), some (vr 14 525), some (vi l4), none, none]) (And.intro rfl (And.intro rfl (And.intro rfl (And.intro rfl (And.intro rfl trivial))))) k
      | 54, hi, q =>
        cases hi
        have k := k_54 (by omega)
        exact z_sub (L' := [some ((41, 0)), some (vr 11 0), some (vr 12 466), some (vr 14 525), some (vi l4), none, none]) (And.intro rfl (And.intro rfl (And.intro rfl (And.intro rfl (And.intro rfl trivial))))) k
      | 55, hi, q =>
        cases hi
        have k := k_55 (by omega)
        exact z_sub (L' := [some ((41, 0)), some (vr 11 0), some (vr 12 466), some (vr 14 525), some (vi l4), none, none]) (And.intro rfl (And.intro rfl (And.intro rfl (And.intro rfl (And.intro rfl trivial))))) k
      | 56, hi, q =>
        cases hi
        have k := k_56 (by omega)
        exact z_sub (L' := [some ((41, 0)), some (vr 11 0), some (vr 12 466), some (vr 14 525), some (vi l4), none, none]) (And.intro rfl (And.intro rfl (And.intro rfl (And.intro rfl (And.intro rfl trivial))))) k
      | i + 57, hi, q =>
        exact absurd hi (by simp)
