/-! ===== the word at hand; the dead class ===== -/
/-- the sheaf to which the first letters of a word lead -/
def wS (D : zH) (T w : Int → Int) : Nat → Int
  | 0 => 0
  | k + 1 => T (wS D T w k * 128 + dB D (w (k : Int)))
theorem wS_ok {D : zH} {n : Int} {B T Pa Vi De w : Int → Int} (hb : bfs D n B T Pa Vi De (n * 128)) (hD : mOK D) : ∀ k : Nat, (∀ i, 0 ≤ i → i < (k : Int) → 0 ≤ w i) → 0 ≤ wS D T w k ∧ wS D T w k < n
  | 0, _ => by
    have := hb.1
    show (0 : Int) ≤ 0 ∧ (0 : Int) < n
    omega
  | k + 1, h => by
    have a := wS_ok hb hD k (fun i x y => h i x (by omega))
    have b := dB_ok hD (h k (by omega) (by omega))
    exact bfs_T hb a.1 a.2 b.1.1 b.1.2 hD
section CO
variable {G : zG} {d : Nat} {h D : zH}
theorem sp_sheafOfWord {K : Int → zH → Prop} {m n : Int} {B Pa Vi De : Int → Int} (hD : mOK D) (hr : cRep h m D) (hb : bfs D n B (h (m + 7 + 2)) Pa Vi De (n * 128)) (hw : 0 ≤ h 0 11 ∧ h 0 11 ≤ 16) (hl : ∀ i, 0 ≤ i → i < h 0 11 → 0 ≤ h 2 i ∧ h 2 i < 65536) (k : K (wS D (h (m + 7 + 2)) (h 2) (h 0 11).toNat) h) : zCi G (d + 1) mX11_sheafOfWord [vr 11 0, vr 4 m] h K := by
  have nn := hb.1
  have hB := mO_bl hD
  have go : ∀ (f i : Nat), (i : Int) + f = h 0 11 → tX11_sheafOfWord_4 G d K m (wS D (h (m + 7 + 2)) (h 2) i) i h := by
    intro f
    induction f with
    | zero =>
      intro i hi
      rw [show (h 0 11).toNat = i by omega] at k
      exact bX11_sheafOfWord_4 ⟨⟨by omega, by omega⟩, ⟨by omega, by omega⟩, fun _ => k, fun z => absurd z (by omega)⟩
    | succ f ih =>
      intro i hi
      have lv := hl i (by omega) (by omega)
      have a := wS_ok (w := h 2) hb hD i (fun j x y => (hl j x (by omega)).1)
      have b := dB_ok hD lv.1
      refine bX11_sheafOfWord_4 ⟨⟨by omega, by omega⟩, ⟨by omega, by omega⟩, fun z => absurd z (by omega), fun _ => ⟨⟨by omega, by omega⟩, fun z => absurd z (by omega), fun _ => ⟨by omega, sp_blockOf hD hr ⟨by omega, by omega⟩ (sp_sheafStep (by omega) (by omega) ?_)⟩⟩⟩
      have := ih (i + 1) (by omega)
      rw [show ((i + 1 : Nat) : Int) = (i : Int) + 1 by omega] at this
      exact this
  exact eX11_sheafOfWord (bX11_sheafOfWord_0 (go (h 0 11).toNat 0 (by omega)))
theorem sm_led {K : Int → zH → Prop} {i n : Int} {w B T Pa Vi De : Int → Int} {L : Int} (hD : mOK D) (hi : 0 ≤ i ∧ i < 14) (hr : mRep h i D) (hb : bfs D n B T Pa Vi De (n * 128)) (e77 : h 466 77 = L) (hw : 0 ≤ L ∧ L ≤ 16) (hl : ∀ j, 0 ≤ j → j < L → (0 ≤ w j ∧ w j < 65536) ∧ h 514 j = w j) (k : K (B (wS D T w L.toNat)) h) : zCl G (d + 3) mX12_led [vr 12 466, vi i] h K := by
  have nn := hb.1
  have hB := mO_bl hD
  have go : ∀ (f j : Nat), (j : Int) + f = L → tX12_led_10 G (d + 2) K i (B (wS D T w j)) j h := by
    intro f
    induction f with
    | zero =>
      intro j hj
      refine bX12_led_10 ?_
      rw [e77]
      rw [show L.toNat = j by omega] at k
      exact ⟨⟨by omega, by omega⟩, ⟨by omega, by omega⟩, fun _ => k, fun z => absurd z (by omega)⟩
    | succ f ih =>
      intro j hj
      have lv := hl j (by omega) (by omega)
      have a := wS_ok (w := w) hb hD j (fun i x y => (hl i x (by omega)).1.1)
      have b := dB_ok hD lv.1.1
      refine bX12_led_10 ?_
      rw [e77, lv.2]
      refine ⟨⟨by omega, by omega⟩, ⟨by omega, by omega⟩, fun z => absurd z (by omega), fun _ => ⟨by omega, sm_blockAt hD hi hr ⟨by omega, by omega⟩ lv.1.1 (sm_stepped hD hi hr (hb.2.2.1 _ a.1 a.2) b.1 (fun y hy => ?_))⟩⟩
      obtain ⟨t1, t2, -⟩ := hb.2.2.2.2.1 _ _ a.1 a.2 b.1.1 b.1.2 (by omega)
      rw [lp_eq hy t2]
      have := ih (j + 1) (by omega)
      rw [show ((j + 1 : Nat) : Int) = (j : Int) + 1 by omega] at this
      exact this
  refine eX12_led (bX12_led_0 (sm_freed hD hi hr zRL_1 (fun y hy => ?_)))
  rw [lp_eq (lp_iff hy (fun q => dClk_iff (fun p => tS_1))) hb.2.1.1]
  exact go L.toNat 0 (by omega)
end CO
section CP
variable {G : zG} {d : Nat} {h : zH}
/-- the word at hand, for class and model -/
theorem iW_get (hI : Inv h) : (0 ≤ h 0 11 ∧ h 0 11 ≤ 16) ∧ (∀ i, 0 ≤ i → i < h 0 11 → 0 ≤ h 2 i ∧ h 2 i < 65536) ∧ ∀ H : zH, bK h H → H 466 77 = h 0 11 ∧ ∀ j, 0 ≤ j → j < h 0 11 → (0 ≤ h 2 j ∧ h 2 j < 65536) ∧ H 514 j = h 2 j := by
  have a := hI.1.2.1
  refine ⟨by omega, fun i x y => (hI.2.1 i x y).1, fun H hH => ⟨by rw [hH.2 77 (by unfold kms; omega)]; omega, fun j x y => ⟨(hI.2.1 j x y).1, ?_⟩⟩⟩
  rw [hH.1 514 (by unfold kp; omega)]
  exact (hI.2.1 j x y).2
theorem c_taken {m : Int} (hI : Inv h) (hm : zR m) : twI G (d + 7) mX11_taken mX12_taken [vi m] h := by
  have b0 : ∀ w, bK h (zup (zup h 0 14 w) 466 0 0) := fun w => bK_w (fun _ _ => rfl) rfl
  refine eX11_taken (bX11_taken_0 (q_mach hI hm (fun q => ⟨fun _ => ?_, fun z => (by cases z)⟩) (fun q => ⟨fun z => (by cases z), fun _ => sp_refused (eX12_taken (bX12_taken_0 (q_machM hI rfl hm (fun z => absurd z q) (fun _ => ⟨fun z => (by cases z), fun _ => sm_refused ⟨zR_m1, rfl, Inv_w hI (by omega)⟩⟩))))⟩)))
  obtain ⟨m10, mc, o1, o2, o3, o4⟩ := iM_d hI q.1 q.2
  obtain ⟨p7, pb, pt, R, pR, pc⟩ := pth_p o4
  obtain ⟨w1, w2, w3⟩ := iW_get hI
  have nn := pb.1
  have ws := wS_ok (w := h 2) pb o1 (h 0 11).toNat (fun i x y => (w2 i x (by omega)).1)
  have tk := tk_b pt nn.2 ws
  have two : ∀ x, zR x → (tb (h (h 3 m + 7) 6) (wS (dOf h m) (h (h 3 m + 7 + 2)) (h 2) (h 0 11).toNat) = false → x = 0) → (tb (h (h 3 m + 7) 6) (wS (dOf h m) (h (h 3 m + 7 + 2)) (h 2) (h 0 11).toNat) = true → x = 1) → zCi G (d + 7) mX12_taken [vr 12 466, vi m] (zup h 0 14 0) (fun y h4 => zR x ∧ x = y ∧ Inv h4) := fun x hx x0 x1 => by
    refine eX12_taken (bX12_taken_0 (q_machM hI rfl hm (fun _ => ⟨fun _ => sm_led o1 (by omega) (mRep_b (b0 0) o3) pb (w3 _ (b0 0)).1 w1 (w3 _ (b0 0)).2 ⟨by omega, ?_⟩, fun z => (by cases z)⟩) (fun z => absurd q z)))
    rw [(mRep_b (b0 0) o3).1.2.1, (zcmp_lt (zland_R _ _) zRL_0).2.1]
    refine ⟨fun z => sm_good ⟨hx, x0 ?_, Inv_w hI (by omega)⟩, fun z => sm_good ⟨hx, x1 (tk.mp z), Inv_w hI (by omega)⟩⟩
    cases hz : tb (h (h 3 m + 7) 6) (wS (dOf h m) (h (h 3 m + 7 + 2)) (h 2) (h 0 11).toNat)
    · rfl
    · exact absurd z (tk.mpr hz)
  exact ⟨m10, m10, sp_sheafOfWord o1 o2 pb w1 w2 (sp_sheafTakes (by omega) ⟨fun z => sp_granted (two 0 ⟨by decide, by decide⟩ (fun _ => rfl) (fun y => absurd (z.symm.trans y) (by decide))), fun z => sp_granted (two 1 ⟨by decide, by decide⟩ (fun y => absurd (z.symm.trans y) (by decide)) (fun _ => rfl))⟩)⟩
theorem c_leads {m : Int} (hI : Inv h) (hm : zR m) : twL G (d + 7) mX11_leads mX12_leads [vi m] h := by
  have b0 : ∀ w, bK h (zup (zup h 0 14 w) 466 0 0) := fun w => bK_w (fun _ _ => rfl) rfl
  refine eX11_leads (bX11_leads_0 (q_mach hI hm (fun q => ⟨fun _ => ?_, fun z => (by cases z)⟩) (fun q => ⟨fun z => (by cases z), fun _ => sp_refused ⟨zR_m1, eX12_leads (bX12_leads_0 (q_machM hI rfl hm (fun z => absurd z q) (fun _ => ⟨fun z => (by cases z), fun _ => sm_refused ⟨zR_m1, ⟨by decide, by decide⟩, rfl, Inv_w hI (by omega)⟩⟩)))⟩⟩)))
  obtain ⟨m10, mc, o1, o2, o3, o4⟩ := iM_d hI q.1 q.2
  obtain ⟨p7, pb, pt, R, pR, pc⟩ := pth_p o4
  obtain ⟨w1, w2, w3⟩ := iW_get hI
  have nn := pb.1
  have ws := wS_ok (w := h 2) pb o1 (h 0 11).toNat (fun i x y => (w2 i x (by omega)).1)
  refine ⟨m10, m10, sp_sheafOfWord o1 o2 pb w1 w2 ⟨by omega, ?_⟩⟩
  rw [show h 3 m + 8 = h 3 m + 7 + 1 by omega]
  exact sp_grantedLong (eX12_leads (bX12_leads_0 (q_machM hI rfl hm (fun _ => ⟨fun _ => sm_led o1 (by omega) (mRep_b (b0 0) o3) pb (w3 _ (b0 0)).1 w1 (w3 _ (b0 0)).2 (sm_goodLong ⟨pb.2.2.1 _ ws.1 ws.2, rfl, Inv_w hI (by omega)⟩), fun z => (by cases z)⟩) (fun z => absurd q z))))
theorem c_classOf {m : Int} (hI : Inv h) (hm : zR m) : twI G (d + 7) mX11_classOf mX12_classOf [vi m] h := by
  have b0 : ∀ w, bK h (zup (zup h 0 14 w) 466 0 0) := fun w => bK_w (fun _ _ => rfl) rfl
  refine eX11_classOf (bX11_classOf_0 (q_mach hI hm (fun q => ⟨fun _ => ?_, fun z => (by cases z)⟩) (fun q => ⟨fun z => (by cases z), fun _ => sp_refused (eX12_classOf (bX12_classOf_0 (q_machM hI rfl hm (fun z => absurd z q) (fun _ => ⟨fun z => (by cases z), fun _ => sm_refused ⟨zR_m1, rfl, Inv_w hI (by omega)⟩⟩))))⟩)))
  obtain ⟨m10, mc, o1, o2, o3, o4⟩ := iM_d hI q.1 q.2
  obtain ⟨p7, pb, pt, R, pR, pc⟩ := pth_p o4
  obtain ⟨w1, w2, w3⟩ := iW_get hI
  have nn := pb.1
  have cc := cl_C pc
  have ws := wS_ok (w := h 2) pb o1 (h 0 11).toNat (fun i x y => (w2 i x (by omega)).1)
  have ki := cl_Ki pc ws.1 ws.2
  refine ⟨m10, m10, sp_sheafOfWord o1 o2 pb w1 w2 ⟨by omega, ?_⟩⟩
  rw [show h 3 m + 15 = h 3 m + 7 + 8 by omega]
  refine sp_granted (eX12_classOf (bX12_classOf_0 (q_machM hI rfl hm (fun _ => ⟨fun _ => q_sorts (b0 0) m10 o1 o3 pb pt pc (fun h3 f g s_ok => ?_), fun z => (by cases z)⟩) (fun z => absurd q z))))
  obtain ⟨g1, g2, -⟩ := mG0 g
  have b3 := bK_m (b0 0) f
  refine sm_led o1 (by omega) (mRep_b b3 o3) pb (w3 _ b3).1 w1 (w3 _ b3).2 ?_
  rw [g1]
  have e05 : ∀ s, 0 ≤ s → s < h (h 3 m + 7) 0 → h3 505 (0 + s) = h (h 3 m + 7 + 1) s := fun s x y => by rw [show (0 : Int) + s = s by omega]; exact g2 s x y
  refine sm_sheafIn (Or.inl rfl) (by omega) (pb.2.2.1 _ ws.1 ws.2) (fun s x y => by rw [e05 s x y]; exact pb.2.2.1 s x y) (fun s x y e => ?_) (fun no => absurd (e05 _ ws.1 ws.2) (no _ ws.1 ws.2))
  have es : s = wS (dOf h m) (h (h 3 m + 7 + 2)) (h 2) (h 0 11).toNat := by
    rw [e05 s x y] at e
    rcases Int.lt_trichotomy s (wS (dOf h m) (h (h 3 m + 7 + 2)) (h 2) (h 0 11).toNat) with z | z | z
    · exact absurd e (pb.2.2.2.1 _ _ x z ws.2)
    · exact z
    · exact absurd e.symm (pb.2.2.2.1 _ _ ws.1 z y)
  rw [es]
  refine ⟨by omega, ?_⟩
  rw [(mS0 s_ok).2.1 _ ws.1 ws.2]
  exact sm_good ⟨⟨by omega, by omega⟩, rfl, Inv_k hI (by omega) (fun _ _ => rfl) rfl rfl f⟩
end CP
