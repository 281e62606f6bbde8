/-! ===== cases: machines as they are ===== -/
theorem iM_get {h : zH} (hI : Inv h) {i : Int} (h0 : 0 ≤ i) (h1 : i < h 0 13) : (0 ≤ i ∧ i < 10) ∧ mcell (h 3 i) ∧ ∃ D : zH, mOK D ∧ cRep h (h 3 i) D ∧ mRep h i D ∧ pthOK h (h 3 i) D := by
  have a := hI.1.2.2.1
  exact ⟨⟨h0, by omega⟩, hI.2.2.2.2.1.1 i h0 (by omega), hI.2.2.2.2.1.2.2.2.2.2 i h0 h1⟩
theorem iM_n {h : zH} (hI : Inv h) : 0 ≤ h 0 13 ∧ h 0 13 ≤ 10 ∧ h 466 64 = h 0 13 := by
  have a := hI.1.2.2.1
  omega
/-- the model's machine, when the class has spoken -/
theorem mRep_2 {h h1 : zH} {i w : Int} {D : zH} (f : ∀ a, 493 ≤ a → a ≤ 504 → h1 a = h a) (k : mRep h i D) : mRep (zup (zup h1 0 14 w) 466 0 0) i D := mRep_fr (fun a x y => by rw [zup_ne (by omega), zup_ne (by omega), f a x y]) k
section CF
variable {G : zG} {d : Nat} {h : zH}
theorem sp_grantedLong {K : Int → zH → Prop} {a : Int} (k : K a (zup h 0 14 0)) : zCl G d mX11_grantedLong [vr 11 0, vl a] h K := eX11_grantedLong (bX11_grantedLong_0 k)
theorem sm_goodLong {K : Int → zH → Prop} {a : Int} (k : K a (zup (zup h 466 1 0) 466 2 (-1))) : zCl G (d + 1) mX12_goodLong [vr 12 466, vl a] h K := eX12_goodLong (bX12_goodLong_0 (sm_good k))
/-- a machine is asked for: both know whether it is there -/
theorem q_mach {K : Bool → zH → Prop} {m : Int} (hI : Inv h) (hm : zR m) (k1 : 0 ≤ m ∧ m < h 0 13 → K true h) (k2 : ¬ (0 ≤ m ∧ m < h 0 13) → K false h) : zCb G (d + 1) mX11_isMachine [vr 11 0, vi m] h K := by
  obtain ⟨n1, n2, n3⟩ := iM_n hI
  refine sp_isMachine hm ⟨by omega, by omega⟩ ?_
  by_cases q : 0 ≤ m ∧ m < h 0 13
  · rw [decide_eq_true q]
    exact k1 q
  · rw [decide_eq_false q]
    exact k2 q
theorem q_machM {K : Bool → zH → Prop} {h1 : zH} {m w : Int} (hI : Inv h) (f : h1 466 = h 466) (hm : zR m) (k1 : 0 ≤ m ∧ m < h 0 13 → K true (zup (zup h1 0 14 w) 466 0 0)) (k2 : ¬ (0 ≤ m ∧ m < h 0 13) → K false (zup (zup h1 0 14 w) 466 0 0)) : zCb G d mX12_isMachine [vr 12 466, vi m] (zup (zup h1 0 14 w) 466 0 0) K := by
  obtain ⟨n1, n2, n3⟩ := iM_n hI
  have e : (zup (zup h1 0 14 w) 466 0 0) 466 64 = h 0 13 := by rw [zp_one f (by decide), n3]
  refine sm_isMachine hm (by rw [e]; exact ⟨by omega, by omega⟩) ?_
  rw [e]
  by_cases q : 0 ≤ m ∧ m < h 0 13
  · rw [decide_eq_true q]
    exact k1 q
  · rw [decide_eq_false q]
    exact k2 q
theorem c_ends {m : Int} (hI : Inv h) (hm : zR m) : twL G (d + 4) mX11_ends mX12_ends [vi m] h := by
  refine eX11_ends (bX11_ends_0 (q_mach hI hm (fun q => ⟨fun _ => ?_, fun z => (by cases z)⟩) (fun q => ⟨fun z => (by cases z), fun _ => sp_refused ⟨zR_m1, eX12_ends (bX12_ends_0 (q_machM hI rfl hm (fun z => absurd z q) (fun _ => ⟨fun z => (by cases z), fun _ => sm_refused ⟨zR_m1, ⟨by decide, by decide⟩, rfl, Inv_w hI (by omega)⟩⟩)))⟩⟩)))
  obtain ⟨m10, mc, D, o1, o2, o3, o4⟩ := iM_get hI q.1 q.2
  refine ⟨m10, sp_grantedLong (eX12_ends (bX12_ends_0 (q_machM hI rfl hm (fun _ => ⟨fun _ => ⟨by omega, sm_goodLong ⟨?_, ?_, Inv_w hI (by omega)⟩⟩, fun z => (by cases z)⟩) (fun z => absurd q z))))⟩
  · rw [o2.1.2.1]
    exact (mO_en o1).1
  · rw [o2.1.2.1, (mRep_2 (fun a _ _ => rfl) o3).1.2.1]
theorem c_block {m i : Int} (hI : Inv h) (hm : zR m) (hi : zR i) : twI G (d + 4) mX11_block mX12_block [vi m, vi i] h := by
  refine eX11_block (bX11_block_0 (q_mach hI hm (fun q => ⟨fun z => (by cases z), fun _ => ?_⟩) (fun q => ⟨fun _ => sp_refused (eX12_block (bX12_block_0 (q_machM hI rfl hm (fun z => absurd z q) (fun _ => ⟨fun _ => sm_refused ⟨zR_m1, rfl, Inv_w hI (by omega)⟩, fun z => (by cases z)⟩)))), fun z => (by cases z)⟩)))
  obtain ⟨m10, mc, D, o1, o2, o3, o4⟩ := iM_get hI q.1 q.2
  have hB := mO_bl o1
  refine ⟨m10, ?_⟩
  rw [o2.1.2.2.2.2]
  refine sp_isIn hi ⟨by omega, by omega⟩ ⟨fun q2 => ⟨m10, ?_⟩, fun q2 => sp_refused (eX12_block (bX12_block_0 (q_machM hI rfl hm (fun _ => ⟨fun z => (by cases z), fun _ => ⟨hi, fun _ => sm_refused ⟨zR_m1, rfl, Inv_w hI (by omega)⟩, fun z => ⟨by omega, hi, ?_⟩⟩⟩) (fun z => absurd q z))))⟩
  · have q2 := of_decide_eq_true q2
    have s7 := mO_s o1 q2.1 q2.2
    refine ⟨⟨by omega, by omega⟩, sp_granted (eX12_block (bX12_block_0 (q_machM hI rfl hm (fun _ => ⟨fun z => (by cases z), fun _ => ⟨hi, fun z => absurd z (by omega), fun _ => ⟨by omega, hi, ?_⟩⟩⟩) (fun z => absurd q z))))⟩
    have r := mRep_2 (w := 0) (h1 := h) (fun a _ _ => rfl) o3
    rw [r.1.2.2.2.2, r.2.2.2 i q2.1 q2.2, o2.2.2.2 i q2.1 q2.2]
    exact ⟨⟨by omega, by omega⟩, fun _ => ⟨⟨by omega, by omega⟩, sm_good ⟨⟨by omega, by omega⟩, rfl, Inv_w hI (by omega)⟩⟩, fun z => absurd q2.2 z⟩
  · have q2 := of_decide_eq_false q2
    have r := mRep_2 (w := 1) (h1 := h) (fun a _ _ => rfl) o3
    rw [r.1.2.2.2.2]
    exact ⟨⟨by omega, by omega⟩, fun z2 => absurd ⟨by omega, z2⟩ q2, fun _ => sm_refused ⟨zR_m1, rfl, Inv_w hI (by omega)⟩⟩
theorem c_free {m i : Int} {b : Bool} (hI : Inv h) (hm : zR m) (hi : zR i) : twI G (d + 4) mX11_free mX12_free [vi m, vi i, vi (bi b)] h := by
  refine eX11_free (bX11_free_0 (q_mach hI hm (fun q => ⟨fun z => (by cases z), fun _ => ?_⟩) (fun q => ⟨fun _ => sp_refused (eX12_free (bX12_free_0 (q_machM hI rfl hm (fun z => absurd z q) (fun _ => ⟨fun _ => sm_refused ⟨zR_m1, rfl, Inv_w hI (by omega)⟩, fun z => (by cases z)⟩)))), fun z => (by cases z)⟩)))
  obtain ⟨m10, mc, D, o1, o2, o3, o4⟩ := iM_get hI q.1 q.2
  have hF := mO_fr o1
  have hS := mO_st o1
  refine ⟨m10, ?_⟩
  rw [o2.1.2.2.2.1]
  refine sp_isIn hi ⟨by omega, by omega⟩ ⟨fun q2 => ?_, fun q2 => sp_refused (eX12_free (bX12_free_0 (q_machM hI rfl hm (fun _ => ⟨fun z => (by cases z), fun _ => ⟨hi, fun _ => sm_refused ⟨zR_m1, rfl, Inv_w hI (by omega)⟩, fun z => ⟨by omega, hi, ?_⟩⟩⟩) (fun z => absurd q z))))⟩
  · have q2 := of_decide_eq_true q2
    have f5 := mO_f o1 q2.1 q2.2
    have r := mRep_2 (w := 0) (h1 := h) (fun a _ _ => rfl) o3
    have r2 := r.2.2.1 i q2.1 q2.2
    have c2 := o2.2.2.1 i q2.1 q2.2
    refine ⟨fun eb => ⟨m10, ⟨by omega, by omega⟩, sp_granted (eX12_free (bX12_free_0 (q_machM hI rfl hm (fun _ => ⟨fun z => (by cases z), fun _ => ⟨hi, fun z => absurd z (by omega), fun _ => ⟨by omega, hi, ?_⟩⟩⟩) (fun z => absurd q z))))⟩, fun eb => ⟨m10, ⟨by omega, by omega⟩, sp_granted (eX12_free (bX12_free_0 (q_machM hI rfl hm (fun _ => ⟨fun z => (by cases z), fun _ => ⟨hi, fun z => absurd z (by omega), fun _ => ⟨by omega, hi, ?_⟩⟩⟩) (fun z => absurd q z))))⟩⟩
    · rw [r.1.2.2.2.1, r2.1, r2.2, c2.1]
      exact ⟨⟨by omega, by omega⟩, fun _ => ⟨fun _ => ⟨⟨by omega, by omega⟩, sm_good ⟨⟨by omega, by omega⟩, rfl, Inv_w hI (by omega)⟩⟩, fun z => absurd (eb.symm.trans z) (by decide)⟩, fun z => absurd q2.2 z⟩
    · rw [r.1.2.2.2.1, r2.1, r2.2, c2.2]
      exact ⟨⟨by omega, by omega⟩, fun _ => ⟨fun z => absurd (eb.symm.trans z) (by decide), fun _ => ⟨⟨by omega, by omega⟩, sm_good ⟨⟨by omega, by omega⟩, rfl, Inv_w hI (by omega)⟩⟩⟩, fun z => absurd q2.2 z⟩
  · have q2 := of_decide_eq_false q2
    have r := mRep_2 (w := 1) (h1 := h) (fun a _ _ => rfl) o3
    rw [r.1.2.2.2.1]
    exact ⟨⟨by omega, by omega⟩, fun z2 => absurd ⟨by omega, z2⟩ q2, fun _ => sm_refused ⟨zR_m1, rfl, Inv_w hI (by omega)⟩⟩
end CF
section CG
variable {G : zG} {d : Nat} {h D : zH}
theorem dRn_01 (e b : Int) : 0 ≤ dRn D e b ∧ dRn D e b ≤ 1 := by
  unfold dRn
  by_cases c : dEH D e b = true ∧ (b = 0 ∨ dEH D e (b - 1) = false)
  · rw [if_pos c]
    omega
  · rw [if_neg c]
    omega
theorem sp_edgeRanges {K : Int → zH → Prop} {m e : Int} (hD : mOK D) (hr : cRep h m D) (he : 0 ≤ e ∧ e < D 0 2) (k : K (zsum (dRn D e) (D 0 4).toNat) h) : zCi G (d + 1) mX4_edgeRanges [vr 4 m, vi e] h K := by
  have hB := mO_bl hD
  have go : ∀ (f n : Nat), (n : Int) + f = D 0 4 → tX4_edgeRanges_4 G d K m e (zsum (dRn D e) n) n h := by
    intro f
    induction f with
    | zero =>
      intro n hn
      refine bX4_edgeRanges_4 ?_
      rw [hr.1.2.2.2.2]
      rw [show (D 0 4).toNat = n by omega] at k
      exact ⟨⟨by omega, by omega⟩, ⟨by omega, by omega⟩, fun _ => k, fun q => absurd q (by omega)⟩
    | succ f ih =>
      intro n hn
      have nx : ∀ v, v = dRn D e n → tX4_edgeRanges_4 G d K m e (zsum (dRn D e) n + v) ((n : Int) + 1) h := fun v ev => by
        subst ev
        exact ih (n + 1) (by omega)
      refine bX4_edgeRanges_4 ?_
      rw [hr.1.2.2.2.2]
      refine ⟨⟨by omega, by omega⟩, ⟨by omega, by omega⟩, fun q => absurd q (by omega), fun _ => sp_edgeHas hD hr he (by omega) ⟨fun q => ?_, fun q => ⟨⟨by omega, by omega⟩, fun q2 => ?_, fun q2 => sp_edgeHas hD hr he (by omega) ⟨fun q3 => ?_, fun q3 => ?_⟩⟩⟩⟩
      · have := nx 0 (by unfold dRn; rw [if_neg (by rw [q]; rintro ⟨z, -⟩; cases z)])
        rwa [Int.add_zero] at this
      · exact nx 1 (by unfold dRn; rw [if_pos ⟨q, Or.inl q2⟩])
      · have := nx 0 (by unfold dRn; rw [if_neg (by rw [q3]; rintro ⟨-, z | z⟩; exact q2 z; cases z)])
        rwa [Int.add_zero] at this
      · exact nx 1 (by unfold dRn; rw [if_pos ⟨q, Or.inr q3⟩])
  exact eX4_edgeRanges (bX4_edgeRanges_0 (go (D 0 4).toNat 0 (by omega)))
theorem sm_edgeRanges {K : Int → zH → Prop} {i e : Int} (hD : mOK D) (hi : 0 ≤ i ∧ i < 14) (hr : mRep h i D) (he : 0 ≤ e ∧ e < D 0 2) (k : K (zsum (dRn D e) (D 0 4).toNat) h) : zCi G (d + 2) mX12_edgeRanges [vr 12 466, vi i, vi e] h K := by
  have hB := mO_bl hD
  have go : ∀ (f n : Nat), (n : Int) + f = D 0 4 → tX12_edgeRanges_5 G (d + 1) K i e (zsum (dRn D e) n) n h := by
    intro f
    induction f with
    | zero =>
      intro n hn
      refine bX12_edgeRanges_5 ⟨hi, ?_⟩
      rw [hr.1.2.2.2.2]
      rw [show (D 0 4).toNat = n by omega] at k
      exact ⟨⟨by omega, by omega⟩, ⟨by omega, by omega⟩, fun _ => k, fun q => absurd q (by omega)⟩
    | succ f ih =>
      intro n hn
      have nx : ∀ v, v = dRn D e n → tX12_edgeRanges_5 G (d + 1) K i e (zsum (dRn D e) n + v) ((n : Int) + 1) h := fun v ev => by
        subst ev
        exact ih (n + 1) (by omega)
      refine bX12_edgeRanges_5 ⟨hi, ?_⟩
      rw [hr.1.2.2.2.2]
      refine ⟨⟨by omega, by omega⟩, ⟨by omega, by omega⟩, fun q => absurd q (by omega), fun _ => sm_edgeHas hD hi hr he (by omega) ⟨fun q => ?_, fun q => ⟨⟨by omega, by omega⟩, fun q2 => ?_, fun q2 => sm_edgeHas hD hi hr he (by omega) ⟨fun q3 => ?_, fun q3 => ?_⟩⟩⟩⟩
      · exact nx 0 (by unfold dRn; rw [if_neg (by rw [q]; rintro ⟨z, -⟩; cases z)])
      · exact nx 1 (by unfold dRn; rw [if_pos ⟨q, Or.inl q2⟩])
      · exact nx 0 (by unfold dRn; rw [if_neg (by rw [q3]; rintro ⟨-, z | z⟩; exact q2 z; cases z)])
      · exact nx 1 (by unfold dRn; rw [if_pos ⟨q, Or.inr q3⟩])
  exact eX12_edgeRanges (bX12_edgeRanges_0 (go (D 0 4).toNat 0 (by omega)))
theorem sp_edgeLetters {K : Int → zH → Prop} {m e : Int} (hD : mOK D) (hr : cRep h m D) (he : 0 ≤ e ∧ e < D 0 2) (k : K (zsum (dLt D e) (D 0 4).toNat) h) : zCi G (d + 2) mX4_edgeLetters [vr 4 m, vi e] h K := by
  have hB := mO_bl hD
  have go : ∀ (f n : Nat), (n : Int) + f = D 0 4 → tX4_edgeLetters_4 G (d + 1) K m e (zsum (dLt D e) n) n h := by
    intro f
    induction f with
    | zero =>
      intro n hn
      refine bX4_edgeLetters_4 ?_
      rw [hr.1.2.2.2.2]
      rw [show (D 0 4).toNat = n by omega] at k
      exact ⟨⟨by omega, by omega⟩, ⟨by omega, by omega⟩, fun _ => k, fun q => absurd q (by omega)⟩
    | succ f ih =>
      intro n hn
      have nx : ∀ v, v = dLt D e n → tX4_edgeLetters_4 G (d + 1) K m e (zsum (dLt D e) n + v) ((n : Int) + 1) h := fun v ev => by
        subst ev
        exact ih (n + 1) (by omega)
      refine bX4_edgeLetters_4 ?_
      rw [hr.1.2.2.2.2]
      refine ⟨⟨by omega, by omega⟩, ⟨by omega, by omega⟩, fun q => absurd q (by omega), fun _ => sp_edgeHas hD hr he (by omega) ⟨fun q => ?_, fun q => sp_lengthOf hD hr (by omega) ?_⟩⟩
      · have := nx 0 (by unfold dLt; rw [if_neg (by rw [q]; decide)])
        rwa [Int.add_zero] at this
      · exact nx _ (by unfold dLt; rw [if_pos q])
  exact eX4_edgeLetters (bX4_edgeLetters_0 (go (D 0 4).toNat 0 (by omega)))
theorem sm_edgeLetters {K : Int → zH → Prop} {i e : Int} (hD : mOK D) (hi : 0 ≤ i ∧ i < 14) (hr : mRep h i D) (he : 0 ≤ e ∧ e < D 0 2) (k : K (zsum (dLt D e) (D 0 4).toNat) h) : zCi G (d + 2) mX12_edgeLetters [vr 12 466, vi i, vi e] h K := by
  have hB := mO_bl hD
  have go : ∀ (f n : Nat), (n : Int) + f = D 0 4 → tX12_edgeLetters_5 G (d + 1) K i e (zsum (dLt D e) n) n h := by
    intro f
    induction f with
    | zero =>
      intro n hn
      refine bX12_edgeLetters_5 ⟨hi, ?_⟩
      rw [hr.1.2.2.2.2]
      rw [show (D 0 4).toNat = n by omega] at k
      exact ⟨⟨by omega, by omega⟩, ⟨by omega, by omega⟩, fun _ => k, fun q => absurd q (by omega)⟩
    | succ f ih =>
      intro n hn
      have nx : ∀ v, v = dLt D e n → tX12_edgeLetters_5 G (d + 1) K i e (zsum (dLt D e) n + v) ((n : Int) + 1) h := fun v ev => by
        subst ev
        exact ih (n + 1) (by omega)
      refine bX12_edgeLetters_5 ⟨hi, ?_⟩
      rw [hr.1.2.2.2.2]
      refine ⟨⟨by omega, by omega⟩, ⟨by omega, by omega⟩, fun q => absurd q (by omega), fun _ => sm_edgeHas hD hi hr he (by omega) ⟨fun q => ?_, fun q => sm_blockEnd hD hi hr (by omega) ⟨⟨by omega, by omega⟩, ?_⟩⟩⟩
      · exact nx 0 (by unfold dLt; rw [if_neg (by rw [q]; decide)])
      · rw [hr.2.2.2 n (by omega) (by omega)]
        exact nx _ (by unfold dLt; rw [if_pos q])
  exact eX12_edgeLetters (bX12_edgeLetters_0 (go (D 0 4).toNat 0 (by omega)))
theorem dLt_sum (hD : mOK D) (e : Int) : ∀ n : Nat, (n : Int) ≤ D 0 4 → 0 ≤ zsum (dLt D e) n ∧ (n = 0 ∨ zsum (dLt D e) n ≤ dEnd D ((n : Int) - 1))
  | 0, _ => ⟨Int.le_refl _, Or.inl rfl⟩
  | n + 1, hn => by
    obtain ⟨a, b⟩ := dLt_sum hD e n (by omega)
    have c := dEnd_ok hD (b := n) (by omega) (by omega)
    have s0 := mO_s hD (b := n) (by omega) (by omega)
    have f : 0 ≤ dLt D e n ∧ dLt D e n ≤ dEnd D n - D 7 n := by
      unfold dLt
      by_cases z : dEH D e n = true
      · rw [if_pos z]
        omega
      · rw [if_neg z]
        omega
    show 0 ≤ zsum (dLt D e) n + dLt D e n ∧ (n + 1 = 0 ∨ zsum (dLt D e) n + dLt D e n ≤ dEnd D (((n + 1 : Nat) : Int) - 1))
    rw [show ((n + 1 : Nat) : Int) - 1 = (n : Int) by omega]
    refine ⟨by omega, Or.inr ?_⟩
    rcases b with b | b
    · subst b
      show (0 : Int) + _ ≤ _
      omega
    · have : dEnd D ((n : Int) - 1) ≤ D 7 n := by
        unfold dEnd
        rw [if_pos (by omega), show (n : Int) - 1 + 1 = n by omega]
        exact Int.le_refl _
      omega
end CG
