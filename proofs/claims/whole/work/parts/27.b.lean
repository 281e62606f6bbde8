/-! ===== first words, parting words ===== -/
/-- the sheaf on the way whose word has i + 1 letters -/
def anc (De Pa : Int → Int) (i : Int) : Nat → Int → Int
  | 0, s => s
  | f + 1, s => if De s - 1 ≤ i then s else anc De Pa i f (Pa s)
theorem least_b {P : Int → Prop} {nb b : Int} (h0 : 0 ≤ b) (h1 : b < nb) (hb : P b) : ∃ b', 0 ≤ b' ∧ b' < nb ∧ P b' ∧ ∀ c, 0 ≤ c → c < b' → ¬ P c := by
  have go : ∀ (k : Nat) (b : Int), 0 ≤ b → b ≤ k → b < nb → P b → ∃ b', 0 ≤ b' ∧ b' < nb ∧ P b' ∧ ∀ c, 0 ≤ c → c < b' → ¬ P c := by
    intro k
    induction k with
    | zero =>
      intro b b0 bk bn hb
      exact ⟨b, b0, bn, hb, fun c c0 c1 => absurd c1 (by omega)⟩
    | succ k ih =>
      intro b b0 bk bn hb
      by_cases e : ∃ c, 0 ≤ c ∧ c < b ∧ P c
      · obtain ⟨c, c0, c1, hc⟩ := e
        exact ih c c0 (by omega) (by omega) hc
      · exact ⟨b, b0, bn, hb, fun c c0 c1 hc => e ⟨c, c0, c1, hc⟩⟩
  exact go b.toNat b h0 (by omega) h1 hb
section BD
variable {D : zH} {n k0 : Int} {B T Pa Vi De : Int → Int}
theorem bfs_De (h : bfs D n B T Pa Vi De k0) : ∀ (k : Nat) (s : Int), 0 ≤ s → s ≤ k → s < n → 0 ≤ De s ∧ De s ≤ s ∧ (0 < s → 0 < De s) := by
  intro k
  induction k with
  | zero =>
    intro s s0 sk sn
    have e : s = 0 := by omega
    subst e
    have := h.2.1.2.2.2
    omega
  | succ k ih =>
    intro s s0 sk sn
    by_cases z : s = 0
    · subst z
      have := h.2.1.2.2.2
      omega
    · obtain ⟨a1, a2, a3, a4, a5⟩ := h.2.2.2.2.2.1 s (by omega) sn
      have := ih (Pa s) a1.1 (by omega) (by omega)
      omega
end BD
section CK
variable {G : zG} {d : Nat} {h D : zH} {n : Int} {B T Pa Vi De : Int → Int}
theorem sm_wordOf {K : Int → zH → Prop} {s : Int} (hb : bfs D n B T Pa Vi De (n * 128)) (g : mGt D h 0 n B T Pa Vi) (hs : 0 ≤ s ∧ s < n) (k : K (De s) h) : zCi G d mX12_wordOf [vr 12 466, vi s] h K := by
  obtain ⟨g1, g2, g3, g4, g5⟩ := mG0 g
  have nn := hb.1
  have go : ∀ (f : Nat) (u l : Int), 0 ≤ u → u ≤ f → u < n → l + De u = De s → tX12_wordOf_4 G d K l u h := by
    intro f
    induction f with
    | zero =>
      intro u l u0 uf un e
      have eu : u = 0 := by omega
      subst eu
      have p0 := hb.2.1
      refine bX12_wordOf_4 ⟨by omega, ?_⟩
      rw [g4 0 (by omega) un, p0.2.1]
      refine ⟨⟨by decide, by decide⟩, fun _ => ?_, fun z => absurd rfl z⟩
      rw [p0.2.2.2, Int.add_zero] at e
      rw [e]
      exact k
    | succ f ih =>
      intro u l u0 uf un e
      by_cases z : u = 0
      · exact ih u l u0 (by omega) un e
      · obtain ⟨a1, a2, a3, a4, a5⟩ := hb.2.2.2.2.2.1 u (by omega) un
        refine bX12_wordOf_4 ⟨by omega, ?_⟩
        rw [g4 u u0 un]
        exact ⟨⟨by omega, by omega⟩, fun y => absurd y (by omega), fun _ => ⟨by omega, ih (Pa u) (l + 1) a1.1 (by omega) (by omega) (by omega)⟩⟩
  exact eX12_wordOf (bX12_wordOf_0 (go s.toNat s 0 hs.1 (by omega) hs.2 (by omega)))
theorem sp_blockOnWay {K : Int → zH → Prop} {p s i : Int} (hb : bfs D n B T (h (p + 3)) (h (p + 4)) (h (p + 5)) (n * 128)) (hD : mOK D) (hs : 0 ≤ s ∧ s < n) (hi : 0 ≤ i ∧ i < h (p + 5) s) (hiR : zR i) (k : ∀ t, t = anc (h (p + 5)) (h (p + 3)) i 40 s → 0 < t ∧ t < n → K (h (p + 4) t) h) : zCi G (d + 1) mX7_blockOnWay [vr 7 p, vi s, vi i] h K := by
  have nn := hb.1
  have hB := mO_bl hD
  have go : ∀ (f : Nat) (u : Int), 0 ≤ u → u ≤ f → u < n → i < h (p + 5) u → anc (h (p + 5)) (h (p + 3)) i 40 s = anc (h (p + 5)) (h (p + 3)) i f u → tX7_blockOnWay_12 G d K p i u (h (p + 5) u - 1) h := by
    intro f
    induction f with
    | zero =>
      intro u u0 uf un ui e
      have := bfs_De hb u.toNat u u0 (by omega) un
      omega
    | succ f ih =>
      intro u u0 uf un ui e
      have dd := bfs_De hb u.toNat u u0 (by omega) un
      have up : 0 < u := by omega
      obtain ⟨a1, a2, a3, a4, a5⟩ := hb.2.2.2.2.2.1 u up un
      unfold anc at e
      refine bX7_blockOnWay_12 ⟨⟨by omega, by omega⟩, hiR, fun z => ⟨by omega, ⟨by omega, by omega⟩, ?_⟩, fun z => ⟨by omega, ⟨by omega, by omega⟩, fun y => absurd y (by omega), fun _ => ⟨by omega, ?_⟩⟩⟩
      · rw [if_pos z] at e
        rw [Int.max_eq_left a2.1]
        exact k u e.symm ⟨up, un⟩
      · rw [if_neg z] at e
        have := ih (h (p + 3) u) a1.1 (by omega) (by omega) (by omega) e
        rw [show h (p + 5) u - 1 + (-1) = h (p + 5) (h (p + 3) u) - 1 by omega]
        exact this
  have e39 : s ≤ (40 : Nat) := by omega
  exact eX7_blockOnWay (bX7_blockOnWay_0 ⟨by omega, go 40 s hs.1 e39 hs.2 hi.2 rfl⟩)
theorem sm_first58 {K : Int → zH → Prop} {s i : Int} (hb : bfs D n B T Pa Vi De (n * 128)) (g : mGt D h 0 n B T Pa Vi) (hs : 0 ≤ s ∧ s < n) (hi : 0 ≤ i ∧ i < De s) (hiR : zR i) (k : ∀ t, t = anc De Pa i 40 s → 0 < t ∧ t < n → K (D 7 (Vi t)) (zup (zup h 466 1 0) 466 2 (-1))) : tX12_firstLetter_58 G d K i s (De s - 1) h := by
  obtain ⟨g1, g2, g3, g4, g5⟩ := mG0 g
  have nn := hb.1
  have go : ∀ (f : Nat) (u : Int), 0 ≤ u → u ≤ f → u < n → i < De u → anc De Pa i 40 s = anc De Pa i f u → tX12_firstLetter_58 G d K i u (De u - 1) h := by
    intro f
    induction f with
    | zero =>
      intro u u0 uf un ui e
      have := bfs_De hb u.toNat u u0 (by omega) un
      omega
    | succ f ih =>
      intro u u0 uf un ui e
      have dd := bfs_De hb u.toNat u u0 (by omega) un
      have up : 0 < u := by omega
      obtain ⟨a1, a2, a3, a4, a5⟩ := hb.2.2.2.2.2.1 u up un
      unfold anc at e
      refine bX12_firstLetter_58 ⟨⟨by omega, by omega⟩, hiR, fun z => ⟨by omega, ?_⟩, fun z => ⟨by omega, ?_⟩⟩
      · rw [if_pos z] at e
        rw [g5 u up un]
        exact sm_good (k u e.symm ⟨up, un⟩)
      · rw [if_neg z] at e
        have := ih (Pa u) a1.1 (by omega) (by omega) (by omega) e
        rw [g4 u u0 un, show De u - 1 + (-1) = De (Pa u) - 1 by omega]
        exact this
  have e39 : s ≤ (40 : Nat) := by omega
  exact go 40 s hs.1 e39 hs.2 hi.2 rfl
end CK
section CL2
variable {G : zG} {d : Nat} {h : zH}
theorem c_first {m c : Int} (hI : Inv h) (hm : zR m) (hc : zR c) : twI G (d + 7) mX11_first mX12_first [vi m, vi c] h := by
  refine eX11_first (bX11_first_0 (q_isClass hI hm hc (fun q q2 => ⟨fun _ => ?_, fun z => (by cases z)⟩) (fun q => ⟨fun z => (by cases z), fun _ => sp_refused (eX12_first (bX12_first_0 (q_isClassM hI (bK_w (fun _ _ => rfl) rfl) hm hc (fun z1 z2 => absurd ⟨z1, z2⟩ q) (fun _ h3 f => ⟨fun z => (by cases z), fun _ => sm_refused ⟨zR_m1, rfl, Inv_k hI (by omega) (fun _ _ => rfl) rfl rfl f⟩⟩))))⟩)))
  obtain ⟨m10, mc, o1, o2, o3, o4⟩ := iM_d hI q.1 q.2
  have o5 := o4
  obtain ⟨p7, pb, pt, R, pR, pc⟩ := o4
  have nn := pb.1
  have cc := cl_C pc
  have hh := cl_He pc q2.1 q2.2
  have dd := bfs_De pb 40 (h (h 3 m + 16) c) hh.1 (by omega) hh.2
  refine ⟨m10, by omega, by omega, sp_granted (eX12_first (bX12_first_0 (q_isClassM hI (bK_w (fun _ _ => rfl) rfl) hm hc (fun _ _ R2 e4 h3 f g s => ⟨fun _ => ⟨by omega, ?_⟩, fun z => (by cases z)⟩) (fun z => absurd ⟨q, q2⟩ z))))⟩
  rw [(mS0 s).2.2.1 c q2.1 q2.2]
  rw [show h 3 m + 7 + 9 = h 3 m + 16 by omega]
  rw [show h 3 m + 7 + 1 = h 3 m + 8 by omega, show h 3 m + 7 + 2 = h 3 m + 9 by omega, show h 3 m + 7 + 3 = h 3 m + 10 by omega, show h 3 m + 7 + 4 = h 3 m + 11 by omega] at g
  exact sm_wordOf pb g hh (sm_good ⟨⟨by omega, by omega⟩, rfl, Inv_k hI (by omega) (fun _ _ => rfl) rfl rfl f⟩)
theorem c_firstLetter {m c i : Int} (hI : Inv h) (hm : zR m) (hc : zR c) (hi : zR i) : twI G (d + 7) mX11_firstLetter mX12_firstLetter [vi m, vi c, vi i] h := by
  refine eX11_firstLetter (bX11_firstLetter_0 (q_isClass hI hm hc (fun q q2 => ⟨fun _ => ?_, fun z => (by cases z)⟩) (fun q => ⟨fun z => (by cases z), fun _ => sp_refused (eX12_firstLetter (bX12_firstLetter_0 (q_isClassM hI (bK_w (fun _ _ => rfl) rfl) hm hc (fun z1 z2 => absurd ⟨z1, z2⟩ q) (fun _ h3 f => ⟨fun _ => sm_refused ⟨zR_m1, rfl, Inv_k hI (by omega) (fun _ _ => rfl) rfl rfl f⟩, fun z => (by cases z)⟩))))⟩)))
  obtain ⟨m10, mc, o1, o2, o3, o4⟩ := iM_d hI q.1 q.2
  obtain ⟨p7, pb, pt, R, pR, pc⟩ := pth_p o4
  have nn := pb.1
  have cc := cl_C pc
  have hB := mO_bl o1
  rw [show h 3 m + 16 = h 3 m + 7 + 9 by omega, show h 3 m + 12 = h 3 m + 7 + 5 by omega]
  have hh := cl_He pc q2.1 q2.2
  have dd := bfs_De pb 40 (h (h 3 m + 7 + 9) c) hh.1 (by omega) hh.2
  refine ⟨m10, by omega, by omega, sp_isIn hi ⟨by omega, by omega⟩ ⟨fun q3 => ⟨m10, ?_⟩, fun q3 => sp_refused (eX12_firstLetter (bX12_firstLetter_0 (q_isClassM hI (bK_w (fun _ _ => rfl) rfl) hm hc (fun _ _ R2 e4 h3 f g s => ⟨fun z => (by cases z), fun _ => ⟨hi, fun i0 => ⟨by omega, ?_⟩, fun _ => sm_refused ⟨zR_m1, rfl, Inv_k hI (by omega) (fun _ _ => rfl) rfl rfl f⟩⟩⟩) (fun z => absurd ⟨q, q2⟩ z))))⟩⟩
  · have q3 := of_decide_eq_true q3
    refine sp_blockOnWay pb o1 hh q3 hi (fun t et tn => ?_)
    obtain ⟨a1, a2, a3, a4, a5⟩ := pb.2.2.2.2.2.1 t tn.1 tn.2
    have s7 := mO_s o1 a2.1 a2.2
    refine ⟨by omega, ?_⟩
    rw [o2.2.2.2 _ a2.1 a2.2]
    refine sp_granted (eX12_firstLetter (bX12_firstLetter_0 (q_isClassM hI (bK_w (fun _ _ => rfl) rfl) hm hc (fun _ _ R2 e4 h3 f g s => ⟨fun z => (by cases z), fun _ => ⟨hi, fun i0 => ⟨by omega, ?_⟩, fun z => absurd q3.1 z⟩⟩) (fun z => absurd ⟨q, q2⟩ z))))
    rw [(mS0 s).2.2.1 c q2.1 q2.2]
    refine sm_wordOf pb g hh ⟨hi, ⟨by omega, by omega⟩, fun _ => sm_first58 pb g hh q3 hi (fun t2 et2 tn2 => ⟨⟨by omega, by omega⟩, ?_, Inv_k hI (by omega) (fun _ _ => rfl) rfl rfl f⟩), fun z => absurd q3.2 z⟩
    rw [et, et2]
  · have q3 := of_decide_eq_false q3
    rw [(mS0 s).2.2.1 c q2.1 q2.2]
    exact sm_wordOf pb g hh ⟨hi, ⟨by omega, by omega⟩, fun z => absurd ⟨i0, z⟩ q3, fun _ => sm_refused ⟨zR_m1, rfl, Inv_k hI (by omega) (fun _ _ => rfl) rfl rfl f⟩⟩
end CL2
