/-! ===== all that is told is built ===== -/
theorem pOK_nO {s : St} (o : sOK s) : ∀ j : Int, 0 ≤ j → j < cnt s → pOK (gM (nO s) j) := fun j a b => by
  cases q : s.2.1
  · rw [cnt_f q] at b
    omega
  · rw [cnt_t q] at b
    rw [nO_t q]
    by_cases w : j = s.2.2.1.length
    · rw [gM_r w]
      exact o.2.2.2.2 q
    · rw [gM_l a (by omega)]
      refine o.2.2.2.1 _ ?_
      unfold gM
      rw [List.getD_eq_getElem?_getD, List.getElem?_eq_getElem (by omega)]
      exact List.getElem_mem _
/-- what the building may change -/
def wF (h1 h : zH) : Prop := (∀ a, ¬ a = 466 → ¬ (486 ≤ a ∧ a ≤ 509) → h a = h1 a) ∧ (∀ j, ¬ (47 ≤ j ∧ j ≤ 51) → h 466 j = h1 466 j) ∧ ∀ j D, 0 ≤ j → j < 10 → mOK D → mRep h1 j D → mRep h j D
theorem wF_r (h : zH) : wF h h := ⟨fun _ _ _ => rfl, fun _ _ => rfl, fun _ _ _ _ _ r => r⟩
section MQ2
variable {G : zG} {d : Nat} {h1 : zH} {Q : zH → Prop} {O : List M4} {N : Int} {P : Int → zH → Prop} {W : Int → Prop}
theorem sm_wides (N4 : 0 ≤ N ∧ N ≤ 4) (h35 : h1 466 35 = N) (h10 : h1 466 10 = 0) (mx : ∀ j : Int, 0 ≤ j → j < N → mMx h1 j (gM O j)) (po : ∀ j : Int, 0 ≤ j → j < N → pOK (gM O j)) (w1 : ∀ j : Int, 0 ≤ j → j < N → W j → wdM (gM O j)) (w2 : ∀ j : Int, 0 ≤ j → j < N → ¬ W j → ∃ (D : zH) (B T Pa Vi De : Int → Int) (M K0 : Int), isM D (gM O j) ∧ mOK D ∧ bfs D M B T Pa Vi De K0 ∧ K0 = M * 128 ∧ P j D) (kF : (∃ j : Int, (0 ≤ j ∧ j < N) ∧ W j) → ∀ h2 h' : zH, wF h1 h2 → (∀ a, ¬ a = 466 → h' a = h2 a) → (∀ j, ¬ j = 7 → ¬ j = 8 → ¬ j = 10 → h' 466 j = h2 466 j) → FS h' 8 (h1 466 8) → Q h') (kC : (∀ j : Int, 0 ≤ j → j < N → ¬ W j) → ∀ h' : zH, wF h1 h' → (∀ j : Int, 0 ≤ j → j < N → ∃ D : zH, mOK D ∧ mRep h' (10 + j) D ∧ P j D) → Q h') : tX12_readAll_48 G (d + 4) Q 0 h1 := by
  have go : ∀ (f : Nat) (k : Int) (h : zH), 0 ≤ k → k + f = N → wF h1 h → (∀ j : Int, 0 ≤ j → j < k → ∃ D : zH, mOK D ∧ mRep h (10 + j) D ∧ P j D) → (∀ j : Int, 0 ≤ j → j < k → ¬ W j) → tX12_readAll_48 G (d + 4) Q k h := by
    intro f
    induction f with
    | zero =>
      intro k h k0 kf w r nw
      have ek : k = N := by omega
      rw [ek] at r nw
      refine bX12_readAll_48 ?_
      rw [w.2.1 35 (by decide), h35]
      exact ⟨⟨by omega, by omega⟩, ⟨by omega, by omega⟩, fun _ => kC nw h w r, fun z => absurd (by omega) z⟩
    | succ f ih =>
      intro k h k0 kf w r nw
      refine bX12_readAll_48 ?_
      rw [w.2.1 35 (by decide), h35, w.2.1 10 (by decide), h10]
      refine ⟨⟨by omega, by omega⟩, ⟨by omega, by omega⟩, fun z => absurd z (by omega), fun _ => ⟨⟨by decide, by decide⟩, fun z => absurd rfl z, fun _ => ?_⟩⟩
      have pk := po k k0 (by omega)
      refine sm_buildsTold (d := d + 3) ⟨k0, by omega⟩ (mMx_fr (fun a p q => w.1 a (by omega) (by omega)) (mx k k0 (by omega))) pk (fun h2 g1 g2 df ov => ?_)
      have dk := lOK_d pk.2.1 (fits_p pk)
      have W2 : ∀ h3 : zH, msF (10 + k) h2 h3 → wF h1 h3 := fun h3 ms => ⟨fun a p q => by rw [ms.1 a (by omega), g1 a p (by omega), w.1 a p q], fun j p => by rw [ms.1 466 (by decide), g2 j p, w.2.1 j p], fun j D j0 j1 hD hr => msF_rep ms (by omega) (by omega) hD (mRep_fr (fun a x y => g1 a (by omega) (by omega)) (w.2.2 j D j0 j1 hD hr))⟩
      -- too wide
      have bad : W k → ∀ h3 : zH, msF (10 + k) h2 h3 → zCv G (d + 4) mX12_wrong [vr 12 466, vi 8] h3 (fun h6 => tX12_readAll_48 G (d + 4) Q (k + 1) h6) := fun wk h3 ms => by
        have w3 := W2 h3 ms
        refine eX12_wrong (bX12_wrong_0 ?_)
        rw [w3.2.1 8 (by decide)]
        refine sm_wrongThere (by rw [w3.2.1 10 (by decide), h10]) (by decide) (fun h4 y1 y2 y3 y4 y5 => bX12_readAll_48 ?_)
        have q := kF ⟨k, ⟨k0, by omega⟩, wk⟩ h3 h4 w3 y1 y2 ⟨y3, y4, y5, by decide, by decide⟩
        rw [y2 35 (by decide) (by decide) (by decide), w3.2.1 35 (by decide), h35, y3]
        exact ⟨⟨by omega, by omega⟩, ⟨by omega, by omega⟩, fun _ => q, fun _ => ⟨⟨by decide, by decide⟩, fun _ => q, fun z => absurd z (by decide)⟩⟩
      by_cases wk : W k
      · rcases w1 k k0 (by omega) wk with ch | ⟨D, B, T, Pa, Vi, De, K0, q1, q2, q3, q4, q5⟩
        · exact sm_settles_ch (by omega) df dk ov ch (fun h3 ms => ⟨fun z => (by cases z), fun _ => bad wk h3 ms⟩)
        · exact sm_settles (by omega) df dk ov q1 q2 q3 (Or.inr q4) (fun z => absurd z q5) (fun _ h3 ms => ⟨fun z => (by cases z), fun _ => bad wk h3 ms⟩)
      · obtain ⟨D, B, T, Pa, Vi, De, M, K0, q1, q2, q3, q4, q5⟩ := w2 k k0 (by omega) wk
        refine sm_settles (by omega) df dk ov q1 q2 q3 (Or.inl q4) (fun _ h3 ms mr => ⟨fun _ => ?_, fun z => (by cases z)⟩) (fun z => absurd q4 z)
        refine ih (k + 1) h3 (by omega) (by omega) (W2 h3 ms) (fun j j0 j1 => ?_) (fun j j0 j1 => ?_)
        · by_cases e : j = k
          · rw [e]
            exact ⟨D, q2, mr, q5⟩
          · obtain ⟨D', a1, a2, a3⟩ := r j j0 (by omega)
            exact ⟨D', a1, msF_rep ms (by omega) (by omega) a1 (mRep_fr (fun a x y => g1 a (by omega) (by omega)) a2), a3⟩
        · by_cases e : j = k
          · rw [e]
            exact wk
          · exact nw j j0 (by omega)
  exact go N.toNat 0 h1 (by omega) (by omega) (wF_r h1) (fun j a b => absurd b (by omega)) (fun j a b => absurd b (by omega))
end MQ2
