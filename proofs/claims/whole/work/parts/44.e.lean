/-! ===== the model reads bodies ===== -/
section ME
variable {G : zG} {bs : Int → Int} {n : Int} {K Sp V En : Int → Int} {m : Int} {L : List nsT}
def mKm (G : zG) (D : Nat) (Q : zH → Prop) (e : Bool) (h : zH) : Prop := (e = true → zCv G D mX12_joins [vr 12 466, vi 124] h (fun h6 => tX12_readBody_4 G D Q h6)) ∧ (e = false → tX12_readBody_4 G D Q h)
theorem mB_j {T : Int} {h h' : zH} {x : Int} (r : rB T (zup h 466 13 x) h') : mB T h h' := mB_t mB_13 (mB_rB (Int.le_refl _) r)
theorem mkm_f {D : Nat} {Q : zH → Prop} {e : Bool} {h : zH} {T w s : Int} (hT : 0 ≤ T ∧ T ≤ 26) (f : FS h w s) (h13 : h 466 13 = T + 1 + bi e) (k : ∀ h' : zH, MF T h h' w s → h' 466 13 = T + 1 → Q h') : mKm G (D + 1) Q e h := by
  refine ⟨fun et => ?_, fun ef => ?_⟩
  · rw [et] at h13
    refine sm_joins_f (T := T) ⟨by decide, by decide⟩ hT (by rw [h13, bi_t]; omega) (fun h' r => ?_)
    have f' : FS h' w s := FS_fr (fun j p q => by rw [r.1 466 (by decide), zup_ns (by omega)]) f
    exact bX12_readBody_4 (sm_passes_f (FS_n f') ⟨fun _ => k h' ⟨mB_j r, f'⟩ (by rw [r.1 466 (by decide), zup_eq]), fun z => (by cases z)⟩)
  · rw [ef] at h13
    exact bX12_readBody_4 (sm_passes_f (FS_n f) ⟨fun _ => k h ⟨mB_r T h, f⟩ (by rw [h13, bi_f]; omega), fun z => (by cases z)⟩)
theorem rm_f {D : Nat} {Q : zH → Prop} {e : Bool} {h : zH} {T w s : Int} (hT : 0 ≤ T ∧ T ≤ 26) (f : FS h w s) (h13 : h 466 13 = T + 1 + bi e) (k : ∀ h' : zH, MF T h h' w s → h' 466 13 = T + 1 → Q h') : tX12_readMeet_4 G D (mKm G (D + 1) Q e) h :=
  bX12_readMeet_4 (sm_is_f (FS_n f) ⟨fun z => (by cases z), fun _ => sm_is_f (FS_n f) ⟨fun _ => mkm_f hT f h13 k, fun z => (by cases z)⟩⟩)
theorem mb_PR (ts : tkS bs n K Sp V En m) : ∀ f : Nat,
    (∀ (i o T : Int) (k d : Nat) (h : zH) (Q : zH → Prop), m ≤ i + f → MT bs n K Sp V En m h i → TBm h L → (0 ≤ T ∧ T ≤ 2 * o + 2) → h 466 13 = T → h 466 14 = o → 0 ≤ o → o + k = 12 → ∀ r : Rs, pr K Sp V L f false i o ff ff = r → (¬ r.1 = 0 → ∀ h' : zH, MF T h h' r.1 r.2.1 → h' 466 13 = T + 1 → Q h') → (r.1 = 0 → ∀ h' : zH, mB T h h' → MT bs n K Sp V En m h' r.2.2.1 → i < r.2.2.1 → h' 466 13 = T + 1 → h' 466 14 = o → bSt h' T r.2.2.2 → Q h') → zCv G (d + 9 + 4 * k) mX12_readPart [vr 12 466] h Q) ∧
    (∀ (i o T : Int) (e : Bool) (k d : Nat) (h : zH) (E M : Int → Bool) (Q : zH → Prop), m ≤ i + f → MT bs n K Sp V En m h i → TBm h L → (0 ≤ T ∧ T ≤ 2 * o) → h 466 13 = T + 1 + bi e → h 466 14 = o → 0 ≤ o → o + k = 12 → ((e = true → bSt h T E ∧ bSt h (T + 1) M) ∧ (e = false → E = ff ∧ bSt h T M)) → ∀ r : Rs, pr K Sp V L f true i o E M = r → (¬ r.1 = 0 → ∀ h' : zH, MF T h h' r.1 r.2.1 → h' 466 13 = T + 1 → Q h') → (r.1 = 0 → ∀ h' : zH, mB T h h' → MT bs n K Sp V En m h' r.2.2.1 → i ≤ r.2.2.1 → h' 466 13 = T + 1 → h' 466 14 = o → bSt h' T r.2.2.2 → Q h') → tX12_readMeet_4 G (d + 9 + 4 * k) (mKm G (d + 9 + 4 * k + 1) Q e) h) := by
  intro f
  induction f with
  | zero =>
    refine ⟨fun i o T k d h Q mf t => ?_, fun i o T e k d h E M Q mf t => ?_⟩
    · exact absurd t.2.2.2.2 (by omega)
    · exact absurd t.2.2.2.2 (by omega)
  | succ f ih =>
    obtain ⟨ihP, ihR⟩ := ih
    constructor
    · intro i o T k d h Q mf t tb hT h13 h14 o0 ok r er kF kC
      have q := MT_k ts t
      -- behind an opening that is too deep
      have deep : ∀ h2 : zH, MF T h h2 6 (Sp i) → h2 466 13 = T → rF 6 (Sp i) = r → zCv G (d + 8 + 4 * k) mX12_readNamed [vr 12 466] h2 Q := fun h2 mf2 e13 eq => by
        rw [show d + 8 + 4 * k = d + 6 + 4 * k + 2 by omega]
        refine sm_readNamed_f (TBm_B mf2.1 tb) mf2.2 (by omega) e13 (fun h3 mf3 e => ?_)
        rw [← eq] at kF
        exact kF (show ¬ (6 : Int) = 0 by decide) h3 (MF_t mf2.1 mf3) e
      -- opens
      have opens : ∀ (D : Nat) (R : Bool → zH → Prop), (K i = 33 ∨ K i = 40) → (12 ≤ o → ∀ h2 : zH, MF T h h2 6 (Sp i) → h2 466 13 = T → R false h2) → (¬ 12 ≤ o → ∀ h2 : zH, mB T h h2 → MT bs n K Sp V En m h2 (i + 1) → h2 466 13 = T → h2 466 14 = o + 1 → R true h2) → zCb G (D + 3) mX12_opens [vr 12 466] h R := fun D R kk r1 r2 => by
        refine eX12_opens (bX12_opens_0 ?_)
        rw [h14]
        refine ⟨⟨by omega, by omega⟩, fun n12 => ?_, fun e12 => sm_wrongT (T := T) t (by decide) (fun h2 g1 g2 g3 => r1 (by omega) h2 g3 (by rw [g2 13 (by decide) (by decide) (by decide), h13]))⟩
        refine sm_nextT ts (MT_fr t (fun j p q => zup_ns (by omega)) (zup_ne (by decide))) (by omega) (by omega) (fun h2 f2 _ t2 => r2 (by omega) h2 (mB_t mB_14 (mB_n f2)) t2 (by rw [f2.2 13 (by decide) (by decide), zup_ns (by decide), h13]) (by rw [f2.2 14 (by decide) (by decide), zup_eq]))
      rw [show d + 9 + 4 * k = d + 8 + 4 * k + 1 by omega]
      refine eX12_readPart (bX12_readPart_0 (sm_is ts t (by decide) (fun e33 => ⟨fun z => (by cases z), fun _ => ?_⟩) (fun n33 => ⟨fun _ => sm_is ts t (by decide) (fun e40 => ⟨fun z => (by cases z), fun _ => ?_⟩) (fun n40 => ⟨fun _ => ?_, fun z => (by cases z)⟩), fun z => (by cases z)⟩)))
      · -- !
        have hR : ∀ R, zCb G (d + 5 + 4 * k + 3) mX12_opens [vr 12 466] h R → zCb G (d + 8 + 4 * k) mX12_opens [vr 12 466] h R := fun R x => by rwa [show d + 8 + 4 * k = d + 5 + 4 * k + 3 by omega]
        refine hR _ (opens _ _ (Or.inl e33) (fun o12 h2 mf2 e2 => ⟨fun _ => ?_, fun z => (by cases z)⟩) (fun o12 h2 fr2 t2 e13 e14 => ⟨fun z => (by cases z), fun _ => ?_⟩))
        · have hf := FS_n mf2.2
          have eq := er.symm.trans (pr_not _ rfl e33)
          rw [if_pos o12] at eq
          have hp : ∀ R, zCb G (d + 7 + 4 * k + 1) mX12_passes [vr 12 466, vi 91] h2 R → zCb G (d + 8 + 4 * k) mX12_passes [vr 12 466, vi 91] h2 R := fun R x => by rwa [show d + 8 + 4 * k = d + 7 + 4 * k + 1 by omega]
          have hw : ∀ R, zCb G (d + 7 + 4 * k + 1) mX12_isWord [vr 12 466, (40, 5)] h2 R → zCb G (d + 8 + 4 * k) mX12_isWord [vr 12 466, (40, 5)] h2 R := fun R x => by rwa [show d + 8 + 4 * k = d + 7 + 4 * k + 1 by omega]
          exact sm_is_f hf ⟨fun _ => hp _ (sm_passes_f hf ⟨fun _ => hw _ (sm_isWord_f hf ⟨fun _ => deep h2 mf2 e2 eq.symm, fun z => (by cases z)⟩), fun z => (by cases z)⟩), fun z => (by cases z)⟩
        · obtain ⟨k', ek⟩ : ∃ k', k = k' + 1 := ⟨k - 1, by omega⟩
          obtain ⟨r1, er1⟩ : ∃ r1, pr K Sp V L f false (i + 1) (o + 1) ff ff = r1 := ⟨_, rfl⟩
          have eq := er.symm.trans (pr_not r1 er1 e33)
          rw [if_neg o12] at eq
          rw [ek, show d + 8 + 4 * (k' + 1) = d + 2 + 9 + 4 * k' + 1 by omega]
          refine eX12_readOthers (bX12_readOthers_0 (ihP (i + 1) (o + 1) T k' (d + 2) h2 _ (by omega) t2 (TBm_B fr2 tb) (by omega) e13 e14 (by omega) (by omega) r1 er1 (fun n0 h3 mf3 e3 => ?_) (fun z0 h3 fr3 t3 ip e3 e4 b3 => ?_)))
          · rw [if_pos n0] at eq
            rw [eq] at kF
            refine sm_others_f (T := T) (by omega) e3 (fun h4 r4 => kF n0 _ ⟨mB_t fr2 (mB_t mf3.1 (mB_t (mB_rB (Int.le_refl _) r4) mB_14)), FS_fr (fun j p q => by rw [zup_ns (by omega), r4.1 466 (by decide)]) mf3.2⟩ (by rw [zup_ns (by decide), r4.1 466 (by decide), e3]))
          · rw [if_neg (show ¬ ¬ _ from fun z => z z0)] at eq
            rw [eq] at kC
            refine sm_others (T := T) (by omega) e3 b3 (fun h4 r4 b4 => kC rfl _ (mB_t fr2 (mB_t fr3 (mB_t (mB_rB (Int.le_refl _) r4) mB_14))) (MT_fr t3 (fun j p q => by rw [zup_ns (by omega), r4.1 466 (by decide)]) (by rw [zup_ne (by decide), r4.1 467 (by decide)])) (by show i < r1.2.2.1; omega) (by rw [zup_ns (by decide), r4.1 466 (by decide), e3]) (by rw [zup_eq, r4.1 466 (by decide), e4]; omega) (bSt_fr (fun w _ _ => by rw [zup_ne (by decide)]) b4))
      · -- (
        have hR : ∀ R, zCb G (d + 5 + 4 * k + 3) mX12_opens [vr 12 466] h R → zCb G (d + 8 + 4 * k) mX12_opens [vr 12 466] h R := fun R x => by rwa [show d + 8 + 4 * k = d + 5 + 4 * k + 3 by omega]
        refine hR _ (opens _ _ (Or.inr e40) (fun o12 h2 mf2 e2 => ⟨fun _ => ?_, fun z => (by cases z)⟩) (fun o12 h2 fr2 t2 e13 e14 => ⟨fun z => (by cases z), fun _ => ?_⟩))
        · have hf := FS_n mf2.2
          have eq := er.symm.trans (pr_in _ _ rfl rfl e40)
          rw [if_pos o12] at eq
          have hp : ∀ R, zCb G (d + 7 + 4 * k + 1) mX12_passes [vr 12 466, vi 91] h2 R → zCb G (d + 8 + 4 * k) mX12_passes [vr 12 466, vi 91] h2 R := fun R x => by rwa [show d + 8 + 4 * k = d + 7 + 4 * k + 1 by omega]
          have hw : ∀ R, zCb G (d + 7 + 4 * k + 1) mX12_isWord [vr 12 466, (40, 5)] h2 R → zCb G (d + 8 + 4 * k) mX12_isWord [vr 12 466, (40, 5)] h2 R := fun R x => by rwa [show d + 8 + 4 * k = d + 7 + 4 * k + 1 by omega]
          exact hp _ (sm_passes_f hf ⟨fun _ => hw _ (sm_isWord_f hf ⟨fun _ => deep h2 mf2 e2 eq.symm, fun z => (by cases z)⟩), fun z => (by cases z)⟩)
        · obtain ⟨k', ek⟩ : ∃ k', k = k' + 1 := ⟨k - 1, by omega⟩
          obtain ⟨r1, er1⟩ : ∃ r1, pr K Sp V L f false (i + 1) (o + 1) ff ff = r1 := ⟨_, rfl⟩
          obtain ⟨s, es⟩ : ∃ s, pr K Sp V L f true r1.2.2.1 (o + 1) (fun _ => false) r1.2.2.2 = s := ⟨_, rfl⟩
          have eq := er.symm.trans (pr_in r1 s er1 es e40)
          rw [if_neg o12] at eq
          rw [ek, show d + 8 + 4 * (k' + 1) = d + 9 + 4 * k' + 1 + 1 + 1 by omega]
          -- behind the body
          have fl : ∀ (h4 : zH) (w s : Int), ¬ w = 0 → MF T h h4 w s → h4 466 13 = T + 1 → r.1 = w ∧ r.2.1 = s → zCv G (d + 9 + 4 * k' + 1 + 1) mX12_must [vr 12 466, vi 41] h4 (fun h5 => Q (zup h5 466 14 (h5 466 14 - 1))) := fun h4 w s w0 mf4 e4 eq => by
            rw [eq.1, eq.2] at kF
            have hm : ∀ R, zCv G (d + 9 + 4 * k' + 2) mX12_must [vr 12 466, vi 41] h4 R → zCv G (d + 9 + 4 * k' + 1 + 1) mX12_must [vr 12 466, vi 41] h4 R := fun R x => x
            exact hm _ (sm_must_f (FS_n mf4.2) (kF w0 _ ⟨mB_t mf4.1 mB_14, FS_fr (fun j p q => zup_ns (by omega)) mf4.2⟩ (by rw [zup_ns (by decide), e4])))
          refine eX12_readInner (bX12_readInner_0 (eX12_readBody (bX12_readBody_0 (eX12_readMeet (bX12_readMeet_0 (ihP (i + 1) (o + 1) T k' d h2 _ (by omega) t2 (TBm_B fr2 tb) (by omega) e13 e14 (by omega) (by omega) r1 er1 (fun n0 h3 mf3 e3 => ?_) (fun z0 h3 fr3 t3 ip e3 e4 b3 => ?_)))))))
          · rw [if_pos n0] at eq
            have RM := rm_f (G := G) (D := d + 9 + 4 * k') (e := false) (h := h3) (T := T) (by omega) mf3.2 (by rw [e3, bi_f]; omega) (Q := fun h4 => zCv G (d + 9 + 4 * k' + 1 + 1) mX12_must [vr 12 466, vi 41] h4 (fun h5 => Q (zup h5 466 14 (h5 466 14 - 1)))) (fun h4 mf4 e4 => fl h4 _ _ n0 (MF_t fr2 (MF_t mf3.1 mf4)) e4 (by rw [eq]; exact ⟨rfl, rfl⟩))
            refine bX12_readMeet_4 (sm_is_f (FS_n mf3.2) ⟨fun z => (by cases z), fun _ => sm_is_f (FS_n mf3.2) ⟨fun _ => ?_, fun z => (by cases z)⟩⟩)
            exact (mkm_f (G := G) (D := d + 9 + 4 * k') (e := false) (h := h3) (T := T) (by omega) mf3.2 (by rw [e3, bi_f]; omega) (fun h4 mf4 e4 => fl h4 _ _ n0 (MF_t fr2 (MF_t mf3.1 mf4)) e4 (by rw [eq]; exact ⟨rfl, rfl⟩))).2 rfl
          · rw [if_neg (show ¬ ¬ _ from fun z => z z0)] at eq
            have RR := ihR r1.2.2.1 (o + 1) T false k' d h3 ff r1.2.2.2 (fun h4 => zCv G (d + 9 + 4 * k' + 1 + 1) mX12_must [vr 12 466, vi 41] h4 (fun h5 => Q (zup h5 466 14 (h5 466 14 - 1)))) (by omega) t3 (TBm_B fr3 (TBm_B fr2 tb)) (by omega) (by rw [e3, bi_f]; omega) e4 (by omega) (by omega) ⟨fun z => (by cases z), fun _ => ⟨rfl, b3⟩⟩ s es (fun n0 h4 mf4 e4' => ?_) (fun s0 h4 fr4 t4 ip4 u13 u14 b4 => ?_)
            · have cv : mKm G (d + 9 + 4 * k' + 1) (fun h4 => zCv G (d + 9 + 4 * k' + 1 + 1) mX12_must [vr 12 466, vi 41] h4 (fun h5 => Q (zup h5 466 14 (h5 466 14 - 1)))) false = fun h4 => tX12_readBody_4 G (d + 9 + 4 * k' + 1) (fun h4 => zCv G (d + 9 + 4 * k' + 1 + 1) mX12_must [vr 12 466, vi 41] h4 (fun h5 => Q (zup h5 466 14 (h5 466 14 - 1)))) h4 := by
                funext x
                exact propext ⟨fun y => y.2 rfl, fun y => ⟨fun z => (by cases z), fun _ => y⟩⟩
              rw [cv] at RR
              exact RR
            · rw [if_pos n0] at eq
              exact fl h4 _ _ n0 (MF_t fr2 (MF_t fr3 mf4)) e4' (by rw [eq]; exact ⟨rfl, rfl⟩)
            · rw [if_neg (show ¬ ¬ _ from fun z => z s0)] at eq
              have hm : ∀ R, zCv G (d + 7 + 4 * k' + 4) mX12_must [vr 12 466, vi 41] h4 R → zCv G (d + 9 + 4 * k' + 1 + 1) mX12_must [vr 12 466, vi 41] h4 R := fun R x => by rwa [show d + 9 + 4 * k' + 1 + 1 = d + 7 + 4 * k' + 4 by omega]
              refine hm _ (sm_must (T := T) ts t4 (by decide) (fun e41 h5 f5 t5 => ?_) (fun n41 h5 g1 g2 g3 => ?_))
              · rw [if_pos e41] at eq
                rw [eq] at kC
                exact kC rfl _ (mB_t fr2 (mB_t fr3 (mB_t fr4 (mB_t (mB_n f5) mB_14)))) (MT_fr t5 (fun j p q => zup_ns (by omega)) (zup_ne (by decide))) (by show i < s.2.2.1 + 1; omega) (by rw [zup_ns (by decide), f5.2 13 (by decide) (by decide), u13]) (by rw [zup_eq, f5.2 14 (by decide) (by decide), u14]; omega) (bSt_fr (fun w _ _ => by rw [zup_ne (by decide), f5.1 468 (by decide)]) b4)
              · rw [if_neg n41] at eq
                rw [eq] at kF
                exact kF (show ¬ (1 : Int) = 0 by decide) _ ⟨mB_t fr2 (mB_t fr3 (mB_t fr4 (mB_t g3.1 mB_14))), FS_fr (fun j p q => zup_ns (by omega)) g3.2⟩ (by rw [zup_ns (by decide), g2 13 (by decide) (by decide) (by decide), u13])
      · -- ranges, any, a name
        have hp : ∀ R, zCb G (d + 5 + 4 * k + 3) mX12_passes [vr 12 466, vi 91] h R → zCb G (d + 8 + 4 * k) mX12_passes [vr 12 466, vi 91] h R := fun R x => by rwa [show d + 8 + 4 * k = d + 5 + 4 * k + 3 by omega]
        refine hp _ (sm_passes ts t (by decide) (fun e91 h2 f2 t2 => ⟨fun z => (by cases z), fun _ => ?_⟩) (fun n91 => ⟨fun _ => ?_, fun z => (by cases z)⟩))
        · have eq := er.symm.trans (pr_rng e91)
          have hr : ∀ R, zCv G (d + 3 + 4 * k + 5) mX12_readRanges [vr 12 466] h2 R → zCv G (d + 8 + 4 * k) mX12_readRanges [vr 12 466] h2 R := fun R x => by rwa [show d + 8 + 4 * k = d + 3 + 4 * k + 5 by omega]
          rw [eq] at kF kC
          refine hr _ (sm_readRanges (T := T) (f := f) ts e91 t2 (by omega) (by omega) (by rw [f2.2 13 (by decide) (by decide), h13]) (fun n0 h3 mf3 e3 => kF n0 h3 (MF_t (mB_n f2) mf3) e3) (fun z0 h3 fr3 t3 ip e3 e4 b3 => kC z0 h3 (mB_t (mB_n f2) fr3) t3 ip e3 (by rw [e4, f2.2 14 (by decide) (by decide), h14]) b3))
        · have hw : ∀ R, zCb G (d + 2 + 4 * k + 6) mX12_isWord [vr 12 466, (40, ((5 : Nat) : Int))] h R → zCb G (d + 8 + 4 * k) mX12_isWord [vr 12 466, (40, 5)] h R := fun R x => by rwa [show d + 8 + 4 * k = d + 2 + 4 * k + 6 by omega]
          refine hw _ (sm_isWord (w := 5) (by decide) ts t (fun e10 => ⟨fun z => (by cases z), fun _ => ?_⟩) (fun n10 => ⟨fun _ => ?_, fun z => (by cases z)⟩))
          · have e10 : K i = 10 := by omega
            have eq := er.symm.trans (pr_any e10)
            rw [eq] at kC
            rw [show d + 8 + 4 * k = d + 5 + 4 * k + 2 + 1 by omega]
            refine eX12_readAny (bX12_readAny_0 (sm_lays tb_all1 (by omega) h13 (fun h1 r1 b1 => sm_nextT ts (MT_fr t (fun j p q => by rw [zup_ns (by omega), r1.1 466 (by decide)]) (by rw [zup_ne (by decide), r1.1 467 (by decide)])) (by omega) (by omega) (fun h3 f3 _ t3 => ?_))))
            exact kC rfl h3 (mB_t (mB_rB (Int.le_refl _) r1) (mB_t mB_13 (mB_n f3))) t3 (by show i < i + 1; omega) (by rw [f3.2 13 (by decide) (by decide), zup_eq]) (by rw [f3.2 14 (by decide) (by decide), zup_ns (by decide), r1.1 466 (by decide), h14]) (bSt_fr (fun w _ _ => by rw [f3.1 468 (by decide), zup_ne (by decide)]) b1)
          · have hn : ∀ R, zCv G (d + 4 * k + 8) mX12_readNamed [vr 12 466] h R → zCv G (d + 8 + 4 * k) mX12_readNamed [vr 12 466] h R := fun R x => by rwa [show d + 8 + 4 * k = d + 4 * k + 8 by omega]
            refine hn _ (sm_readNamed (T := T) (f := f) (o := o) ts tb t n33 n40 n91 (by omega) (by omega) h13 (fun w w0 eq h2 mf2 e2 => ?_) (fun S eq h2 fr2 t2 e2 e4 b2 => ?_))
            · rw [er.symm.trans eq] at kF
              exact kF (show ¬ w = 0 by omega) h2 mf2 e2
            · rw [er.symm.trans eq] at kC
              exact kC rfl h2 fr2 t2 (by show i < i + 1; omega) e2 (by rw [e4, h14]) b2
    · intro i o T e k d h E M Q mf t tb hT h13 h14 o0 ok hEM r er kF kC
      have prE : pr K Sp V L f false (i + 1) o E M = pr K Sp V L f false (i + 1) o ff ff := pr_E ff ff
      obtain ⟨r1, er1⟩ : ∃ r1, pr K Sp V L f false (i + 1) o ff ff = r1 := ⟨_, rfl⟩
      have be := bi_01 e
      -- & and -
      have amp : ∀ x : Int, x = K i → (x = 38 ∨ x = 45) → r = (if ¬ r1.1 = 0 then r1 else pr K Sp V L f true r1.2.2.1 o E (fun z => jO x (M z) (r1.2.2.2 z))) → zCv G (d + 9 + 4 * k) mX12_next [vr 12 466] h (fun h4 => zCv G (d + 9 + 4 * k) mX12_readPart [vr 12 466] h4 (fun h6 => zCv G (d + 9 + 4 * k) mX12_joins [vr 12 466, vi x] h6 (fun h8 => tX12_readMeet_4 G (d + 9 + 4 * k) (mKm G (d + 9 + 4 * k + 1) Q e) h8))) := fun x ex hx eq => by
        have hn : ∀ R, zCv G (d + 7 + 4 * k + 2) mX12_next [vr 12 466] h R → zCv G (d + 9 + 4 * k) mX12_next [vr 12 466] h R := fun R y => by rwa [show d + 9 + 4 * k = d + 7 + 4 * k + 2 by omega]
        refine hn _ (sm_nextT ts t (by omega) (by omega) (fun h4 f4 _ t4 => ?_))
        have fr4 : mB (T + 1 + bi e) h h4 := mB_n f4
        refine ihP (i + 1) o (T + 1 + bi e) k d h4 _ (by omega) t4 (TBm_B fr4 tb) (by omega) (by rw [f4.2 13 (by decide) (by decide), h13]) (by rw [f4.2 14 (by decide) (by decide), h14]) o0 ok r1 er1 (fun n0 h6 mf6 e6 => ?_) (fun z0 h6 fr6 t6 ip e6 e64 b6 => ?_)
        · rw [if_pos n0] at eq
          rw [eq] at kF
          refine sm_joins_f (T := T + bi e) ⟨by omega, by omega⟩ (by omega) (by rw [e6]; omega) (fun h8 r8 => ?_)
          have f8 : FS h8 r1.1 r1.2.1 := FS_fr (fun j p q => by rw [r8.1 466 (by decide), zup_ns (by omega)]) mf6.2
          have fr8 : mB T h h8 := mB_t (mB_le (by omega) fr4) (mB_t (mB_le (by omega) mf6.1) (mB_le (by omega) (mB_j r8)))
          exact rm_f (by omega) f8 (by rw [r8.1 466 (by decide), zup_eq]; omega) (fun h9 mf9 e9 => kF n0 h9 (MF_t fr8 mf9) e9)
        · rw [if_neg (show ¬ ¬ _ from fun z => z z0)] at eq
          have keep : ∀ (w : Int), w < (T + 1 + bi e) * 1024 → h6 468 w = h 468 w := fun w p => by rw [fr6.2.2 w p, f4.1 468 (by decide)]
          have rowM : bSt h6 (T + bi e) M := by
            cases e
            · rw [bi_f] at keep ⊢
              rw [show T + 0 = T by omega]
              exact bSt_fr (fun w p q => keep w (by omega)) (hEM.2 rfl).2
            · rw [bi_t] at keep ⊢
              exact bSt_fr (fun w p q => keep w (by omega)) (hEM.1 rfl).2
          refine sm_joins (T := T + bi e) (S := M) (S2 := r1.2.2.2) ⟨by omega, by omega⟩ (by omega) (by rw [e6]; omega) rowM (by rw [show T + bi e + 1 = T + 1 + bi e by omega]; exact b6) (fun h8 r8 b8 => ?_)
          have fr8 : mB T h h8 := mB_t (mB_le (by omega) fr4) (mB_t (mB_le (by omega) fr6) (mB_le (by omega) (mB_j r8)))
          have t8 : MT bs n K Sp V En m h8 r1.2.2.1 := MT_fr t6 (fun j p q => by rw [r8.1 466 (by decide), zup_ns (by omega)]) (by rw [r8.1 467 (by decide), zup_ne (by decide)])
          refine ihR r1.2.2.1 o T e k d h8 E _ Q (by omega) t8 (TBm_B fr8 tb) hT (by rw [r8.1 466 (by decide), zup_eq]; omega) (by rw [r8.1 466 (by decide), zup_ns (by decide), e64]) o0 ok ⟨fun et => ?_, fun ef => ?_⟩ r eq.symm (fun n0 h9 mf9 e9 => kF n0 h9 (MF_t fr8 mf9) e9) (fun z0 h9 fr9 t9 ip9 u1 u2 u3 => kC z0 h9 (mB_t fr8 fr9) t9 (by omega) u1 u2 u3)
          · rw [et] at b8 r8 keep
            rw [bi_t] at b8 r8 keep
            exact ⟨bSt_fr (fun w p q => by rw [r8.2 w (by omega), zup_ne (by decide), keep w (by omega)]) (hEM.1 et).1, b8⟩
          · rw [ef] at b8
            rw [bi_f, show T + 0 = T by omega] at b8
            exact ⟨(hEM.2 ef).1, b8⟩
      have qk := MT_k ts t
      refine bX12_readMeet_4 (sm_is ts t (by decide) (fun e38 => ⟨fun _ => ?_, fun z => (by cases z)⟩) (fun n38 => ⟨fun z => (by cases z), fun _ => sm_is ts t (by decide) (fun e45 => ⟨fun z => (by cases z), fun _ => ?_⟩) (fun n45 => ⟨fun _ => ?_, fun z => (by cases z)⟩)⟩))
      · have e9 : h 466 9 = K i := by omega
        rw [e9]
        refine amp (K i) rfl (Or.inl e38) ?_
        rw [e38]
        exact er.symm.trans (pr_and r1 (prE.trans er1) e38)
      · have e9 : h 466 9 = K i := by omega
        rw [e9]
        refine amp (K i) rfl (Or.inr e45) ?_
        rw [e45]
        exact er.symm.trans (pr_sub r1 (prE.trans er1) e45)
      · -- the meet is done
        have don : ∀ h6 : zH, mB T h h6 → MT bs n K Sp V En m h6 i → h6 466 13 = T + 1 → h6 466 14 = o → bSt h6 T (fun z => E z || M z) → tX12_readBody_4 G (d + 9 + 4 * k + 1) Q h6 := fun h6 fr6 t6 u13 u14 b6 => by
          have hp : ∀ R, zCb G (d + 7 + 4 * k + 3) mX12_passes [vr 12 466, vi 124] h6 R → zCb G (d + 9 + 4 * k + 1) mX12_passes [vr 12 466, vi 124] h6 R := fun R x => by rwa [show d + 9 + 4 * k + 1 = d + 7 + 4 * k + 3 by omega]
          refine bX12_readBody_4 (hp _ (sm_passes ts t6 (by decide) (fun e124 h7 f7 t7 => ⟨fun z => (by cases z), fun _ => ?_⟩) (fun n124 => ⟨fun _ => ?_, fun z => (by cases z)⟩)))
          · have eq := er.symm.trans (pr_or r1 (prE.trans er1) e124)
            have fr7 := mB_t fr6 (mB_n f7)
            have fr7' : mB (T + 1) h7 h7 := mB_r _ _
            refine eX12_readMeet (bX12_readMeet_0 (ihP (i + 1) o (T + 1) k d h7 _ (by omega) t7 (TBm_B fr7 tb) (by omega) (by rw [f7.2 13 (by decide) (by decide), u13]) (by rw [f7.2 14 (by decide) (by decide), u14]) o0 ok r1 er1 (fun n0 h8 mf8 e8 => ?_) (fun z0 h8 fr8 t8 ip e8 e84 b8 => ?_)))
            · rw [if_pos n0] at eq
              rw [eq] at kF
              have X := rm_f (G := G) (D := d + 9 + 4 * k) (e := true) (h := h8) (T := T) (by omega) mf8.2 (by rw [e8, bi_t]) (Q := Q) (fun h9 mf9 e9 => kF n0 h9 (MF_t fr7 (MF_t (mB_le (by omega) mf8.1) mf9)) e9)
              have cv : mKm G (d + 9 + 4 * k + 1) Q true = fun h4 => zCv G (d + 9 + 4 * k + 1) mX12_joins [vr 12 466, vi 124] h4 (fun h6 => tX12_readBody_4 G (d + 9 + 4 * k + 1) Q h6) := by
                funext x
                exact propext ⟨fun y => y.1 rfl, fun y => ⟨fun _ => y, fun z => (by cases z)⟩⟩
              rw [cv] at X
              exact X
            · rw [if_neg (show ¬ ¬ _ from fun z => z z0)] at eq
              have X := ihR r1.2.2.1 o T true k d h8 (fun z => E z || M z) r1.2.2.2 Q (by omega) t8 (TBm_B fr8 (TBm_B fr7 tb)) hT (by rw [e8, bi_t]) e84 o0 ok ⟨fun _ => ⟨bSt_fr (fun w p q => by rw [fr8.2.2 w (by omega), f7.1 468 (by decide)]) b6, b8⟩, fun z => (by cases z)⟩ r eq.symm (fun n0 h9 mf9 e9 => kF n0 h9 (MF_t fr7 (MF_t (mB_le (by omega) fr8) mf9)) e9) (fun z0 h9 fr9 t9 ip9 u1 u2 u3 => kC z0 h9 (mB_t fr7 (mB_t (mB_le (by omega) fr8) fr9)) t9 (by omega) u1 u2 u3)
              have cv : mKm G (d + 9 + 4 * k + 1) Q true = fun h4 => zCv G (d + 9 + 4 * k + 1) mX12_joins [vr 12 466, vi 124] h4 (fun h6 => tX12_readBody_4 G (d + 9 + 4 * k + 1) Q h6) := by
                funext x
                exact propext ⟨fun y => y.1 rfl, fun y => ⟨fun _ => y, fun z => (by cases z)⟩⟩
              rw [cv] at X
              exact X
          · have eq := er.symm.trans (pr_end n124 n38 n45)
            rw [eq] at kC
            exact kC rfl h6 fr6 t6 (Int.le_refl _) u13 u14 b6
        refine ⟨fun et => ?_, fun ef => ?_⟩
        · have hh := hEM.1 et
          rw [et, bi_t] at h13
          refine sm_joins (T := T) (S := E) (S2 := M) ⟨by decide, by decide⟩ (by omega) (by rw [h13]; omega) hh.1 hh.2 (fun h6 r6 b6 => don h6 (mB_j r6) (MT_fr t (fun j p q => by rw [r6.1 466 (by decide), zup_ns (by omega)]) (by rw [r6.1 467 (by decide), zup_ne (by decide)])) (by rw [r6.1 466 (by decide), zup_eq]) (by rw [r6.1 466 (by decide), zup_ns (by decide), h14]) b6)
        · have hh := hEM.2 ef
          rw [ef, bi_f] at h13
          refine don h (mB_r T h) t (by rw [h13]; omega) h14 (bSt_f (fun z _ _ => ?_) hh.2)
          rw [hh.1]
          show M z = (false || M z)
          rw [Bool.false_or]
end ME
