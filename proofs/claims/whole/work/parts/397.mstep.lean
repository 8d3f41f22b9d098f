/-! ===== the reference: a step ===== -/
section MSTEP
variable {X : Xt} {G : Gt} {m : Nat} {ℓ : Nat → Nat} {t : Tt} {S : St} {g : Gp}
theorem MWs.r {T : St} (hg : MWs t S g) (h : kpA S T) : MWs t T g := by
  unfold MWs gw gwr at *
  rw [h.1, h.n3 (j := 6) (by decide) (by decide)]
  exact hg
theorem fw_5 {R : Nat → Nat → Nat} {n : Nat} (h : fwN R n < n) : R (fwN R n) 5 = 0 := (fwN_is R n).1 h
theorem sm_steps {Pr : Int32 → Gt → Prop} (h : ML G m ℓ) (hv : MV (tA t 0) S) (hw : WF S) (hL : (zL S).length ≤ 160) (ht : zn S 0 < 2 ^ 26) (h7 : zn S 7 < 2 ^ 27)
    (k : ∀ t', MV (tA t' 0) (stepS S).1 → smL t t' → Pr (nI (stepS S).2) (mk G m ℓ t')) : wX10_steps X (mk G m ℓ t) m Pr := by
  have h40 : zn S 6 ≤ 40 := hw.1.2.2.2.2.2.2.1
  refine ⟨m_T h, sm_firstWaiting h hv hw (fun e => ⟨fun z => absurd z (by decide), fun _ => ?_⟩) (fun e => ⟨fun _ => ⟨m_T h, ?_⟩, fun z => absurd (nI_pos' (by omega)) z⟩)⟩
  · rw [stepS_0 e] at k
    exact k t hv smL.rf
  · have ne : ¬ zn S 6 ≤ fwN (zrq S) (zn S 6) := by omega
    refine sm_isCached h hv hw (by omega) e (fun hc => ⟨fun z => absurd z (by decide), fun _ => ⟨m_T h, ?_⟩⟩) (fun hc => ⟨fun _ => ⟨m_T h, ?_⟩, fun z => absurd rfl z⟩)
    · rw [stepS_c ne hc] at k
      exact sm_byCache h hv hw e hc (fun t' v' k' => k t' v' k'.sm)
    · rw [stepS_g ne hc] at k
      refine sm_gathers h hv hw e (fw_5 e) (fun t1 a1 sm1 e1 mg1 => ⟨m_T h, ?_⟩)
      have ho : GO S (grpG S) := by
        obtain ⟨q1, q2, q3, q4, q5, q6, q7, q8⟩ := grp_ok hw e
        exact ⟨q1, q2, q3, q4, q5, q6, q7, q8, e⟩
      have hp := grp_wfF hw e
      have hg1 : MGs t1 S (grpG S) := mg1
      have hv1 : MV (tA t1 0) S := by rw [a1]; exact hv
      revert k ho hp hg1
      generalize grpG S = g
      intro k ho hp hg1
      obtain ⟨s1, s2, s2', s3, s4, s5, s6, s8⟩ := hw.1
      have hU : WF (u1 (u1 S 7 (zn S 7 + 1)) 0 (zn S 0 + if zn S 8 = 1 then zn S 4 else 0)) := u7_wf hw _ _ (by omega) (by omega)
      obtain ⟨b1, b2, b3, b4, b5, b6, b7, b8⟩ := tr_ok hp (zn S 3 + 1) _ hU
      have hkp : kpA (u1 (u1 S 7 (zn S 7 + 1)) 0 (zn S 0 + if zn S 8 = 1 then zn S 4 else 0)) (triesS S (gfp S g)).1 := b2
      have hwT : WF (triesS S (gfp S g)).1 := b1
      have hfT : ∀ r, (triesS S (gfp S g)).2 = some r → fmt r.2.2 ∧ fitsB r.2.2 (fbs (gfp S g)) = true := b8
      have hoT : GO (triesS S (gfp S g)).1 g := GO.k (S := u1 (u1 S 7 (zn S 7 + 1)) 0 (zn S 0 + if zn S 8 = 1 then zn S 4 else 0)) ho hkp
      have egf : gfp (triesS S (gfp S g)).1 g = gfp S g := gfp_k (S := u1 (u1 S 7 (zn S 7 + 1)) 0 (zn S 0 + if zn S 8 = 1 then zn S 4 else 0)) hkp
      have hmg : ∀ t', kAt t1 t' → MGs t' (triesS S (gfp S g)).1 g := fun t' c => MGs.k (S := u1 (u1 S 7 (zn S 7 + 1)) 0 (zn S 0 + if zn S 8 = 1 then zn S 4 else 0)) hg1 hkp c
      have hmw : ∀ t', MWs t' S g → MWs t' (triesS S (gfp S g)).1 g := fun t' c => MWs.r (S := u1 (u1 S 7 (zn S 7 + 1)) 0 (zn S 0 + if zn S 8 = 1 then zn S 4 else 0)) c hkp
      clear b1 b2 b3 b4 b5 b6 b7 b8
      refine sm_tries h hv1 hw ho hp hg1 hL ht h7 (fun t2 o1 v2 c2 => ?_) (fun t2 r o1 v2 mt2 mw2 c2 => ?_)
      · have hmg2 := hmg t2 c2
        have hdT : 1 ≤ gdv (triesS S (gfp S g)).1 g ∧ gdv (triesS S (gfp S g)).1 g ≤ 3 := by
          have e1 : fd (gfp (triesS S (gfp S g)).1 g) = fd (gfp S g) := by rw [egf]
          have e2 : gdv (triesS S (gfp S g)).1 g = fd (gfp S g) := e1
          rw [e2]; exact ⟨hp.1, hp.2.1⟩
        revert v2 hwT hoT hmg2 hdT k
        clear hfT egf hmg hmw hkp
        cases hT : triesS S (gfp S g) with
        | mk T o =>
          rw [hT] at o1
          have o1' : o = none := o1
          subst o1'
          intro k hwT hoT v2 hmg2 hdT
          refine ⟨fun z => absurd rfl z, fun _ => ⟨m_T h, ?_⟩⟩
          refine sm_settles (cd := 11) (b := []) h v2 hwT hoT hmg2 (fun e => absurd e (by decide)) (fun e => absurd e (by decide)) hdT (by decide) (fun e => absurd e (by decide)) (fun t3 e => absurd e (by decide)) (fun t3 _ v3 k3 => ?_)
          exact k t3 v3 ((sm1.tr c2.sm).tr k3.sm)
      · have hmg2 := hmg t2 c2
        have hmw2 := hmw t2 mw2
        have hff := hfT r o1
        have hdT : 1 ≤ gdv (triesS S (gfp S g)).1 g ∧ gdv (triesS S (gfp S g)).1 g ≤ 3 := by
          have e1 : fd (gfp (triesS S (gfp S g)).1 g) = fd (gfp S g) := by rw [egf]
          have e2 : gdv (triesS S (gfp S g)).1 g = fd (gfp S g) := e1
          rw [e2]; exact ⟨hp.1, hp.2.1⟩
        have hpT : wfF (gfp (triesS S (gfp S g)).1 g) := by rw [egf]; exact hp
        have hfit : fitsB r.2.2 (fbs (gfp (triesS S (gfp S g)).1 g)) = true := by rw [egf]; exact hff.2
        have hfm := hff.1
        revert v2 hwT hoT hmg2 hmw2 hdT hpT hfit k
        clear hff hfT egf hmg hmw hkp
        cases hT : triesS S (gfp S g) with
        | mk T o =>
          rw [hT] at o1
          have o1' : o = some r := o1
          subst o1'
          intro k hwT hoT v2 hmg2 hmw2 hdT hpT hfit
          have hrf := rp_fit hpT hfm hfit
          have hl5 := hfm.1
          have b1 : r.2.2.getD 1 0 < 256 := gd_b hfm.2.2.1 1
          have b2 : r.2.2.getD 2 0 < 256 := gd_b hfm.2.2.1 2
          have e4 : gA (mk G m ℓ t2) (ℓ 12) (4 : Int32).toNatClampNeg = nI (r.2.2.getD 1 0) := by rw [ml_gA12 h]; exact mt2.2.2.2 1 (by omega)
          have e5 : gA (mk G m ℓ t2) (ℓ 12) (5 : Int32).toNatClampNeg = nI (r.2.2.getD 2 0) := by rw [ml_gA12 h]; exact mt2.2.2.2 2 (by omega)
          refine ⟨fun _ => ⟨m_T h, ℓ 12, m_RT h, by rw [m_Tk h], by rw [m_Tk h]; exact n_in (i := 4) (by decide) (by decide), ?_⟩, fun z => absurd z (by decide)⟩
          rw [e4, show nI (r.2.2.getD 1 0) ≤ 128 ↔ r.2.2.getD 1 0 ≤ 128 from n_le (b := 128) (by omega) (by decide)]
          refine ⟨fun z => ⟨m_T h, ?_⟩, fun z => ⟨m_T h, ℓ 12, m_RT h, by rw [m_Tk h], by rw [m_Tk h]; exact n_in (i := 5) (by decide) (by decide), m_T h, ?_⟩⟩
          · have z' : ¬ 128 ≤ r.2.2.getD 1 0 := fun e => by have := (hrf.1 e).1; omega
            refine sm_settles (cd := 0) (b := r.2.2) h v2 hwT hoT hmg2 (fun _ hgw => ⟨r, mt2, rfl, by have := hrf.2 z' hgw; rw [this]; exact Nat.le_refl _, hfm.2.1⟩) (fun _ => hmw2) hdT (by decide) (fun _ j hj => ?_) (fun t3 _ v3 k3 => ?_) (fun t3 e => absurd rfl e)
            · unfold gval
              split
              · exact hpT.2.2.2.2.2.2 j
              · exact wd_lt hfm.2.2.1 _
            · refine k t3 ?_ ((sm1.tr c2.sm).tr k3.sm)
              show MV _ (setS S g (T, some r))
              unfold setS
              dsimp only
              rw [if_neg z']
              exact v3
          · have z' : 128 ≤ r.2.2.getD 1 0 := by omega
            rw [e5]
            have hc0 : r.2.2.getD 2 0 ≠ 0 := by have := (hrf.1 z').2; omega
            refine sm_settles (cd := r.2.2.getD 2 0) (b := []) h v2 hwT hoT hmg2 (fun e => absurd e hc0) (fun e => absurd e hc0) hdT b2 (fun e => absurd e hc0) (fun t3 e => absurd e hc0) (fun t3 _ v3 k3 => ?_)
            refine k t3 ?_ ((sm1.tr c2.sm).tr k3.sm)
            show MV _ (setS S g (T, some r))
            unfold setS
            dsimp only
            rw [if_pos z']
            exact v3
end MSTEP
