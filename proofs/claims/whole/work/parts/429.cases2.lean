/-! ===== the law's cases: setDevice, protect, the listener, calls that don't throw ===== -/
def TLB (X : Xt) (m o : Nat) (r : Int32) (K P0 : Gt → Prop) : Int32 → Gt → Prop := fun r1 G2 => gT G2 m = (1, 11) ∧ wX10_thrown X G2 m (fun r3 G4 => (r3 = r → (¬ r = 0 → K G4) ∧ (r = 0 → (gT G4 o).1 = 5 ∧ vp_in 0 (gT G4 o).2 ∧ (r1 = 0 → ((lg_cmp (gE G4 o (0 : Int32).toNatClampNeg) (0 : Int64)) = 0 → K G4) ∧ (¬ ((lg_cmp (gE G4 o (0 : Int32).toNatClampNeg) (0 : Int64)) = 0) → P0 G4)) ∧ (¬ (r1 = 0) → ((lg_cmp (gE G4 o (0 : Int32).toNatClampNeg) (1 : Int64)) = 0 → K G4) ∧ (¬ ((lg_cmp (gE G4 o (0 : Int32).toNatClampNeg) (1 : Int64)) = 0) → P0 G4)))) ∧ (¬ (r3 = r) → P0 G4))
section CASES2
variable {X : Xt} {sd : Nat → Nat} {G : Gt} {g c a z n u k m o : Nat} {ℓ : Nat → Nat} {S S' : St} {L L' : Hr} {t' : Tt} {K P0 : Gt → Prop} {Q : Int32 → Gt → Prop}
theorem tlb_z {r r1 : Int32} (h : LM X n u sd k G g c a m ℓ o S L S' L z) (zz : smZ (uS (rd G m ℓ) 354 r) t') (hv : MV (tA t' 0) S) (hS : OKS S) (hL : wH k L) (ho : r = 0 → gE G o 0 = if r1 = 0 then 0 else 1) (kk : ∀ G', LI X n u k G' g m o → K G') : TLB X m o r K P0 r1 (mk G m ℓ t') := by
  have fin := kk _ (h.fin hv ((h.2.1.2.2.1.th0).zz zz) hS hL)
  obtain ⟨h1, h2, ⟨o1, o2, o3⟩, h6, h7⟩ := h
  have e : gI (mk G m ℓ t') 354 m = r := (ml_gI (G := G) (ℓ := ℓ) t' 354).trans (by rw [zz.2.2 354 (Or.inl rfl), tS_uS, if_pos rfl])
  refine ⟨h2.1.1, h2.1.1, fun _ => ⟨fun _ => fin, fun zr => ⟨by show (gT G o).1 = 5; rw [o1], by show vp_in 0 (gT G o).2; rw [o1]; exact n_in (i := 0) (by decide) (by decide), fun z1 => ⟨fun _ => fin, fun q => absurd ?_ q⟩, fun z1 => ⟨fun _ => fin, fun q => absurd ?_ q⟩⟩⟩, fun q => absurd e q⟩
  · show lg_cmp (gE G o 0) 0 = 0
    rw [ho zr, if_pos z1]; exact lgc _
  · show lg_cmp (gE G o 0) 1 = 0
    rw [ho zr, if_neg z1]; exact lgc _
theorem lm_fz {r : Int32} (h : LM X n u sd k G g c a m ℓ o S L S' L z) (zz : smZ (uS (rd G m ℓ) 354 r) t') (hv : MV (tA t' 0) S) (hS : OKS S) (hL : wH k L) : LI X n u k (mk G m ℓ t') g m o := h.fin hv ((h.2.1.2.2.1.th0).zz zz) hS hL
theorem cs_setDevice {x1 x2 x3 : Int32} (hq : LQ X n u sd k G g c a m ℓ o S L z) (hr : rX X G z) (hk : k ≤ 511) (kk : ∀ G', LI X n u (k + 1) G' g m o → K G') (hQ : ∀ r G', (gT G' m = (1, 11) ∧ wX10_setDevice X G' m x1 x2 x3 (TL X m o r K P0)) → Q r G') : wL_setDevice X G g x1 x2 x3 o Q := by
  have hS := hq.2.2.2.1
  have hL := hq.2.2.2.2.1.up
  have h6 : ∀ d, (zfl S d).length ≤ 6 := fun d => (hS.1.2.1 d).2.2.2.2.1
  have pos : ∀ (d w : Nat), x1 = nI d → 1 ≤ d → d ≤ 3 → x2 = nI w → w ≤ 1 → (1 ≤ x1 ∧ x1 ≤ 3) ∧ 0 ≤ x2 ∧ x2 ≤ 1 := fun d w e1 d1 d2 e2 w1 => ⟨i_in (lo := 1) (hi := 3) e1 d1 d2 (by decide), i_in (lo := 0) (hi := 1) e2 (Nat.zero_le _) w1 (by decide)⟩
  refine ⟨hq.1.1.1, fx_setDevice hq.1 hr (fun hx G1 f => Or.inl ⟨rfl, hQ _ _ ?_⟩) (fun d w e1 d1 d2 e2 w1 hx G1 f => Or.inr ⟨rfl, hQ _ _ ?_⟩) (fun d v G1 e1 d1 d2 e2 ev v1 f => ?_) (fun d v G1 e1 d1 d2 e2 ev v1 f => ?_)⟩
  · obtain ⟨sd', z', hm⟩ := lq_mid hq f
    refine ⟨hm.2.1.1.1, ?_⟩
    rw [← mk_rd (G := G1) (m := m) (ℓ := ℓ)]
    refine sm_setDevice hm.2.1.1 hm.2.1.2.1 h6 (fun hx' => ?_) (fun d' w' e1' d1' d2' e2' w1' hx' => ?_) (fun d' v' t' e1' d1' d2' e2' ev' v1' mv kv => ?_) (fun d' v' t' e1' d1' d2' e2' ev' v1' mv kv => ?_)
    · exact tl_z hm smZ_tT hm.2.1.2.1 hS hL (fun z => absurd z (by decide)) kk
    · exact absurd (pos d' w' e1' d1' d2' e2' w1') hx
    · exact absurd (pos d' 0 e1' d1' d2' e2' (by decide)) hx
    · exact absurd (pos d' 1 e1' d1' d2' e2' (by decide)) hx
  · obtain ⟨sd', z', hm⟩ := lq_mid hq f
    refine ⟨hm.2.1.1.1, ?_⟩
    rw [← mk_rd (G := G1) (m := m) (ℓ := ℓ)]
    refine sm_setDevice hm.2.1.1 hm.2.1.2.1 h6 (fun hx' => ?_) (fun d' w' e1' d1' d2' e2' w1' hx' => ?_) (fun d' v' t' e1' d1' d2' e2' ev' v1' mv kv => ?_) (fun d' v' t' e1' d1' d2' e2' ev' v1' mv kv => ?_)
    · exact absurd (pos d w e1 d1 d2 e2 w1) hx'
    · exact tl_z hm smZ_tT hm.2.1.2.1 hS hL (fun z => absurd z (by decide)) kk
    · have q_w : w = 0 := n_inj (b := 0) (by omega) (by decide) (e2.symm.trans e2')
      rw [q_w, if_pos rfl] at hx
      exact absurd (i_in (lo := 0) (hi := 1000) ev' (Nat.zero_le _) v1' (by decide)) hx
    · have q_w : w = 1 := n_inj (b := 1) (by omega) (by decide) (e2.symm.trans e2')
      rw [q_w, if_neg (by decide)] at hx
      exact absurd (i_in (lo := 0) (hi := 65535) ev' (Nat.zero_le _) v1' (by decide)) hx
  · obtain ⟨sd', z', hm⟩ := lq_mid hq f
    refine lm_out hm (fun G3 hm e3 => hQ _ _ ⟨hm.2.1.1.1, ?_⟩)
    rw [← mk_rd (G := G3) (m := m) (ℓ := ℓ)]
    refine sm_setDevice hm.2.1.1 hm.2.1.2.1 h6 (fun hx' => ?_) (fun d' w' e1' d1' d2' e2' w1' hx' => ?_) (fun d' v' t' e1' d1' d2' e2' ev' v1' mv kv => ?_) (fun d' v' t' e1' d1' d2' e2' ev' v1' mv kv => ?_)
    · exact absurd (pos d 0 e1 d1 d2 e2 (by decide)) hx'
    · have q_w : w' = 0 := n_inj (b := 0) (by omega) (by decide) (e2'.symm.trans e2)
      rw [q_w, if_pos rfl] at hx'
      exact absurd (i_in (lo := 0) (hi := 1000) ev (Nat.zero_le _) v1 (by decide)) hx'
    · have q_d : d = d' := n_inj (by omega) (by omega) (e1.symm.trans e1')
      subst q_d
      have q_v : v = v' := n_inj (by omega) (by omega) (ev.symm.trans ev')
      subst q_v
      exact tl_z hm kv.sm.z mv (ok_dl hS v1) hL (fun _ => e3) kk
    · exact absurd (e2.symm.trans e2') (by decide)
  · obtain ⟨sd', z', hm⟩ := lq_mid hq f
    refine lm_out hm (fun G3 hm e3 => hQ _ _ ⟨hm.2.1.1.1, ?_⟩)
    rw [← mk_rd (G := G3) (m := m) (ℓ := ℓ)]
    refine sm_setDevice hm.2.1.1 hm.2.1.2.1 h6 (fun hx' => ?_) (fun d' w' e1' d1' d2' e2' w1' hx' => ?_) (fun d' v' t' e1' d1' d2' e2' ev' v1' mv kv => ?_) (fun d' v' t' e1' d1' d2' e2' ev' v1' mv kv => ?_)
    · exact absurd (pos d 1 e1 d1 d2 e2 (by decide)) hx'
    · have q_w : w' = 1 := n_inj (b := 1) (by omega) (by decide) (e2'.symm.trans e2)
      rw [q_w, if_neg (by decide)] at hx'
      exact absurd (i_in (lo := 0) (hi := 65535) ev (Nat.zero_le _) v1 (by decide)) hx'
    · exact absurd (e2.symm.trans e2') (by decide)
    · have q_d : d = d' := n_inj (by omega) (by omega) (e1.symm.trans e1')
      subst q_d
      have q_v : v = v' := n_inj (by omega) (by omega) (ev.symm.trans ev')
      subst q_v
      exact tl_z hm kv.sm.z mv (ok_tp hS (by omega)) hL (fun _ => e3) kk
theorem cs_protect {x1 x2 x3 : Int32} (hq : LQ X n u sd k G g c a m ℓ o S L z) (hr : rX X G z) (hk : k ≤ 511) (kk : ∀ G', LI X n u (k + 1) G' g m o → K G') (hQ : ∀ r G', (gT G' m = (1, 11) ∧ wX10_protect X G' m x1 x2 x3 (TLB X m o r K P0)) → Q r G') : wL_protect X G g x1 x2 x3 o Q := by
  have hS := hq.2.2.2.1
  have hL := hq.2.2.2.2.1.up
  have hw := hS.1
  have pos : ∀ (d r : Nat), x1 = nI d → 1 ≤ d → d ≤ 3 → x2 = nI r → r < 32 → (1 ≤ x1 ∧ x1 ≤ 3) ∧ 0 ≤ x2 ∧ x2 ≤ 31 := fun d r e1 d1 d2 e2 w1 => ⟨i_in (lo := 1) (hi := 3) e1 d1 d2 (by decide), i_in (lo := 0) (hi := 31) e2 (Nat.zero_le _) (by omega) (by decide)⟩
  refine ⟨hq.1.1.1, fx_protect hq.1 hr hw (fun hx G1 f => ⟨rfl, hQ _ _ ?_⟩) (fun d r v G1 e1 d1 d2 e2 r2 ev f => ?_)⟩
  · obtain ⟨sd', z', hm⟩ := lq_mid hq f
    refine ⟨hm.2.1.1.1, ?_⟩
    rw [← mk_rd (G := G1) (m := m) (ℓ := ℓ)]
    refine sm_protect hm.2.1.1 hm.2.1.2.1 hw (fun hx' => ?_) (fun d' r' v' t' e1' d1' d2' e2' r2' ev' mv kv => ?_)
    · exact tlb_z hm smZ.rf hm.2.1.2.1 hS hL (fun z => absurd z (by decide)) kk
    · exact absurd (pos d' r' e1' d1' d2' e2' r2') hx
  · have ro1 : zro S d r ≤ 1 := (hw.2.1 d).2.1 r
    have v1 : v ≤ 1 := by rw [ev]; split <;> omega
    obtain ⟨sd', z', hm⟩ := lq_mid hq f
    have fin : ∀ b : Int64, b = (if nI (zro S d r) = 0 then 0 else 1) → (gT G1 o).1 = 5 ∧ vp_in 0 (gT G1 o).2 ∧ ∀ G23, G23 = sE G1 o (vp_updL (gE G1 o) (0 : Int32).toNatClampNeg b) → Q 0 G23 := by
      intro b hb
      refine lm_out hm (fun G3 hm e3 => hQ _ _ ⟨hm.2.1.1.1, ?_⟩)
      rw [← mk_rd (G := G3) (m := m) (ℓ := ℓ)]
      refine sm_protect hm.2.1.1 hm.2.1.2.1 hw (fun hx' => ?_) (fun d' r' v' t' e1' d1' d2' e2' r2' ev' mv kv => ?_)
      · exact absurd (pos d r e1 d1 d2 e2 r2) hx'
      · have q_d : d = d' := n_inj (by omega) (by omega) (e1.symm.trans e1')
        subst q_d
        have q_r : r = r' := n_inj (by omega) (by omega) (e2.symm.trans e2')
        subst q_r
        have q_v : v = v' := ev.trans ev'.symm
        subst q_v
        exact tlb_z hm kv.sm.z mv (ok_ro hS v1) hL (fun _ => e3.trans hb) kk
    exact ⟨fun z => fin 0 (by rw [if_pos z]), fun z => fin 1 (by rw [if_neg z])⟩
theorem cs_feed {x1 x2 : Int32} (hq : LQ X n u sd k G g c a m ℓ o S L z) (hr : rX X G z) (hk : k ≤ 511) (kk : ∀ G', LI X n u (k + 1) G' g m o → K G') (hQ : ∀ r G', (gT G' m = (1, 11) ∧ wX10_feed X G' m x1 x2 (TL X m o r K P0)) → Q r G') : wL_feed X G g x1 x2 o Q := by
  have hS := hq.2.2.2.1
  have hL := hq.2.2.2.2.1
  have hlw : wfH L := hL.w (by omega)
  have hn1 : hn L + 1 < 2 ^ 20 := by have := hL.2.1; omega
  have pos : ∀ (x y : Nat), x1 = nI x → x ≤ 255 → x2 = nI y → y ≤ 1000 → (0 ≤ x1 ∧ x1 ≤ 255) ∧ 0 ≤ x2 ∧ x2 ≤ 1000 := fun x y e1 d1 e2 w1 => ⟨i_in (lo := 0) (hi := 255) e1 (Nat.zero_le _) d1 (by decide), i_in (lo := 0) (hi := 1000) e2 (Nat.zero_le _) w1 (by decide)⟩
  refine ⟨hq.1.1.1, fx_feed hq.1 hr hlw (fun hx G1 f => ⟨rfl, hQ _ _ ?_⟩) (fun x y G1 e1 h1 e2 h2 f => ?_)⟩
  · obtain ⟨sd', z', hm⟩ := lq_mid hq f
    refine ⟨hm.2.1.1.1, ?_⟩
    rw [← mk_rd (G := G1) (m := m) (ℓ := ℓ)]
    refine sm_feed hm.2.1.1 hm.2.1.2.2.1 hlw hn1 (fun hx' => ?_) (fun x' y' t' e1' h1' e2' h2' mh kh => ?_)
    · exact tl_z hm smZ_tT hm.2.1.2.1 hS hL.up (fun z => absurd z (by decide)) kk
    · exact absurd (pos x' y' e1' h1' e2' h2') hx
  · obtain ⟨sd', z', hm⟩ := lq_mid hq f
    refine lm_out hm (fun G3 hm e3 => hQ _ _ ⟨hm.2.1.1.1, ?_⟩)
    rw [← mk_rd (G := G3) (m := m) (ℓ := ℓ)]
    refine sm_feed hm.2.1.1 hm.2.1.2.2.1 hlw hn1 (fun hx' => ?_) (fun x' y' t' e1' h1' e2' h2' mh kh => ?_)
    · exact absurd (pos x y e1 h1 e2 h2) hx'
    · have q_x : x = x' := n_inj (by omega) (by omega) (e1.symm.trans e1')
      subst q_x
      have q_y : y = y' := n_inj (by omega) (by omega) (e2.symm.trans e2')
      subst q_y
      refine tl_h hm ?_ ?_ mh hS hL.fd (fun _ => e3) kk
      · rw [kh.2.1 354 (by decide), tS_uS, if_pos rfl]
      · rw [kh.1 0 (by decide) (by decide)]; exact hm.2.1.2.1
theorem cs_verdict {x1 : Int32} (hq : LQ X n u sd k G g c a m ℓ o S L z) (hr : rX X G z) (hk : k ≤ 511) (kk : ∀ G', LI X n u (k + 1) G' g m o → K G') (hQ : ∀ r G', (gT G' m = (1, 11) ∧ wX10_verdict X G' m x1 (TL X m o r K P0)) → Q r G') : wL_verdict X G g x1 o Q := by
  have hS := hq.2.2.2.1
  have hL := hq.2.2.2.2.1
  have hlw : wfH L := hL.w (by omega)
  have hn2 : hn L < 2 ^ 31 := by have := hL.2.1; omega
  have pos : ∀ (x : Nat), x1 = nI x → x < 10 → x < hn L → 0 ≤ x1 ∧ (x1 < 10 ∧ x1 < nI (hn L)) := fun x e1 d1 d2 => ⟨(i_inl e1 d1 (by decide)).1, (i_inl (b := 10) e1 d1 (by decide)).2, (i_inl e1 d2 hn2).2⟩
  refine ⟨hq.1.1.1, fx_verdict hq.1 hr hlw (fun hx G1 f => ⟨rfl, hQ _ _ ?_⟩) (fun h0 hx f => ?_) (fun x e1 h1 h2 f => ?_)⟩
  · obtain ⟨sd', z', hm⟩ := lq_mid hq f
    refine ⟨hm.2.1.1.1, ?_⟩
    rw [← mk_rd (G := G1) (m := m) (ℓ := ℓ)]
    refine sm_verdict hm.2.1.1 hm.2.1.2.2.1 hlw (fun hx' => ?_) (fun h0' hx' => ?_) (fun x' e1' h1' h2' => ?_)
    · exact tl_z hm smZ.rf hm.2.1.2.1 hS hL.up (fun z => absurd z (by decide)) kk
    · exact absurd h0' hx
    · exact absurd (pos x' e1' h1' h2').1 hx
  · obtain ⟨sd', z', hm⟩ := lq_mid hq f
    refine lm_out hm (fun G3 hm e3 => hQ _ _ ⟨hm.2.1.1.1, ?_⟩)
    rw [← mk_rd (G := G3) (m := m) (ℓ := ℓ)]
    refine sm_verdict hm.2.1.1 hm.2.1.2.2.1 hlw (fun hx' => ?_) (fun h0' hx' => ?_) (fun x' e1' h1' h2' => ?_)
    · exact absurd h0 hx'
    · exact tl_z hm smZ.rf hm.2.1.2.1 hS hL.up (fun _ => e3) kk
    · exact absurd (pos x' e1' h1' h2').2 hx
  · obtain ⟨sd', z', hm⟩ := lq_mid hq f
    refine lm_out hm (fun G3 hm e3 => hQ _ _ ⟨hm.2.1.1.1, ?_⟩)
    rw [← mk_rd (G := G3) (m := m) (ℓ := ℓ)]
    refine sm_verdict hm.2.1.1 hm.2.1.2.2.1 hlw (fun hx' => ?_) (fun h0' hx' => ?_) (fun x' e1' h1' h2' => ?_)
    · exact absurd (pos x e1 h1 h2).1 hx'
    · exact absurd (pos x e1 h1 h2).2 hx'
    · have q_x : x = x' := n_inj (by omega) (by omega) (e1.symm.trans e1')
      subst q_x
      exact tl_z hm smZ.rf hm.2.1.2.1 hS hL.up (fun _ => e3) kk
theorem cs_length {x1 : Int32} (hq : LQ X n u sd k G g c a m ℓ o S L z) (hr : rX X G z) (hk : k ≤ 511) (kk : ∀ G', LI X n u (k + 1) G' g m o → K G') (hQ : ∀ r G', (gT G' m = (1, 11) ∧ wX10_length X G' m x1 (TL X m o r K P0)) → Q r G') : wL_length X G g x1 o Q := by
  have hS := hq.2.2.2.1
  have hL := hq.2.2.2.2.1
  have hlw : wfH L := hL.w (by omega)
  have hn2 : hn L < 2 ^ 31 := by have := hL.2.1; omega
  have pos : ∀ (x : Nat), x1 = nI x → x < 10 → x < hn L → 0 ≤ x1 ∧ (x1 < 10 ∧ x1 < nI (hn L)) := fun x e1 d1 d2 => ⟨(i_inl e1 d1 (by decide)).1, (i_inl (b := 10) e1 d1 (by decide)).2, (i_inl e1 d2 hn2).2⟩
  refine ⟨hq.1.1.1, fx_length hq.1 hr hlw (fun hx G1 f => ⟨rfl, hQ _ _ ?_⟩) (fun h0 hx f => ?_) (fun x e1 h1 h2 f => ?_)⟩
  · obtain ⟨sd', z', hm⟩ := lq_mid hq f
    refine ⟨hm.2.1.1.1, ?_⟩
    rw [← mk_rd (G := G1) (m := m) (ℓ := ℓ)]
    refine sm_length hm.2.1.1 hm.2.1.2.2.1 hlw (fun hx' => ?_) (fun h0' hx' => ?_) (fun x' e1' h1' h2' => ?_)
    · exact tl_z hm smZ.rf hm.2.1.2.1 hS hL.up (fun z => absurd z (by decide)) kk
    · exact absurd h0' hx
    · exact absurd (pos x' e1' h1' h2').1 hx
  · obtain ⟨sd', z', hm⟩ := lq_mid hq f
    refine lm_out hm (fun G3 hm e3 => hQ _ _ ⟨hm.2.1.1.1, ?_⟩)
    rw [← mk_rd (G := G3) (m := m) (ℓ := ℓ)]
    refine sm_length hm.2.1.1 hm.2.1.2.2.1 hlw (fun hx' => ?_) (fun h0' hx' => ?_) (fun x' e1' h1' h2' => ?_)
    · exact absurd h0 hx'
    · exact tl_z hm smZ.rf hm.2.1.2.1 hS hL.up (fun _ => e3) kk
    · exact absurd (pos x' e1' h1' h2').2 hx
  · obtain ⟨sd', z', hm⟩ := lq_mid hq f
    refine lm_out hm (fun G3 hm e3 => hQ _ _ ⟨hm.2.1.1.1, ?_⟩)
    rw [← mk_rd (G := G3) (m := m) (ℓ := ℓ)]
    refine sm_length hm.2.1.1 hm.2.1.2.2.1 hlw (fun hx' => ?_) (fun h0' hx' => ?_) (fun x' e1' h1' h2' => ?_)
    · exact absurd (pos x e1 h1 h2).1 hx'
    · exact absurd (pos x e1 h1 h2).2 hx'
    · have q_x : x = x' := n_inj (by omega) (by omega) (e1.symm.trans e1')
      subst q_x
      exact tl_z hm smZ.rf hm.2.1.2.1 hS hL.up (fun _ => e3) kk
/-- both answer alike -/
theorem eq_k {α : Type} {r : α} {G' : Gt} (h : K G') : (r = r → K G') ∧ (¬ (r = r) → P0 G') := ⟨fun _ => h, fun z => absurd rfl z⟩
theorem lg_k {r : Int64} {G' : Gt} (h : K G') : (lg_cmp r r = 0 → K G') ∧ (¬ (lg_cmp r r = 0) → P0 G') := ⟨fun _ => h, fun z => absurd (lgc r) z⟩
theorem cs_step (hq : LQ X n u sd k G g c a m ℓ o S L z) (hr : rX X G z) (kk : ∀ G', LI X n u (k + 1) G' g m o → K G') : gT G g = (1, 10) ∧ wX9_step X G g (fun r G' => gT G' m = (1, 11) ∧ wX10_step X G' m (fun r' G'' => (r = r' → K G'') ∧ (¬ (r = r') → P0 G''))) noX := by
  have hS := hq.2.2.2.1
  refine ⟨hq.1.1.1, fx_step hq.1 hr hS.1 hS.2.1 (fun G1 f => ?_)⟩
  obtain ⟨sd', z', hm⟩ := lq_mid hq f
  refine ⟨hm.2.1.1.1, ?_⟩
  rw [← mk_rd (G := G1) (m := m) (ℓ := ℓ)]
  exact sm_step hm.2.1.1 hm.2.1.2.1 hS.1 hS.2.1 (fun t' mv kv => eq_k (kk _ (lm_fz hm kv.z mv (ok_step hS) hq.2.2.2.2.1.up)))
theorem cs_finish (hq : LQ X n u sd k G g c a m ℓ o S L z) (hr : rX X G z) (kk : ∀ G', LI X n u (k + 1) G' g m o → K G') : gT G g = (1, 10) ∧ wX9_finish X G g (fun r G' => gT G' m = (1, 11) ∧ wX10_finish X G' m (fun r' G'' => (r = r' → K G'') ∧ (¬ (r = r') → P0 G''))) noX := by
  have hS := hq.2.2.2.1
  refine ⟨hq.1.1.1, fx_finish hq.1 hr hS.1 hS.2.1 (fun G1 f => ?_)⟩
  obtain ⟨sd', z', hm⟩ := lq_mid hq f
  refine ⟨hm.2.1.1.1, ?_⟩
  rw [← mk_rd (G := G1) (m := m) (ℓ := ℓ)]
  exact sm_finish hm.2.1.1 hm.2.1.2.1 hS.1 hS.2.1 (fun t' mv kv => eq_k (kk _ (lm_fz hm kv.z mv (ok_all hS) hq.2.2.2.2.1.up)))
theorem cs_time (hq : LQ X n u sd k G g c a m ℓ o S L z) (kk : ∀ G', LI X n u (k + 1) G' g m o → K G') : gT G g = (1, 10) ∧ wX9_time X G g (fun r G' => gT G' m = (1, 11) ∧ wX10_time X G' m (fun r' G'' => (r = r' → K G'') ∧ (¬ (r = r') → P0 G''))) := by
  have hS := hq.2.2.2.1
  refine ⟨hq.1.1.1, fx_time hq.1 (fun f => ?_)⟩
  obtain ⟨sd', z', hm⟩ := lq_mid hq f
  refine ⟨hm.2.1.1.1, ?_⟩
  rw [← mk_rd (G := G) (m := m) (ℓ := ℓ)]
  exact sm_time hm.2.1.1 hm.2.1.2.1 (eq_k (kk _ (lm_fz hm smZ.rf hm.2.1.2.1 hS hq.2.2.2.2.1.up)))
theorem cs_group (hq : LQ X n u sd k G g c a m ℓ o S L z) (kk : ∀ G', LI X n u (k + 1) G' g m o → K G') : gT G g = (1, 10) ∧ wX9_group X G g (fun r G' => gT G' m = (1, 11) ∧ wX10_group X G' m (fun r' G'' => (lg_cmp r r' = 0 → K G'') ∧ (¬ (lg_cmp r r' = 0) → P0 G''))) noX := by
  have hS := hq.2.2.2.1
  have ht : zn S 0 < 2 ^ 30 := by have := bd_t hS.1 hS.2.1; omega
  refine ⟨hq.1.1.1, fx_group hq.1 hS.1 ht (fun G1 f => ?_)⟩
  obtain ⟨sd', z', hm⟩ := lq_mid hq f
  refine ⟨hm.2.1.1.1, ?_⟩
  rw [← mk_rd (G := G1) (m := m) (ℓ := ℓ)]
  exact sm_group hm.2.1.1 hm.2.1.2.1 hS.1 ht (fun t' e kv => lg_k (kk _ (lm_fz hm kv.z (by rw [e 0]; exact hm.2.1.2.1) hS hq.2.2.2.2.1.up)))
theorem cs_clearCache (hq : LQ X n u sd k G g c a m ℓ o S L z) (kk : ∀ G', LI X n u (k + 1) G' g m o → K G') : gT G g = (1, 10) ∧ wX9_clearCache X G g (fun r G' => gT G' m = (1, 11) ∧ wX10_clearCache X G' m (fun r' G'' => (r = r' → K G'') ∧ (¬ (r = r') → P0 G''))) := by
  have hS := hq.2.2.2.1
  refine ⟨hq.1.1.1, fx_clearCache hq.1 hS.1 (fun G1 f => ?_)⟩
  obtain ⟨sd', z', hm⟩ := lq_mid hq f
  refine ⟨hm.2.1.1.1, ?_⟩
  rw [← mk_rd (G := G1) (m := m) (ℓ := ℓ)]
  exact sm_clearCache hm.2.1.1 hm.2.1.2.1 hS.1 (fun t' mv kv => eq_k (kk _ (lm_fz hm kv.sm.z mv (ok_clear hS) hq.2.2.2.2.1.up)))
theorem cs_endFrame (hq : LQ X n u sd k G g c a m ℓ o S L z) (hk : k ≤ 511) (kk : ∀ G', LI X n u (k + 1) G' g m o → K G') : gT G g = (1, 10) ∧ wX9_endFrame X G g (fun r G' => gT G' m = (1, 11) ∧ wX10_endFrame X G' m (fun r' G'' => (r = r' → K G'') ∧ (¬ (r = r') → P0 G''))) := by
  have hS := hq.2.2.2.1
  have hL := hq.2.2.2.2.1
  have hlw : wfH L := hL.w (by omega)
  refine ⟨hq.1.1.1, fx_endFrame hq.1 hlw (fun G1 f => ?_)⟩
  obtain ⟨sd', z', hm⟩ := lq_mid hq f
  refine ⟨hm.2.1.1.1, ?_⟩
  rw [← mk_rd (G := G1) (m := m) (ℓ := ℓ)]
  exact sm_endFrame hm.2.1.1 hm.2.1.2.2.1 hlw (fun t' mh kh => eq_k (kk _ (hm.fin (by rw [kh.1 0 (by decide) (by decide)]; exact hm.2.1.2.1) mh hS hL.cl)))
theorem cs_checksum (hq : LQ X n u sd k G g c a m ℓ o S L z) (kk : ∀ G', LI X n u (k + 1) G' g m o → K G') : gT G g = (1, 10) ∧ wX9_checksum X G g (fun r G' => gT G' m = (1, 11) ∧ wX10_checksum X G' m (fun r' G'' => (r = r' → K G'') ∧ (¬ (r = r') → P0 G''))) := by
  have hS := hq.2.2.2.1
  refine ⟨hq.1.1.1, fx_checksum hq.1 (fun f => ?_)⟩
  obtain ⟨sd', z', hm⟩ := lq_mid hq f
  refine ⟨hm.2.1.1.1, ?_⟩
  rw [← mk_rd (G := G) (m := m) (ℓ := ℓ)]
  exact sm_checksum hm.2.1.1 hm.2.1.2.2.1 (eq_k (kk _ (lm_fz hm smZ.rf hm.2.1.2.1 hS hq.2.2.2.2.1.up)))
theorem cs_fingerprint (hq : LQ X n u sd k G g c a m ℓ o S L z) (hr : rX X G z) (kk : ∀ G', LI X n u (k + 1) G' g m o → K G') : gT G g = (1, 10) ∧ wX9_fingerprint X G g (fun r G' => gT G' m = (1, 11) ∧ wX10_fingerprint X G' m (fun r' G'' => (lg_cmp r r' = 0 → K G'') ∧ (¬ (lg_cmp r r' = 0) → P0 G''))) noX := by
  have hS := hq.2.2.2.1
  refine ⟨hq.1.1.1, fx_fingerprint hq.1 hr hS.1 (fun f => ?_)⟩
  obtain ⟨sd', z', hm⟩ := lq_mid hq f
  refine ⟨hm.2.1.1.1, ?_⟩
  rw [← mk_rd (G := G) (m := m) (ℓ := ℓ)]
  exact sm_fingerprint hm.2.1.1 hm.2.1.2.1 hS.1 (lg_k (kk _ (lm_fz hm smZ.rf hm.2.1.2.1 hS hq.2.2.2.2.1.up)))
end CASES2
