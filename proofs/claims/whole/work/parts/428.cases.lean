/-! ===== the law's cases: calls that may throw (written by wip/whole/mkcases.py) ===== -/
theorem i_in {x : Int32} {lo hi n : Nat} (e : x = nI n) (h1 : lo ≤ n) (h2 : n ≤ hi) (h3 : hi < 2 ^ 31) : nI lo ≤ x ∧ x ≤ nI hi := by rw [e]; exact ⟨(n_le (by omega) (by omega)).mpr h1, (n_le (by omega) h3).mpr h2⟩
theorem i_inl {x : Int32} {n b : Nat} (e : x = nI n) (h2 : n < b) (h3 : b < 2 ^ 31) : 0 ≤ x ∧ x < nI b := by rw [e]; exact ⟨(n_le (a := 0) (by decide) (by omega)).mpr (Nat.zero_le _), (n_lt (by omega) h3).mpr h2⟩
theorem hiS_lt {i : Nat} : hiS i < 2 ^ 31 := by unfold hiS; (repeat' split) <;> decide
section CASES
variable {X : Xt} {sd : Nat → Nat} {G : Gt} {g c a z n u k m o : Nat} {ℓ : Nat → Nat} {S : St} {L : Hr} {K P0 : Gt → Prop} {Q : Int32 → Gt → Prop}
theorem cs_set {x1 x2 : Int32} (hq : LQ X n u sd k G g c a m ℓ o S L z) (hr : rX X G z) (hk : k ≤ 511) (kk : ∀ G', LI X n u (k + 1) G' g m o → K G') (hQ : ∀ r G', (gT G' m = (1, 11) ∧ wX10_set X G' m x1 x2 (TL X m o r K P0)) → Q r G') : wL_set X G g x1 x2 o Q := by
  have hS := hq.2.2.2.1
  have hL := hq.2.2.2.2.1.up
  have hw := hS.1
  have hb := hS.2.1
  have h6 : ∀ d, (zfl S d).length ≤ 6 := fun d => (hw.2.1 d).2.2.2.2.1
  have s6 : zn S 6 ≤ 40 := hw.1.2.2.2.2.2.2.1
  have hbt := bd_t hw hb
  have ht : zn S 0 < 2 ^ 30 := by omega
  refine ⟨hq.1.1.1, fx_set hq.1 hr (fun hx G1 f => Or.inl ⟨rfl, hQ _ _ ?_⟩) (fun i e1 hi hx G1 f => Or.inr ⟨rfl, hQ _ _ ?_⟩) (fun i v G1 e1 hi e2 v1 v2 f => ?_)⟩
  · obtain ⟨sd', z', hm⟩ := lq_mid hq f
    refine ⟨hm.2.1.1.1, ?_⟩
    rw [← mk_rd (G := G1) (m := m) (ℓ := ℓ)]
    refine sm_set hm.2.1.1 hm.2.1.2.1 (fun hx' => ?_) (fun i' e1' hi' hx' => ?_) (fun i' v' t' e1' hi' e2' v1' v2' mv kv => ?_)
    · exact tl_z hm smZ_tT hm.2.1.2.1 hS hL (fun z => absurd z (by decide)) kk
    · exact absurd (i_in (lo := 0) (hi := 4) e1' (by omega) (by omega) (by decide)) hx
    · exact absurd (i_in (lo := 0) (hi := 4) e1' (by omega) (by omega) (by decide)) hx
  · obtain ⟨sd', z', hm⟩ := lq_mid hq f
    refine ⟨hm.2.1.1.1, ?_⟩
    rw [← mk_rd (G := G1) (m := m) (ℓ := ℓ)]
    refine sm_set hm.2.1.1 hm.2.1.2.1 (fun hx' => ?_) (fun i' e1' hi' hx' => ?_) (fun i' v' t' e1' hi' e2' v1' v2' mv kv => ?_)
    · exact absurd (i_in (lo := 0) (hi := 4) e1 (by omega) (by omega) (by decide)) hx'
    · have q_i : i = i' := n_inj (by omega) (by omega) (e1.symm.trans e1')
      subst q_i
      exact tl_z hm smZ_tT hm.2.1.2.1 hS hL (fun z => absurd z (by decide)) kk
    · have q_i : i = i' := n_inj (by omega) (by omega) (e1.symm.trans e1')
      subst q_i
      exact absurd (i_in (lo := loS i) (hi := hiS i) e2' v1' v2' hiS_lt) hx
  · obtain ⟨sd', z', hm⟩ := lq_mid hq f
    refine lm_out hm (fun G3 hm e3 => hQ _ _ ⟨hm.2.1.1.1, ?_⟩)
    rw [← mk_rd (G := G3) (m := m) (ℓ := ℓ)]
    refine sm_set hm.2.1.1 hm.2.1.2.1 (fun hx' => ?_) (fun i' e1' hi' hx' => ?_) (fun i' v' t' e1' hi' e2' v1' v2' mv kv => ?_)
    · exact absurd (i_in (lo := 0) (hi := 4) e1 (by omega) (by omega) (by decide)) hx'
    · have q_i : i = i' := n_inj (by omega) (by omega) (e1.symm.trans e1')
      subst q_i
      exact absurd (i_in (lo := loS i) (hi := hiS i) e2 v1 v2 hiS_lt) hx'
    · have q_i : i = i' := n_inj (by omega) (by omega) (e1.symm.trans e1')
      subst q_i
      have hh : hiS i < 2 ^ 31 := hiS_lt
      have q_v : v = v' := n_inj (by omega) (by omega) (e2.symm.trans e2')
      subst q_v
      exact tl_z hm kv.sm.z mv (ok_set hS hi v1 v2) hL (fun _ => e3) kk
theorem cs_poke {x1 x2 x3 : Int32} (hq : LQ X n u sd k G g c a m ℓ o S L z) (hr : rX X G z) (hk : k ≤ 511) (kk : ∀ G', LI X n u (k + 1) G' g m o → K G') (hQ : ∀ r G', (gT G' m = (1, 11) ∧ wX10_poke X G' m x1 x2 x3 (TL X m o r K P0)) → Q r G') : wL_poke X G g x1 x2 x3 o Q := by
  have hS := hq.2.2.2.1
  have hL := hq.2.2.2.2.1.up
  have hw := hS.1
  have hb := hS.2.1
  have h6 : ∀ d, (zfl S d).length ≤ 6 := fun d => (hw.2.1 d).2.2.2.2.1
  have s6 : zn S 6 ≤ 40 := hw.1.2.2.2.2.2.2.1
  have hbt := bd_t hw hb
  have ht : zn S 0 < 2 ^ 30 := by omega
  refine ⟨hq.1.1.1, fx_poke hq.1 hr (fun hx G1 f => Or.inl ⟨rfl, hQ _ _ ?_⟩) (fun d r e1 d1 d2 e2 r2 hx G1 f => Or.inr ⟨rfl, hQ _ _ ?_⟩) (fun d r v G1 e1 d1 d2 e2 r2 ev v2 f => ?_)⟩
  · obtain ⟨sd', z', hm⟩ := lq_mid hq f
    refine ⟨hm.2.1.1.1, ?_⟩
    rw [← mk_rd (G := G1) (m := m) (ℓ := ℓ)]
    refine sm_poke hm.2.1.1 hm.2.1.2.1 h6 (fun hx' => ?_) (fun d' r' e1' d1' d2' e2' r2' hx' => ?_) (fun d' r' v' t' e1' d1' d2' e2' r2' ev' v2' mv kv => ?_)
    · exact tl_z hm smZ_tT hm.2.1.2.1 hS hL (fun z => absurd z (by decide)) kk
    · exact absurd (⟨i_in (lo := 1) (hi := 3) e1' d1' d2' (by decide), i_in (lo := 0) (hi := 31) e2' (by omega) (by omega) (by decide)⟩ : (1 ≤ x1 ∧ x1 ≤ 3) ∧ 0 ≤ x2 ∧ x2 ≤ 31) hx
    · exact absurd (⟨i_in (lo := 1) (hi := 3) e1' d1' d2' (by decide), i_in (lo := 0) (hi := 31) e2' (by omega) (by omega) (by decide)⟩ : (1 ≤ x1 ∧ x1 ≤ 3) ∧ 0 ≤ x2 ∧ x2 ≤ 31) hx
  · obtain ⟨sd', z', hm⟩ := lq_mid hq f
    refine ⟨hm.2.1.1.1, ?_⟩
    rw [← mk_rd (G := G1) (m := m) (ℓ := ℓ)]
    refine sm_poke hm.2.1.1 hm.2.1.2.1 h6 (fun hx' => ?_) (fun d' r' e1' d1' d2' e2' r2' hx' => ?_) (fun d' r' v' t' e1' d1' d2' e2' r2' ev' v2' mv kv => ?_)
    · exact absurd (⟨i_in (lo := 1) (hi := 3) e1 d1 d2 (by decide), i_in (lo := 0) (hi := 31) e2 (by omega) (by omega) (by decide)⟩ : (1 ≤ x1 ∧ x1 ≤ 3) ∧ 0 ≤ x2 ∧ x2 ≤ 31) hx'
    · have q_d : d = d' := n_inj (by omega) (by omega) (e1.symm.trans e1')
      subst q_d
      have q_r : r = r' := n_inj (by omega) (by omega) (e2.symm.trans e2')
      subst q_r
      exact tl_z hm smZ_tT hm.2.1.2.1 hS hL (fun z => absurd z (by decide)) kk
    · have q_d : d = d' := n_inj (by omega) (by omega) (e1.symm.trans e1')
      subst q_d
      have q_r : r = r' := n_inj (by omega) (by omega) (e2.symm.trans e2')
      subst q_r
      exact absurd (i_in (lo := 0) (hi := 65535) ev' (by omega) (by omega) (by decide)) hx
  · obtain ⟨sd', z', hm⟩ := lq_mid hq f
    refine lm_out hm (fun G3 hm e3 => hQ _ _ ⟨hm.2.1.1.1, ?_⟩)
    rw [← mk_rd (G := G3) (m := m) (ℓ := ℓ)]
    refine sm_poke hm.2.1.1 hm.2.1.2.1 h6 (fun hx' => ?_) (fun d' r' e1' d1' d2' e2' r2' hx' => ?_) (fun d' r' v' t' e1' d1' d2' e2' r2' ev' v2' mv kv => ?_)
    · exact absurd (⟨i_in (lo := 1) (hi := 3) e1 d1 d2 (by decide), i_in (lo := 0) (hi := 31) e2 (by omega) (by omega) (by decide)⟩ : (1 ≤ x1 ∧ x1 ≤ 3) ∧ 0 ≤ x2 ∧ x2 ≤ 31) hx'
    · have q_d : d = d' := n_inj (by omega) (by omega) (e1.symm.trans e1')
      subst q_d
      have q_r : r = r' := n_inj (by omega) (by omega) (e2.symm.trans e2')
      subst q_r
      exact absurd (i_in (lo := 0) (hi := 65535) ev (by omega) (by omega) (by decide)) hx'
    · have q_d : d = d' := n_inj (by omega) (by omega) (e1.symm.trans e1')
      subst q_d
      have q_r : r = r' := n_inj (by omega) (by omega) (e2.symm.trans e2')
      subst q_r
      have q_v : v = v' := n_inj (by omega) (by omega) (ev.symm.trans ev')
      subst q_v
      exact tl_z hm kv.sm.z mv (ok_rg hS v2) hL (fun _ => e3) kk
theorem cs_peek {x1 x2 : Int32} (hq : LQ X n u sd k G g c a m ℓ o S L z) (hr : rX X G z) (hk : k ≤ 511) (kk : ∀ G', LI X n u (k + 1) G' g m o → K G') (hQ : ∀ r G', (gT G' m = (1, 11) ∧ wX10_peek X G' m x1 x2 (TL X m o r K P0)) → Q r G') : wL_peek X G g x1 x2 o Q := by
  have hS := hq.2.2.2.1
  have hL := hq.2.2.2.2.1.up
  have hw := hS.1
  have hb := hS.2.1
  have h6 : ∀ d, (zfl S d).length ≤ 6 := fun d => (hw.2.1 d).2.2.2.2.1
  have s6 : zn S 6 ≤ 40 := hw.1.2.2.2.2.2.2.1
  have hbt := bd_t hw hb
  have ht : zn S 0 < 2 ^ 30 := by omega
  refine ⟨hq.1.1.1, fx_peek hq.1 hr (fun hx G1 f => ⟨rfl, hQ _ _ ?_⟩) (fun d r e1 d1 d2 e2 r2 f => ?_)⟩
  · obtain ⟨sd', z', hm⟩ := lq_mid hq f
    refine ⟨hm.2.1.1.1, ?_⟩
    rw [← mk_rd (G := G1) (m := m) (ℓ := ℓ)]
    refine sm_peek hm.2.1.1 hm.2.1.2.1 (fun hx' => ?_) (fun d' r' e1' d1' d2' e2' r2' => ?_)
    · exact tl_z hm smZ_tT hm.2.1.2.1 hS hL (fun z => absurd z (by decide)) kk
    · exact absurd (⟨i_in (lo := 1) (hi := 3) e1' d1' d2' (by decide), i_in (lo := 0) (hi := 31) e2' (by omega) (by omega) (by decide)⟩ : (1 ≤ x1 ∧ x1 ≤ 3) ∧ 0 ≤ x2 ∧ x2 ≤ 31) hx
  · obtain ⟨sd', z', hm⟩ := lq_mid hq f
    refine lm_out hm (fun G3 hm e3 => hQ _ _ ⟨hm.2.1.1.1, ?_⟩)
    rw [← mk_rd (G := G3) (m := m) (ℓ := ℓ)]
    refine sm_peek hm.2.1.1 hm.2.1.2.1 (fun hx' => ?_) (fun d' r' e1' d1' d2' e2' r2' => ?_)
    · exact absurd (⟨i_in (lo := 1) (hi := 3) e1 d1 d2 (by decide), i_in (lo := 0) (hi := 31) e2 (by omega) (by omega) (by decide)⟩ : (1 ≤ x1 ∧ x1 ≤ 3) ∧ 0 ≤ x2 ∧ x2 ≤ 31) hx'
    · have q_d : d = d' := n_inj (by omega) (by omega) (e1.symm.trans e1')
      subst q_d
      have q_r : r = r' := n_inj (by omega) (by omega) (e2.symm.trans e2')
      subst q_r
      exact tl_z hm smZ.rf hm.2.1.2.1 hS hL (fun _ => e3) kk
theorem cs_fault {x1 x2 x3 : Int32} (hq : LQ X n u sd k G g c a m ℓ o S L z) (hr : rX X G z) (hk : k ≤ 511) (kk : ∀ G', LI X n u (k + 1) G' g m o → K G') (hQ : ∀ r G', (gT G' m = (1, 11) ∧ wX10_fault X G' m x1 x2 x3 (TL X m o r K P0)) → Q r G') : wL_fault X G g x1 x2 x3 o Q := by
  have hS := hq.2.2.2.1
  have hL := hq.2.2.2.2.1.up
  have hw := hS.1
  have hb := hS.2.1
  have h6 : ∀ d, (zfl S d).length ≤ 6 := fun d => (hw.2.1 d).2.2.2.2.1
  have s6 : zn S 6 ≤ 40 := hw.1.2.2.2.2.2.2.1
  have hbt := bd_t hw hb
  have ht : zn S 0 < 2 ^ 30 := by omega
  refine ⟨hq.1.1.1, fx_fault hq.1 hr (fun hx G1 f => Or.inl ⟨rfl, hQ _ _ ?_⟩) (fun d e1 d1 d2 hx G1 f => Or.inr (Or.inl ⟨rfl, hQ _ _ ?_⟩)) (fun d w b e1 d1 d2 e2 b1 b2 e3x b4 hf G1 f => Or.inr (Or.inr ⟨rfl, hQ _ _ ?_⟩)) (fun d w b G1 e1 d1 d2 e2 b1 b2 e3x b4 hf f => ?_)⟩
  · obtain ⟨sd', z', hm⟩ := lq_mid hq f
    refine ⟨hm.2.1.1.1, ?_⟩
    rw [← mk_rd (G := G1) (m := m) (ℓ := ℓ)]
    refine sm_fault hm.2.1.1 hm.2.1.2.1 hw (fun hx' => ?_) (fun d' e1' d1' d2' hx' => ?_) (fun d' w' b' e1' d1' d2' e2' b1' b2' e3x' b4' hf' => ?_) (fun d' w' b' t' e1' d1' d2' e2' b1' b2' e3x' b4' hf' mv kv => ?_)
    · exact tl_z hm smZ_tT hm.2.1.2.1 hS hL (fun z => absurd z (by decide)) kk
    · exact absurd (i_in (lo := 1) (hi := 3) e1' (by omega) (by omega) (by decide)) hx
    · exact absurd (i_in (lo := 1) (hi := 3) e1' (by omega) (by omega) (by decide)) hx
    · exact absurd (i_in (lo := 1) (hi := 3) e1' (by omega) (by omega) (by decide)) hx
  · obtain ⟨sd', z', hm⟩ := lq_mid hq f
    refine ⟨hm.2.1.1.1, ?_⟩
    rw [← mk_rd (G := G1) (m := m) (ℓ := ℓ)]
    refine sm_fault hm.2.1.1 hm.2.1.2.1 hw (fun hx' => ?_) (fun d' e1' d1' d2' hx' => ?_) (fun d' w' b' e1' d1' d2' e2' b1' b2' e3x' b4' hf' => ?_) (fun d' w' b' t' e1' d1' d2' e2' b1' b2' e3x' b4' hf' mv kv => ?_)
    · exact absurd (i_in (lo := 1) (hi := 3) e1 (by omega) (by omega) (by decide)) hx'
    · have q_d : d = d' := n_inj (by omega) (by omega) (e1.symm.trans e1')
      subst q_d
      exact tl_z hm smZ_tT hm.2.1.2.1 hS hL (fun z => absurd z (by decide)) kk
    · have q_d : d = d' := n_inj (by omega) (by omega) (e1.symm.trans e1')
      subst q_d
      exact absurd (⟨i_in (lo := 1) (hi := 4) e2' b1' b2' (by decide), i_in (lo := 0) (hi := 2000) e3x' (by omega) (by omega) (by decide)⟩ : (1 ≤ x2 ∧ x2 ≤ 4) ∧ 0 ≤ x3 ∧ x3 ≤ 2000) hx
    · have q_d : d = d' := n_inj (by omega) (by omega) (e1.symm.trans e1')
      subst q_d
      exact absurd (⟨i_in (lo := 1) (hi := 4) e2' b1' b2' (by decide), i_in (lo := 0) (hi := 2000) e3x' (by omega) (by omega) (by decide)⟩ : (1 ≤ x2 ∧ x2 ≤ 4) ∧ 0 ≤ x3 ∧ x3 ≤ 2000) hx
  · obtain ⟨sd', z', hm⟩ := lq_mid hq f
    refine ⟨hm.2.1.1.1, ?_⟩
    rw [← mk_rd (G := G1) (m := m) (ℓ := ℓ)]
    refine sm_fault hm.2.1.1 hm.2.1.2.1 hw (fun hx' => ?_) (fun d' e1' d1' d2' hx' => ?_) (fun d' w' b' e1' d1' d2' e2' b1' b2' e3x' b4' hf' => ?_) (fun d' w' b' t' e1' d1' d2' e2' b1' b2' e3x' b4' hf' mv kv => ?_)
    · exact absurd (i_in (lo := 1) (hi := 3) e1 (by omega) (by omega) (by decide)) hx'
    · have q_d : d = d' := n_inj (by omega) (by omega) (e1.symm.trans e1')
      subst q_d
      exact absurd (⟨i_in (lo := 1) (hi := 4) e2 b1 b2 (by decide), i_in (lo := 0) (hi := 2000) e3x (by omega) (by omega) (by decide)⟩ : (1 ≤ x2 ∧ x2 ≤ 4) ∧ 0 ≤ x3 ∧ x3 ≤ 2000) hx'
    · have q_d : d = d' := n_inj (by omega) (by omega) (e1.symm.trans e1')
      subst q_d
      have q_w : w = w' := n_inj (by omega) (by omega) (e2.symm.trans e2')
      subst q_w
      have q_b : b = b' := n_inj (by omega) (by omega) (e3x.symm.trans e3x')
      subst q_b
      exact tl_z hm smZ_tT hm.2.1.2.1 hS hL (fun z => absurd z (by decide)) kk
    · have q_d : d = d' := n_inj (by omega) (by omega) (e1.symm.trans e1')
      subst q_d
      have q_w : w = w' := n_inj (by omega) (by omega) (e2.symm.trans e2')
      subst q_w
      have q_b : b = b' := n_inj (by omega) (by omega) (e3x.symm.trans e3x')
      subst q_b
      exact absurd hf (by omega)
  · obtain ⟨sd', z', hm⟩ := lq_mid hq f
    refine lm_out hm (fun G3 hm e3 => hQ _ _ ⟨hm.2.1.1.1, ?_⟩)
    rw [← mk_rd (G := G3) (m := m) (ℓ := ℓ)]
    refine sm_fault hm.2.1.1 hm.2.1.2.1 hw (fun hx' => ?_) (fun d' e1' d1' d2' hx' => ?_) (fun d' w' b' e1' d1' d2' e2' b1' b2' e3x' b4' hf' => ?_) (fun d' w' b' t' e1' d1' d2' e2' b1' b2' e3x' b4' hf' mv kv => ?_)
    · exact absurd (i_in (lo := 1) (hi := 3) e1 (by omega) (by omega) (by decide)) hx'
    · have q_d : d = d' := n_inj (by omega) (by omega) (e1.symm.trans e1')
      subst q_d
      exact absurd (⟨i_in (lo := 1) (hi := 4) e2 b1 b2 (by decide), i_in (lo := 0) (hi := 2000) e3x (by omega) (by omega) (by decide)⟩ : (1 ≤ x2 ∧ x2 ≤ 4) ∧ 0 ≤ x3 ∧ x3 ≤ 2000) hx'
    · have q_d : d = d' := n_inj (by omega) (by omega) (e1.symm.trans e1')
      subst q_d
      have q_w : w = w' := n_inj (by omega) (by omega) (e2.symm.trans e2')
      subst q_w
      have q_b : b = b' := n_inj (by omega) (by omega) (e3x.symm.trans e3x')
      subst q_b
      exact absurd hf (by omega)
    · have q_d : d = d' := n_inj (by omega) (by omega) (e1.symm.trans e1')
      subst q_d
      have q_w : w = w' := n_inj (by omega) (by omega) (e2.symm.trans e2')
      subst q_w
      have q_b : b = b' := n_inj (by omega) (by omega) (e3x.symm.trans e3x')
      subst q_b
      exact tl_z hm kv.sm.z mv (ok_fl hS hf ⟨b1, b2⟩ b4) hL (fun _ => e3) kk
theorem cs_read {x1 x2 x3 x4 : Int32} (hq : LQ X n u sd k G g c a m ℓ o S L z) (hr : rX X G z) (hk : k ≤ 511) (kk : ∀ G', LI X n u (k + 1) G' g m o → K G') (hQ : ∀ r G', (gT G' m = (1, 11) ∧ wX10_read X G' m x1 x2 x3 x4 (TL X m o r K P0)) → Q r G') : wL_read X G g x1 x2 x3 x4 o Q := by
  have hS := hq.2.2.2.1
  have hL := hq.2.2.2.2.1.up
  have hw := hS.1
  have hb := hS.2.1
  have h6 : ∀ d, (zfl S d).length ≤ 6 := fun d => (hw.2.1 d).2.2.2.2.1
  have s6 : zn S 6 ≤ 40 := hw.1.2.2.2.2.2.2.1
  have hbt := bd_t hw hb
  have ht : zn S 0 < 2 ^ 30 := by omega
  refine ⟨hq.1.1.1, fx_read hq.1 hr hw (fun hx G1 f => Or.inl ⟨rfl, hQ _ _ ?_⟩) (fun cl d e1 c1 e2 d1 d2 hx G1 f => Or.inr (Or.inl ⟨rfl, hQ _ _ ?_⟩)) (fun cl d s w e1 c1 e2 d1 d2 es s2 ew w1 w2 hf G1 f => Or.inr (Or.inr ⟨rfl, hQ _ _ ?_⟩)) (fun cl d s w G1 e1 c1 e2 d1 d2 es s2 ew w1 w2 hf f => ?_)⟩
  · obtain ⟨sd', z', hm⟩ := lq_mid hq f
    refine ⟨hm.2.1.1.1, ?_⟩
    rw [← mk_rd (G := G1) (m := m) (ℓ := ℓ)]
    refine sm_read hm.2.1.1 hm.2.1.2.1 hw (fun hx' => ?_) (fun cl' d' e1' c1' e2' d1' d2' hx' => ?_) (fun cl' d' s' w' e1' c1' e2' d1' d2' es' s2' ew' w1' w2' hf' => ?_) (fun cl' d' s' w' t' e1' c1' e2' d1' d2' es' s2' ew' w1' w2' hf' mv kv => ?_)
    · exact tl_z hm smZ.rf hm.2.1.2.1 hS hL (fun z => absurd z (by decide)) kk
    · exact absurd (⟨i_in (lo := 0) (hi := 3) e1' (by omega) (by omega) (by decide), i_in (lo := 1) (hi := 3) e2' d1' d2' (by decide)⟩ : (0 ≤ x1 ∧ x1 ≤ 3) ∧ 1 ≤ x2 ∧ x2 ≤ 3) hx
    · exact absurd (⟨i_in (lo := 0) (hi := 3) e1' (by omega) (by omega) (by decide), i_in (lo := 1) (hi := 3) e2' d1' d2' (by decide)⟩ : (0 ≤ x1 ∧ x1 ≤ 3) ∧ 1 ≤ x2 ∧ x2 ≤ 3) hx
    · exact absurd (⟨i_in (lo := 0) (hi := 3) e1' (by omega) (by omega) (by decide), i_in (lo := 1) (hi := 3) e2' d1' d2' (by decide)⟩ : (0 ≤ x1 ∧ x1 ≤ 3) ∧ 1 ≤ x2 ∧ x2 ≤ 3) hx
  · obtain ⟨sd', z', hm⟩ := lq_mid hq f
    refine ⟨hm.2.1.1.1, ?_⟩
    rw [← mk_rd (G := G1) (m := m) (ℓ := ℓ)]
    refine sm_read hm.2.1.1 hm.2.1.2.1 hw (fun hx' => ?_) (fun cl' d' e1' c1' e2' d1' d2' hx' => ?_) (fun cl' d' s' w' e1' c1' e2' d1' d2' es' s2' ew' w1' w2' hf' => ?_) (fun cl' d' s' w' t' e1' c1' e2' d1' d2' es' s2' ew' w1' w2' hf' mv kv => ?_)
    · exact absurd (⟨i_in (lo := 0) (hi := 3) e1 (by omega) (by omega) (by decide), i_in (lo := 1) (hi := 3) e2 d1 d2 (by decide)⟩ : (0 ≤ x1 ∧ x1 ≤ 3) ∧ 1 ≤ x2 ∧ x2 ≤ 3) hx'
    · have q_cl : cl = cl' := n_inj (by omega) (by omega) (e1.symm.trans e1')
      subst q_cl
      have q_d : d = d' := n_inj (by omega) (by omega) (e2.symm.trans e2')
      subst q_d
      exact tl_z hm smZ.rf hm.2.1.2.1 hS hL (fun z => absurd z (by decide)) kk
    · have q_cl : cl = cl' := n_inj (by omega) (by omega) (e1.symm.trans e1')
      subst q_cl
      have q_d : d = d' := n_inj (by omega) (by omega) (e2.symm.trans e2')
      subst q_d
      exact absurd (⟨i_in (lo := 0) (hi := 1000) es' (by omega) (by omega) (by decide), i_in (lo := 1) (hi := 16) ew' (by omega) (by omega) (by decide)⟩ : (0 ≤ x3 ∧ x3 ≤ 1000) ∧ 1 ≤ x4 ∧ x4 ≤ 16) hx
    · have q_cl : cl = cl' := n_inj (by omega) (by omega) (e1.symm.trans e1')
      subst q_cl
      have q_d : d = d' := n_inj (by omega) (by omega) (e2.symm.trans e2')
      subst q_d
      exact absurd (⟨i_in (lo := 0) (hi := 1000) es' (by omega) (by omega) (by decide), i_in (lo := 1) (hi := 16) ew' (by omega) (by omega) (by decide)⟩ : (0 ≤ x3 ∧ x3 ≤ 1000) ∧ 1 ≤ x4 ∧ x4 ≤ 16) hx
  · obtain ⟨sd', z', hm⟩ := lq_mid hq f
    refine ⟨hm.2.1.1.1, ?_⟩
    rw [← mk_rd (G := G1) (m := m) (ℓ := ℓ)]
    refine sm_read hm.2.1.1 hm.2.1.2.1 hw (fun hx' => ?_) (fun cl' d' e1' c1' e2' d1' d2' hx' => ?_) (fun cl' d' s' w' e1' c1' e2' d1' d2' es' s2' ew' w1' w2' hf' => ?_) (fun cl' d' s' w' t' e1' c1' e2' d1' d2' es' s2' ew' w1' w2' hf' mv kv => ?_)
    · exact absurd (⟨i_in (lo := 0) (hi := 3) e1 (by omega) (by omega) (by decide), i_in (lo := 1) (hi := 3) e2 d1 d2 (by decide)⟩ : (0 ≤ x1 ∧ x1 ≤ 3) ∧ 1 ≤ x2 ∧ x2 ≤ 3) hx'
    · have q_cl : cl = cl' := n_inj (by omega) (by omega) (e1.symm.trans e1')
      subst q_cl
      have q_d : d = d' := n_inj (by omega) (by omega) (e2.symm.trans e2')
      subst q_d
      exact absurd (⟨i_in (lo := 0) (hi := 1000) es (by omega) (by omega) (by decide), i_in (lo := 1) (hi := 16) ew (by omega) (by omega) (by decide)⟩ : (0 ≤ x3 ∧ x3 ≤ 1000) ∧ 1 ≤ x4 ∧ x4 ≤ 16) hx'
    · have q_cl : cl = cl' := n_inj (by omega) (by omega) (e1.symm.trans e1')
      subst q_cl
      have q_d : d = d' := n_inj (by omega) (by omega) (e2.symm.trans e2')
      subst q_d
      have q_s : s = s' := n_inj (by omega) (by omega) (es.symm.trans es')
      subst q_s
      have q_w : w = w' := n_inj (by omega) (by omega) (ew.symm.trans ew')
      subst q_w
      exact tl_z hm smZ.rf hm.2.1.2.1 hS hL (fun z => absurd z (by decide)) kk
    · have q_cl : cl = cl' := n_inj (by omega) (by omega) (e1.symm.trans e1')
      subst q_cl
      have q_d : d = d' := n_inj (by omega) (by omega) (e2.symm.trans e2')
      subst q_d
      have q_s : s = s' := n_inj (by omega) (by omega) (es.symm.trans es')
      subst q_s
      have q_w : w = w' := n_inj (by omega) (by omega) (ew.symm.trans ew')
      subst q_w
      exact absurd hf (by omega)
  · obtain ⟨sd', z', hm⟩ := lq_mid hq f
    refine lm_out hm (fun G3 hm e3 => hQ _ _ ⟨hm.2.1.1.1, ?_⟩)
    rw [← mk_rd (G := G3) (m := m) (ℓ := ℓ)]
    refine sm_read hm.2.1.1 hm.2.1.2.1 hw (fun hx' => ?_) (fun cl' d' e1' c1' e2' d1' d2' hx' => ?_) (fun cl' d' s' w' e1' c1' e2' d1' d2' es' s2' ew' w1' w2' hf' => ?_) (fun cl' d' s' w' t' e1' c1' e2' d1' d2' es' s2' ew' w1' w2' hf' mv kv => ?_)
    · exact absurd (⟨i_in (lo := 0) (hi := 3) e1 (by omega) (by omega) (by decide), i_in (lo := 1) (hi := 3) e2 d1 d2 (by decide)⟩ : (0 ≤ x1 ∧ x1 ≤ 3) ∧ 1 ≤ x2 ∧ x2 ≤ 3) hx'
    · have q_cl : cl = cl' := n_inj (by omega) (by omega) (e1.symm.trans e1')
      subst q_cl
      have q_d : d = d' := n_inj (by omega) (by omega) (e2.symm.trans e2')
      subst q_d
      exact absurd (⟨i_in (lo := 0) (hi := 1000) es (by omega) (by omega) (by decide), i_in (lo := 1) (hi := 16) ew (by omega) (by omega) (by decide)⟩ : (0 ≤ x3 ∧ x3 ≤ 1000) ∧ 1 ≤ x4 ∧ x4 ≤ 16) hx'
    · have q_cl : cl = cl' := n_inj (by omega) (by omega) (e1.symm.trans e1')
      subst q_cl
      have q_d : d = d' := n_inj (by omega) (by omega) (e2.symm.trans e2')
      subst q_d
      have q_s : s = s' := n_inj (by omega) (by omega) (es.symm.trans es')
      subst q_s
      have q_w : w = w' := n_inj (by omega) (by omega) (ew.symm.trans ew')
      subst q_w
      exact absurd hf (by omega)
    · have q_cl : cl = cl' := n_inj (by omega) (by omega) (e1.symm.trans e1')
      subst q_cl
      have q_d : d = d' := n_inj (by omega) (by omega) (e2.symm.trans e2')
      subst q_d
      have q_s : s = s' := n_inj (by omega) (by omega) (es.symm.trans es')
      subst q_s
      have q_w : w = w' := n_inj (by omega) (by omega) (ew.symm.trans ew')
      subst q_w
      exact tl_z hm kv.sm.z mv (ok_add hS hf c1 ⟨d1, d2⟩ s2 ⟨w1, w2⟩ (by decide) (fun e => absurd e (by decide)) (by decide)) hL (fun _ => e3) kk
theorem cs_write {x1 x2 x3 x4 : Int32} (hq : LQ X n u sd k G g c a m ℓ o S L z) (hr : rX X G z) (hk : k ≤ 511) (kk : ∀ G', LI X n u (k + 1) G' g m o → K G') (hQ : ∀ r G', (gT G' m = (1, 11) ∧ wX10_write X G' m x1 x2 x3 x4 (TL X m o r K P0)) → Q r G') : wL_write X G g x1 x2 x3 x4 o Q := by
  have hS := hq.2.2.2.1
  have hL := hq.2.2.2.2.1.up
  have hw := hS.1
  have hb := hS.2.1
  have h6 : ∀ d, (zfl S d).length ≤ 6 := fun d => (hw.2.1 d).2.2.2.2.1
  have s6 : zn S 6 ≤ 40 := hw.1.2.2.2.2.2.2.1
  have hbt := bd_t hw hb
  have ht : zn S 0 < 2 ^ 30 := by omega
  refine ⟨hq.1.1.1, fx_write hq.1 hr hw (fun hx G1 f => Or.inl ⟨rfl, hQ _ _ ?_⟩) (fun cl d e1 c1 e2 d1 d2 hx G1 f => Or.inr (Or.inl ⟨rfl, hQ _ _ ?_⟩)) (fun cl d s v e1 c1 e2 d1 d2 es s2 ew w2 hf G1 f => Or.inr (Or.inr ⟨rfl, hQ _ _ ?_⟩)) (fun cl d s v G1 e1 c1 e2 d1 d2 es s2 ew w2 hf f => ?_)⟩
  · obtain ⟨sd', z', hm⟩ := lq_mid hq f
    refine ⟨hm.2.1.1.1, ?_⟩
    rw [← mk_rd (G := G1) (m := m) (ℓ := ℓ)]
    refine sm_write hm.2.1.1 hm.2.1.2.1 hw (fun hx' => ?_) (fun cl' d' e1' c1' e2' d1' d2' hx' => ?_) (fun cl' d' s' v' e1' c1' e2' d1' d2' es' s2' ew' w2' hf' => ?_) (fun cl' d' s' v' t' e1' c1' e2' d1' d2' es' s2' ew' w2' hf' mv kv => ?_)
    · exact tl_z hm smZ.rf hm.2.1.2.1 hS hL (fun z => absurd z (by decide)) kk
    · exact absurd (⟨i_in (lo := 0) (hi := 3) e1' (by omega) (by omega) (by decide), i_in (lo := 1) (hi := 3) e2' d1' d2' (by decide)⟩ : (0 ≤ x1 ∧ x1 ≤ 3) ∧ 1 ≤ x2 ∧ x2 ≤ 3) hx
    · exact absurd (⟨i_in (lo := 0) (hi := 3) e1' (by omega) (by omega) (by decide), i_in (lo := 1) (hi := 3) e2' d1' d2' (by decide)⟩ : (0 ≤ x1 ∧ x1 ≤ 3) ∧ 1 ≤ x2 ∧ x2 ≤ 3) hx
    · exact absurd (⟨i_in (lo := 0) (hi := 3) e1' (by omega) (by omega) (by decide), i_in (lo := 1) (hi := 3) e2' d1' d2' (by decide)⟩ : (0 ≤ x1 ∧ x1 ≤ 3) ∧ 1 ≤ x2 ∧ x2 ≤ 3) hx
  · obtain ⟨sd', z', hm⟩ := lq_mid hq f
    refine ⟨hm.2.1.1.1, ?_⟩
    rw [← mk_rd (G := G1) (m := m) (ℓ := ℓ)]
    refine sm_write hm.2.1.1 hm.2.1.2.1 hw (fun hx' => ?_) (fun cl' d' e1' c1' e2' d1' d2' hx' => ?_) (fun cl' d' s' v' e1' c1' e2' d1' d2' es' s2' ew' w2' hf' => ?_) (fun cl' d' s' v' t' e1' c1' e2' d1' d2' es' s2' ew' w2' hf' mv kv => ?_)
    · exact absurd (⟨i_in (lo := 0) (hi := 3) e1 (by omega) (by omega) (by decide), i_in (lo := 1) (hi := 3) e2 d1 d2 (by decide)⟩ : (0 ≤ x1 ∧ x1 ≤ 3) ∧ 1 ≤ x2 ∧ x2 ≤ 3) hx'
    · have q_cl : cl = cl' := n_inj (by omega) (by omega) (e1.symm.trans e1')
      subst q_cl
      have q_d : d = d' := n_inj (by omega) (by omega) (e2.symm.trans e2')
      subst q_d
      exact tl_z hm smZ.rf hm.2.1.2.1 hS hL (fun z => absurd z (by decide)) kk
    · have q_cl : cl = cl' := n_inj (by omega) (by omega) (e1.symm.trans e1')
      subst q_cl
      have q_d : d = d' := n_inj (by omega) (by omega) (e2.symm.trans e2')
      subst q_d
      exact absurd (⟨i_in (lo := 0) (hi := 1000) es' (by omega) (by omega) (by decide), i_in (lo := 0) (hi := 65535) ew' (by omega) (by omega) (by decide)⟩ : (0 ≤ x3 ∧ x3 ≤ 1000) ∧ 0 ≤ x4 ∧ x4 ≤ 65535) hx
    · have q_cl : cl = cl' := n_inj (by omega) (by omega) (e1.symm.trans e1')
      subst q_cl
      have q_d : d = d' := n_inj (by omega) (by omega) (e2.symm.trans e2')
      subst q_d
      exact absurd (⟨i_in (lo := 0) (hi := 1000) es' (by omega) (by omega) (by decide), i_in (lo := 0) (hi := 65535) ew' (by omega) (by omega) (by decide)⟩ : (0 ≤ x3 ∧ x3 ≤ 1000) ∧ 0 ≤ x4 ∧ x4 ≤ 65535) hx
  · obtain ⟨sd', z', hm⟩ := lq_mid hq f
    refine ⟨hm.2.1.1.1, ?_⟩
    rw [← mk_rd (G := G1) (m := m) (ℓ := ℓ)]
    refine sm_write hm.2.1.1 hm.2.1.2.1 hw (fun hx' => ?_) (fun cl' d' e1' c1' e2' d1' d2' hx' => ?_) (fun cl' d' s' v' e1' c1' e2' d1' d2' es' s2' ew' w2' hf' => ?_) (fun cl' d' s' v' t' e1' c1' e2' d1' d2' es' s2' ew' w2' hf' mv kv => ?_)
    · exact absurd (⟨i_in (lo := 0) (hi := 3) e1 (by omega) (by omega) (by decide), i_in (lo := 1) (hi := 3) e2 d1 d2 (by decide)⟩ : (0 ≤ x1 ∧ x1 ≤ 3) ∧ 1 ≤ x2 ∧ x2 ≤ 3) hx'
    · have q_cl : cl = cl' := n_inj (by omega) (by omega) (e1.symm.trans e1')
      subst q_cl
      have q_d : d = d' := n_inj (by omega) (by omega) (e2.symm.trans e2')
      subst q_d
      exact absurd (⟨i_in (lo := 0) (hi := 1000) es (by omega) (by omega) (by decide), i_in (lo := 0) (hi := 65535) ew (by omega) (by omega) (by decide)⟩ : (0 ≤ x3 ∧ x3 ≤ 1000) ∧ 0 ≤ x4 ∧ x4 ≤ 65535) hx'
    · have q_cl : cl = cl' := n_inj (by omega) (by omega) (e1.symm.trans e1')
      subst q_cl
      have q_d : d = d' := n_inj (by omega) (by omega) (e2.symm.trans e2')
      subst q_d
      have q_s : s = s' := n_inj (by omega) (by omega) (es.symm.trans es')
      subst q_s
      have q_v : v = v' := n_inj (by omega) (by omega) (ew.symm.trans ew')
      subst q_v
      exact tl_z hm smZ.rf hm.2.1.2.1 hS hL (fun z => absurd z (by decide)) kk
    · have q_cl : cl = cl' := n_inj (by omega) (by omega) (e1.symm.trans e1')
      subst q_cl
      have q_d : d = d' := n_inj (by omega) (by omega) (e2.symm.trans e2')
      subst q_d
      have q_s : s = s' := n_inj (by omega) (by omega) (es.symm.trans es')
      subst q_s
      have q_v : v = v' := n_inj (by omega) (by omega) (ew.symm.trans ew')
      subst q_v
      exact absurd hf (by omega)
  · obtain ⟨sd', z', hm⟩ := lq_mid hq f
    refine lm_out hm (fun G3 hm e3 => hQ _ _ ⟨hm.2.1.1.1, ?_⟩)
    rw [← mk_rd (G := G3) (m := m) (ℓ := ℓ)]
    refine sm_write hm.2.1.1 hm.2.1.2.1 hw (fun hx' => ?_) (fun cl' d' e1' c1' e2' d1' d2' hx' => ?_) (fun cl' d' s' v' e1' c1' e2' d1' d2' es' s2' ew' w2' hf' => ?_) (fun cl' d' s' v' t' e1' c1' e2' d1' d2' es' s2' ew' w2' hf' mv kv => ?_)
    · exact absurd (⟨i_in (lo := 0) (hi := 3) e1 (by omega) (by omega) (by decide), i_in (lo := 1) (hi := 3) e2 d1 d2 (by decide)⟩ : (0 ≤ x1 ∧ x1 ≤ 3) ∧ 1 ≤ x2 ∧ x2 ≤ 3) hx'
    · have q_cl : cl = cl' := n_inj (by omega) (by omega) (e1.symm.trans e1')
      subst q_cl
      have q_d : d = d' := n_inj (by omega) (by omega) (e2.symm.trans e2')
      subst q_d
      exact absurd (⟨i_in (lo := 0) (hi := 1000) es (by omega) (by omega) (by decide), i_in (lo := 0) (hi := 65535) ew (by omega) (by omega) (by decide)⟩ : (0 ≤ x3 ∧ x3 ≤ 1000) ∧ 0 ≤ x4 ∧ x4 ≤ 65535) hx'
    · have q_cl : cl = cl' := n_inj (by omega) (by omega) (e1.symm.trans e1')
      subst q_cl
      have q_d : d = d' := n_inj (by omega) (by omega) (e2.symm.trans e2')
      subst q_d
      have q_s : s = s' := n_inj (by omega) (by omega) (es.symm.trans es')
      subst q_s
      have q_v : v = v' := n_inj (by omega) (by omega) (ew.symm.trans ew')
      subst q_v
      exact absurd hf (by omega)
    · have q_cl : cl = cl' := n_inj (by omega) (by omega) (e1.symm.trans e1')
      subst q_cl
      have q_d : d = d' := n_inj (by omega) (by omega) (e2.symm.trans e2')
      subst q_d
      have q_s : s = s' := n_inj (by omega) (by omega) (es.symm.trans es')
      subst q_s
      have q_v : v = v' := n_inj (by omega) (by omega) (ew.symm.trans ew')
      subst q_v
      exact tl_z hm kv.sm.z mv (ok_add hS hf c1 ⟨d1, d2⟩ s2 ⟨Nat.le_refl 1, by decide⟩ (by decide) (fun _ => rfl) (by omega)) hL (fun _ => e3) kk
theorem cs_request {x1 x2 : Int32} (hq : LQ X n u sd k G g c a m ℓ o S L z) (hr : rX X G z) (hk : k ≤ 511) (kk : ∀ G', LI X n u (k + 1) G' g m o → K G') (hQ : ∀ r G', (gT G' m = (1, 11) ∧ wX10_request X G' m x1 x2 (TL X m o r K P0)) → Q r G') : wL_request X G g x1 x2 o Q := by
  have hS := hq.2.2.2.1
  have hL := hq.2.2.2.2.1.up
  have hw := hS.1
  have hb := hS.2.1
  have h6 : ∀ d, (zfl S d).length ≤ 6 := fun d => (hw.2.1 d).2.2.2.2.1
  have s6 : zn S 6 ≤ 40 := hw.1.2.2.2.2.2.2.1
  have hbt := bd_t hw hb
  have ht : zn S 0 < 2 ^ 30 := by omega
  refine ⟨hq.1.1.1, fx_request hq.1 hr hw hS.2.2 (fun hx G1 f => ⟨rfl, hQ _ _ ?_⟩) (fun i p e1 hi e2 hp f => ?_)⟩
  · obtain ⟨sd', z', hm⟩ := lq_mid hq f
    refine ⟨hm.2.1.1.1, ?_⟩
    rw [← mk_rd (G := G1) (m := m) (ℓ := ℓ)]
    refine sm_request hm.2.1.1 hm.2.1.2.1 hw (fun hx' => ?_) (fun i' p' e1' hi' e2' hp' => ?_)
    · exact tl_z hm smZ.rf hm.2.1.2.1 hS hL (fun z => absurd z (by decide)) kk
    · exact absurd (⟨i_inl e1' hi' (by omega), i_in (lo := 0) (hi := 8) e2' (by omega) (by omega) (by decide)⟩ : (0 ≤ x1 ∧ x1 < nI (zn S 6)) ∧ 0 ≤ x2 ∧ x2 ≤ 8) hx
  · obtain ⟨sd', z', hm⟩ := lq_mid hq f
    refine lm_out hm (fun G3 hm e3 => hQ _ _ ⟨hm.2.1.1.1, ?_⟩)
    rw [← mk_rd (G := G3) (m := m) (ℓ := ℓ)]
    refine sm_request hm.2.1.1 hm.2.1.2.1 hw (fun hx' => ?_) (fun i' p' e1' hi' e2' hp' => ?_)
    · exact absurd (⟨i_inl e1 hi (by omega), i_in (lo := 0) (hi := 8) e2 (by omega) (by omega) (by decide)⟩ : (0 ≤ x1 ∧ x1 < nI (zn S 6)) ∧ 0 ≤ x2 ∧ x2 ≤ 8) hx'
    · have q_i : i = i' := n_inj (by omega) (by omega) (e1.symm.trans e1')
      subst q_i
      have q_p : p = p' := n_inj (by omega) (by omega) (e2.symm.trans e2')
      subst q_p
      exact tl_z hm smZ.rf hm.2.1.2.1 hS hL (fun _ => e3) kk
theorem cs_value {x1 x2 : Int32} (hq : LQ X n u sd k G g c a m ℓ o S L z) (hr : rX X G z) (hk : k ≤ 511) (kk : ∀ G', LI X n u (k + 1) G' g m o → K G') (hQ : ∀ r G', (gT G' m = (1, 11) ∧ wX10_value X G' m x1 x2 (TL X m o r K P0)) → Q r G') : wL_value X G g x1 x2 o Q := by
  have hS := hq.2.2.2.1
  have hL := hq.2.2.2.2.1.up
  have hw := hS.1
  have hb := hS.2.1
  have h6 : ∀ d, (zfl S d).length ≤ 6 := fun d => (hw.2.1 d).2.2.2.2.1
  have s6 : zn S 6 ≤ 40 := hw.1.2.2.2.2.2.2.1
  have hbt := bd_t hw hb
  have ht : zn S 0 < 2 ^ 30 := by omega
  refine ⟨hq.1.1.1, fx_value hq.1 hr hw (fun hx G1 f => Or.inl ⟨rfl, hQ _ _ ?_⟩) (fun i e1 hi hx G1 f => Or.inl ⟨rfl, hQ _ _ ?_⟩) (fun i j e1 hi e2 hj hx G1 f => Or.inr ⟨rfl, hQ _ _ ?_⟩) (fun i j e1 hi e2 hj h4 h5 f => ?_)⟩
  · obtain ⟨sd', z', hm⟩ := lq_mid hq f
    refine ⟨hm.2.1.1.1, ?_⟩
    rw [← mk_rd (G := G1) (m := m) (ℓ := ℓ)]
    refine sm_value hm.2.1.1 hm.2.1.2.1 hw (fun hx' => ?_) (fun i' e1' hi' hx' => ?_) (fun i' j' e1' hi' e2' hj' hx' => ?_) (fun i' j' e1' hi' e2' hj' h4' h5' => ?_)
    · exact tl_z hm smZ_tT hm.2.1.2.1 hS hL (fun z => absurd z (by decide)) kk
    · exact absurd (i_inl e1' hi' (by omega)) hx
    · exact absurd (i_inl e1' hi' (by omega)) hx
    · exact absurd (i_inl e1' hi' (by omega)) hx
  · obtain ⟨sd', z', hm⟩ := lq_mid hq f
    refine ⟨hm.2.1.1.1, ?_⟩
    rw [← mk_rd (G := G1) (m := m) (ℓ := ℓ)]
    refine sm_value hm.2.1.1 hm.2.1.2.1 hw (fun hx' => ?_) (fun i' e1' hi' hx' => ?_) (fun i' j' e1' hi' e2' hj' hx' => ?_) (fun i' j' e1' hi' e2' hj' h4' h5' => ?_)
    · exact absurd (i_inl e1 hi (by omega)) hx'
    · have q_i : i = i' := n_inj (by omega) (by omega) (e1.symm.trans e1')
      subst q_i
      have w16 := (hw.2.2.1.1 _ hi).2.2.2.2.2.1
      exact tl_z hm smZ_tT hm.2.1.2.1 hS hL (fun z => absurd z (by decide)) kk
    · have q_i : i = i' := n_inj (by omega) (by omega) (e1.symm.trans e1')
      subst q_i
      have w16 := (hw.2.2.1.1 _ hi).2.2.2.2.2.1
      exact absurd (i_inl e2' hj' (by have := (hw.2.2.1.1 i hi).2.2.2.2.2.1; omega)) hx
    · have q_i : i = i' := n_inj (by omega) (by omega) (e1.symm.trans e1')
      subst q_i
      have w16 := (hw.2.2.1.1 _ hi).2.2.2.2.2.1
      exact absurd (i_inl e2' hj' (by have := (hw.2.2.1.1 i hi).2.2.2.2.2.1; omega)) hx
  · obtain ⟨sd', z', hm⟩ := lq_mid hq f
    refine ⟨hm.2.1.1.1, ?_⟩
    rw [← mk_rd (G := G1) (m := m) (ℓ := ℓ)]
    refine sm_value hm.2.1.1 hm.2.1.2.1 hw (fun hx' => ?_) (fun i' e1' hi' hx' => ?_) (fun i' j' e1' hi' e2' hj' hx' => ?_) (fun i' j' e1' hi' e2' hj' h4' h5' => ?_)
    · exact absurd (i_inl e1 hi (by omega)) hx'
    · have q_i : i = i' := n_inj (by omega) (by omega) (e1.symm.trans e1')
      subst q_i
      have w16 := (hw.2.2.1.1 _ hi).2.2.2.2.2.1
      exact absurd (i_inl e2 hj (by have := (hw.2.2.1.1 i hi).2.2.2.2.2.1; omega)) hx'
    · have q_i : i = i' := n_inj (by omega) (by omega) (e1.symm.trans e1')
      subst q_i
      have w16 := (hw.2.2.1.1 _ hi).2.2.2.2.2.1
      have q_j : j = j' := n_inj (by omega) (by omega) (e2.symm.trans e2')
      subst q_j
      exact tl_z hm smZ_tT hm.2.1.2.1 hS hL (fun z => absurd z (by decide)) kk
    · have q_i : i = i' := n_inj (by omega) (by omega) (e1.symm.trans e1')
      subst q_i
      have w16 := (hw.2.2.1.1 _ hi).2.2.2.2.2.1
      have q_j : j = j' := n_inj (by omega) (by omega) (e2.symm.trans e2')
      subst q_j
      exact absurd ⟨h4', h5'⟩ hx
  · obtain ⟨sd', z', hm⟩ := lq_mid hq f
    refine lm_out hm (fun G3 hm e3 => hQ _ _ ⟨hm.2.1.1.1, ?_⟩)
    rw [← mk_rd (G := G3) (m := m) (ℓ := ℓ)]
    refine sm_value hm.2.1.1 hm.2.1.2.1 hw (fun hx' => ?_) (fun i' e1' hi' hx' => ?_) (fun i' j' e1' hi' e2' hj' hx' => ?_) (fun i' j' e1' hi' e2' hj' h4' h5' => ?_)
    · exact absurd (i_inl e1 hi (by omega)) hx'
    · have q_i : i = i' := n_inj (by omega) (by omega) (e1.symm.trans e1')
      subst q_i
      have w16 := (hw.2.2.1.1 _ hi).2.2.2.2.2.1
      exact absurd (i_inl e2 hj (by have := (hw.2.2.1.1 i hi).2.2.2.2.2.1; omega)) hx'
    · have q_i : i = i' := n_inj (by omega) (by omega) (e1.symm.trans e1')
      subst q_i
      have w16 := (hw.2.2.1.1 _ hi).2.2.2.2.2.1
      have q_j : j = j' := n_inj (by omega) (by omega) (e2.symm.trans e2')
      subst q_j
      exact absurd ⟨h4, h5⟩ hx'
    · have q_i : i = i' := n_inj (by omega) (by omega) (e1.symm.trans e1')
      subst q_i
      have w16 := (hw.2.2.1.1 _ hi).2.2.2.2.2.1
      have q_j : j = j' := n_inj (by omega) (by omega) (e2.symm.trans e2')
      subst q_j
      exact tl_z hm smZ.rf hm.2.1.2.1 hS hL (fun _ => e3) kk
theorem cs_requests {x1 : Int32} (hq : LQ X n u sd k G g c a m ℓ o S L z) (hr : rX X G z) (hk : k ≤ 511) (kk : ∀ G', LI X n u (k + 1) G' g m o → K G') (hQ : ∀ r G', (gT G' m = (1, 11) ∧ wX10_requests X G' m x1 (TL X m o r K P0)) → Q r G') : wL_requests X G g x1 o Q := by
  have hS := hq.2.2.2.1
  have hL := hq.2.2.2.2.1.up
  have hw := hS.1
  have hb := hS.2.1
  have h6 : ∀ d, (zfl S d).length ≤ 6 := fun d => (hw.2.1 d).2.2.2.2.1
  have s6 : zn S 6 ≤ 40 := hw.1.2.2.2.2.2.2.1
  have hbt := bd_t hw hb
  have ht : zn S 0 < 2 ^ 30 := by omega
  refine ⟨hq.1.1.1, fx_requests hq.1 hr hw (fun hx G1 f => ⟨rfl, hQ _ _ ?_⟩) (fun s e1 hs2 f => ?_)⟩
  · obtain ⟨sd', z', hm⟩ := lq_mid hq f
    refine ⟨hm.2.1.1.1, ?_⟩
    rw [← mk_rd (G := G1) (m := m) (ℓ := ℓ)]
    refine sm_requests hm.2.1.1 hm.2.1.2.1 hw (fun hx' => ?_) (fun s' e1' hs2' => ?_)
    · exact tl_z hm smZ.rf hm.2.1.2.1 hS hL (fun z => absurd z (by decide)) kk
    · exact absurd (i_in (lo := 0) (hi := 2) e1' (by omega) (by omega) (by decide)) hx
  · obtain ⟨sd', z', hm⟩ := lq_mid hq f
    refine lm_out hm (fun G3 hm e3 => hQ _ _ ⟨hm.2.1.1.1, ?_⟩)
    rw [← mk_rd (G := G3) (m := m) (ℓ := ℓ)]
    refine sm_requests hm.2.1.1 hm.2.1.2.1 hw (fun hx' => ?_) (fun s' e1' hs2' => ?_)
    · exact absurd (i_in (lo := 0) (hi := 2) e1 (by omega) (by omega) (by decide)) hx'
    · have q_s : s = s' := n_inj (by omega) (by omega) (e1.symm.trans e1')
      subst q_s
      exact tl_z hm smZ.rf hm.2.1.2.1 hS hL (fun _ => e3) kk
theorem cs_requestsOf {x1 x2 : Int32} (hq : LQ X n u sd k G g c a m ℓ o S L z) (hr : rX X G z) (hk : k ≤ 511) (kk : ∀ G', LI X n u (k + 1) G' g m o → K G') (hQ : ∀ r G', (gT G' m = (1, 11) ∧ wX10_requestsOf X G' m x1 x2 (TL X m o r K P0)) → Q r G') : wL_requestsOf X G g x1 x2 o Q := by
  have hS := hq.2.2.2.1
  have hL := hq.2.2.2.2.1.up
  have hw := hS.1
  have hb := hS.2.1
  have h6 : ∀ d, (zfl S d).length ≤ 6 := fun d => (hw.2.1 d).2.2.2.2.1
  have s6 : zn S 6 ≤ 40 := hw.1.2.2.2.2.2.2.1
  have hbt := bd_t hw hb
  have ht : zn S 0 < 2 ^ 30 := by omega
  refine ⟨hq.1.1.1, fx_requestsOf hq.1 hr (fun hx G1 f => ⟨rfl, hQ _ _ ?_⟩) (fun cl s e1 hc e2 hs2 f => ?_)⟩
  · obtain ⟨sd', z', hm⟩ := lq_mid hq f
    refine ⟨hm.2.1.1.1, ?_⟩
    rw [← mk_rd (G := G1) (m := m) (ℓ := ℓ)]
    refine sm_requestsOf hm.2.1.1 hm.2.1.2.1 hw (fun hx' => ?_) (fun cl' s' e1' hc' e2' hs2' => ?_)
    · exact tl_z hm smZ.rf hm.2.1.2.1 hS hL (fun z => absurd z (by decide)) kk
    · exact absurd (⟨i_in (lo := 0) (hi := 3) e1' (by omega) (by omega) (by decide), i_in (lo := 0) (hi := 2) e2' (by omega) (by omega) (by decide)⟩ : (0 ≤ x1 ∧ x1 ≤ 3) ∧ 0 ≤ x2 ∧ x2 ≤ 2) hx
  · obtain ⟨sd', z', hm⟩ := lq_mid hq f
    refine lm_out hm (fun G3 hm e3 => hQ _ _ ⟨hm.2.1.1.1, ?_⟩)
    rw [← mk_rd (G := G3) (m := m) (ℓ := ℓ)]
    refine sm_requestsOf hm.2.1.1 hm.2.1.2.1 hw (fun hx' => ?_) (fun cl' s' e1' hc' e2' hs2' => ?_)
    · exact absurd (⟨i_in (lo := 0) (hi := 3) e1 (by omega) (by omega) (by decide), i_in (lo := 0) (hi := 2) e2 (by omega) (by omega) (by decide)⟩ : (0 ≤ x1 ∧ x1 ≤ 3) ∧ 0 ≤ x2 ∧ x2 ≤ 2) hx'
    · have q_cl : cl = cl' := n_inj (by omega) (by omega) (e1.symm.trans e1')
      subst q_cl
      have q_s : s = s' := n_inj (by omega) (by omega) (e2.symm.trans e2')
      subst q_s
      exact tl_z hm smZ.rf hm.2.1.2.1 hS hL (fun _ => e3) kk
theorem cs_pass {x1 : Int32} (hq : LQ X n u sd k G g c a m ℓ o S L z) (hr : rX X G z) (hk : k ≤ 511) (kk : ∀ G', LI X n u (k + 1) G' g m o → K G') (hQ : ∀ r G', (gT G' m = (1, 11) ∧ wX10_pass X G' m x1 (TL X m o r K P0)) → Q r G') : wL_pass X G g x1 o Q := by
  have hS := hq.2.2.2.1
  have hL := hq.2.2.2.2.1.up
  have hw := hS.1
  have hb := hS.2.1
  have h6 : ∀ d, (zfl S d).length ≤ 6 := fun d => (hw.2.1 d).2.2.2.2.1
  have s6 : zn S 6 ≤ 40 := hw.1.2.2.2.2.2.2.1
  have hbt := bd_t hw hb
  have ht : zn S 0 < 2 ^ 30 := by omega
  refine ⟨hq.1.1.1, fx_pass hq.1 hr ht (fun hx G1 f => Or.inl ⟨rfl, hQ _ _ ?_⟩) (fun x e1 x2 hf G1 f => Or.inr ⟨rfl, hQ _ _ ?_⟩) (fun x G1 e1 x2 hf f => ?_)⟩
  · obtain ⟨sd', z', hm⟩ := lq_mid hq f
    refine ⟨hm.2.1.1.1, ?_⟩
    rw [← mk_rd (G := G1) (m := m) (ℓ := ℓ)]
    refine sm_pass hm.2.1.1 hm.2.1.2.1 ht (fun t' hx' mv kv => ?_) (fun t' x' e1' x2' hf' mv kv => ?_) (fun t' x' e1' x2' hf' mv kv => ?_)
    · exact tl_z hm kv.sm.z mv hS hL (fun z => absurd z (by decide)) kk
    · exact absurd (i_in (lo := 0) (hi := 10000) e1' (by omega) (by omega) (by decide)) hx
    · exact absurd (i_in (lo := 0) (hi := 10000) e1' (by omega) (by omega) (by decide)) hx
  · obtain ⟨sd', z', hm⟩ := lq_mid hq f
    refine ⟨hm.2.1.1.1, ?_⟩
    rw [← mk_rd (G := G1) (m := m) (ℓ := ℓ)]
    refine sm_pass hm.2.1.1 hm.2.1.2.1 ht (fun t' hx' mv kv => ?_) (fun t' x' e1' x2' hf' mv kv => ?_) (fun t' x' e1' x2' hf' mv kv => ?_)
    · exact absurd (i_in (lo := 0) (hi := 10000) e1 (by omega) (by omega) (by decide)) hx'
    · have q_x : x = x' := n_inj (by omega) (by omega) (e1.symm.trans e1')
      subst q_x
      exact tl_z hm kv.sm.z mv hS hL (fun z => absurd z (by decide)) kk
    · have q_x : x = x' := n_inj (by omega) (by omega) (e1.symm.trans e1')
      subst q_x
      exact absurd hf (by omega)
  · obtain ⟨sd', z', hm⟩ := lq_mid hq f
    refine lm_out hm (fun G3 hm e3 => hQ _ _ ⟨hm.2.1.1.1, ?_⟩)
    rw [← mk_rd (G := G3) (m := m) (ℓ := ℓ)]
    refine sm_pass hm.2.1.1 hm.2.1.2.1 ht (fun t' hx' mv kv => ?_) (fun t' x' e1' x2' hf' mv kv => ?_) (fun t' x' e1' x2' hf' mv kv => ?_)
    · exact absurd (i_in (lo := 0) (hi := 10000) e1 (by omega) (by omega) (by decide)) hx'
    · have q_x : x = x' := n_inj (by omega) (by omega) (e1.symm.trans e1')
      subst q_x
      exact absurd hf (by omega)
    · have q_x : x = x' := n_inj (by omega) (by omega) (e1.symm.trans e1')
      subst q_x
      exact tl_z hm kv.sm.z mv (ok_pass hS hf) hL (fun _ => e3) kk
theorem cs_frameByte {x1 : Int32} (hq : LQ X n u sd k G g c a m ℓ o S L z) (hr : rX X G z) (hk : k ≤ 511) (kk : ∀ G', LI X n u (k + 1) G' g m o → K G') (hQ : ∀ r G', (gT G' m = (1, 11) ∧ wX10_frameByte X G' m x1 (TL X m o r K P0)) → Q r G') : wL_frameByte X G g x1 o Q := by
  have hS := hq.2.2.2.1
  have hL := hq.2.2.2.2.1.up
  have hw := hS.1
  have hb := hS.2.1
  have h6 : ∀ d, (zfl S d).length ≤ 6 := fun d => (hw.2.1 d).2.2.2.2.1
  have s6 : zn S 6 ≤ 40 := hw.1.2.2.2.2.2.2.1
  have hbt := bd_t hw hb
  have ht : zn S 0 < 2 ^ 30 := by omega
  refine ⟨hq.1.1.1, fx_frameByte hq.1 hr hw ht (fun hx G1 f => ⟨rfl, hQ _ _ ?_⟩) (fun G1 h0 f => ?_)⟩
  · obtain ⟨sd', z', hm⟩ := lq_mid hq f
    refine ⟨hm.2.1.1.1, ?_⟩
    rw [← mk_rd (G := G1) (m := m) (ℓ := ℓ)]
    refine sm_frameByte hm.2.1.1 hm.2.1.2.1 hw ht (fun hx' => ?_) (fun t' h0' mv kv => ?_)
    · exact tl_z hm smZ_tT hm.2.1.2.1 hS hL (fun z => absurd z (by decide)) kk
    · exact absurd h0' hx
  · obtain ⟨sd', z', hm⟩ := lq_mid hq f
    refine lm_out hm (fun G3 hm e3 => hQ _ _ ⟨hm.2.1.1.1, ?_⟩)
    rw [← mk_rd (G := G3) (m := m) (ℓ := ℓ)]
    refine sm_frameByte hm.2.1.1 hm.2.1.2.1 hw ht (fun hx' => ?_) (fun t' h0' mv kv => ?_)
    · exact absurd h0 hx'
    · exact tl_z hm kv.z mv hS hL (fun _ => e3) kk
theorem cs_cacheAge {x1 x2 : Int32} (hq : LQ X n u sd k G g c a m ℓ o S L z) (hr : rX X G z) (hk : k ≤ 511) (kk : ∀ G', LI X n u (k + 1) G' g m o → K G') (hQ : ∀ r G', (gT G' m = (1, 11) ∧ wX10_cacheAge X G' m x1 x2 (TL X m o r K P0)) → Q r G') : wL_cacheAge X G g x1 x2 o Q := by
  have hS := hq.2.2.2.1
  have hL := hq.2.2.2.2.1.up
  have hw := hS.1
  have hb := hS.2.1
  have h6 : ∀ d, (zfl S d).length ≤ 6 := fun d => (hw.2.1 d).2.2.2.2.1
  have s6 : zn S 6 ≤ 40 := hw.1.2.2.2.2.2.2.1
  have hbt := bd_t hw hb
  have ht : zn S 0 < 2 ^ 30 := by omega
  refine ⟨hq.1.1.1, fx_cacheAge hq.1 hr hw (fun hx G1 f => ⟨rfl, hQ _ _ ?_⟩) (fun d r e1 d1 d2 e2 r2 hf f => ?_) (fun d r e1 d1 d2 e2 r2 hf f => ?_)⟩
  · obtain ⟨sd', z', hm⟩ := lq_mid hq f
    refine ⟨hm.2.1.1.1, ?_⟩
    rw [← mk_rd (G := G1) (m := m) (ℓ := ℓ)]
    refine sm_cacheAge hm.2.1.1 hm.2.1.2.1 hw (fun hx' => ?_) (fun d' r' e1' d1' d2' e2' r2' hf' => ?_) (fun d' r' e1' d1' d2' e2' r2' hf' => ?_)
    · exact tl_z hm smZ_tT hm.2.1.2.1 hS hL (fun z => absurd z (by decide)) kk
    · exact absurd (⟨i_in (lo := 1) (hi := 3) e1' d1' d2' (by decide), i_in (lo := 0) (hi := 31) e2' (by omega) (by omega) (by decide)⟩ : (1 ≤ x1 ∧ x1 ≤ 3) ∧ 0 ≤ x2 ∧ x2 ≤ 31) hx
    · exact absurd (⟨i_in (lo := 1) (hi := 3) e1' d1' d2' (by decide), i_in (lo := 0) (hi := 31) e2' (by omega) (by omega) (by decide)⟩ : (1 ≤ x1 ∧ x1 ≤ 3) ∧ 0 ≤ x2 ∧ x2 ≤ 31) hx
  · obtain ⟨sd', z', hm⟩ := lq_mid hq f
    refine lm_out hm (fun G3 hm e3 => hQ _ _ ⟨hm.2.1.1.1, ?_⟩)
    rw [← mk_rd (G := G3) (m := m) (ℓ := ℓ)]
    refine sm_cacheAge hm.2.1.1 hm.2.1.2.1 hw (fun hx' => ?_) (fun d' r' e1' d1' d2' e2' r2' hf' => ?_) (fun d' r' e1' d1' d2' e2' r2' hf' => ?_)
    · exact absurd (⟨i_in (lo := 1) (hi := 3) e1 d1 d2 (by decide), i_in (lo := 0) (hi := 31) e2 (by omega) (by omega) (by decide)⟩ : (1 ≤ x1 ∧ x1 ≤ 3) ∧ 0 ≤ x2 ∧ x2 ≤ 31) hx'
    · have q_d : d = d' := n_inj (by omega) (by omega) (e1.symm.trans e1')
      subst q_d
      have q_r : r = r' := n_inj (by omega) (by omega) (e2.symm.trans e2')
      subst q_r
      exact tl_z hm smZ.rf hm.2.1.2.1 hS hL (fun _ => e3) kk
    · have q_d : d = d' := n_inj (by omega) (by omega) (e1.symm.trans e1')
      subst q_d
      have q_r : r = r' := n_inj (by omega) (by omega) (e2.symm.trans e2')
      subst q_r
      exact absurd hf' hf
  · obtain ⟨sd', z', hm⟩ := lq_mid hq f
    refine lm_out hm (fun G3 hm e3 => hQ _ _ ⟨hm.2.1.1.1, ?_⟩)
    rw [← mk_rd (G := G3) (m := m) (ℓ := ℓ)]
    refine sm_cacheAge hm.2.1.1 hm.2.1.2.1 hw (fun hx' => ?_) (fun d' r' e1' d1' d2' e2' r2' hf' => ?_) (fun d' r' e1' d1' d2' e2' r2' hf' => ?_)
    · exact absurd (⟨i_in (lo := 1) (hi := 3) e1 d1 d2 (by decide), i_in (lo := 0) (hi := 31) e2 (by omega) (by omega) (by decide)⟩ : (1 ≤ x1 ∧ x1 ≤ 3) ∧ 0 ≤ x2 ∧ x2 ≤ 31) hx'
    · have q_d : d = d' := n_inj (by omega) (by omega) (e1.symm.trans e1')
      subst q_d
      have q_r : r = r' := n_inj (by omega) (by omega) (e2.symm.trans e2')
      subst q_r
      exact absurd hf hf'
    · have q_d : d = d' := n_inj (by omega) (by omega) (e1.symm.trans e1')
      subst q_d
      have q_r : r = r' := n_inj (by omega) (by omega) (e2.symm.trans e2')
      subst q_r
      exact tl_z hm smZ.rf hm.2.1.2.1 hS hL (fun _ => e3) kk
theorem cs_cached {x1 x2 : Int32} (hq : LQ X n u sd k G g c a m ℓ o S L z) (hr : rX X G z) (hk : k ≤ 511) (kk : ∀ G', LI X n u (k + 1) G' g m o → K G') (hQ : ∀ r G', (gT G' m = (1, 11) ∧ wX10_cached X G' m x1 x2 (TL X m o r K P0)) → Q r G') : wL_cached X G g x1 x2 o Q := by
  have hS := hq.2.2.2.1
  have hL := hq.2.2.2.2.1.up
  have hw := hS.1
  have hb := hS.2.1
  have h6 : ∀ d, (zfl S d).length ≤ 6 := fun d => (hw.2.1 d).2.2.2.2.1
  have s6 : zn S 6 ≤ 40 := hw.1.2.2.2.2.2.2.1
  have hbt := bd_t hw hb
  have ht : zn S 0 < 2 ^ 30 := by omega
  refine ⟨hq.1.1.1, fx_cached hq.1 hr hw (fun hx G1 f => ⟨rfl, hQ _ _ ?_⟩) (fun d r e1 d1 d2 e2 r2 hf f => ?_) (fun d r e1 d1 d2 e2 r2 hf f => ?_)⟩
  · obtain ⟨sd', z', hm⟩ := lq_mid hq f
    refine ⟨hm.2.1.1.1, ?_⟩
    rw [← mk_rd (G := G1) (m := m) (ℓ := ℓ)]
    refine sm_cached hm.2.1.1 hm.2.1.2.1 hw (fun hx' => ?_) (fun d' r' e1' d1' d2' e2' r2' hf' => ?_) (fun d' r' e1' d1' d2' e2' r2' hf' => ?_)
    · exact tl_z hm smZ_tT hm.2.1.2.1 hS hL (fun z => absurd z (by decide)) kk
    · exact absurd (⟨i_in (lo := 1) (hi := 3) e1' d1' d2' (by decide), i_in (lo := 0) (hi := 31) e2' (by omega) (by omega) (by decide)⟩ : (1 ≤ x1 ∧ x1 ≤ 3) ∧ 0 ≤ x2 ∧ x2 ≤ 31) hx
    · exact absurd (⟨i_in (lo := 1) (hi := 3) e1' d1' d2' (by decide), i_in (lo := 0) (hi := 31) e2' (by omega) (by omega) (by decide)⟩ : (1 ≤ x1 ∧ x1 ≤ 3) ∧ 0 ≤ x2 ∧ x2 ≤ 31) hx
  · obtain ⟨sd', z', hm⟩ := lq_mid hq f
    refine lm_out hm (fun G3 hm e3 => hQ _ _ ⟨hm.2.1.1.1, ?_⟩)
    rw [← mk_rd (G := G3) (m := m) (ℓ := ℓ)]
    refine sm_cached hm.2.1.1 hm.2.1.2.1 hw (fun hx' => ?_) (fun d' r' e1' d1' d2' e2' r2' hf' => ?_) (fun d' r' e1' d1' d2' e2' r2' hf' => ?_)
    · exact absurd (⟨i_in (lo := 1) (hi := 3) e1 d1 d2 (by decide), i_in (lo := 0) (hi := 31) e2 (by omega) (by omega) (by decide)⟩ : (1 ≤ x1 ∧ x1 ≤ 3) ∧ 0 ≤ x2 ∧ x2 ≤ 31) hx'
    · have q_d : d = d' := n_inj (by omega) (by omega) (e1.symm.trans e1')
      subst q_d
      have q_r : r = r' := n_inj (by omega) (by omega) (e2.symm.trans e2')
      subst q_r
      exact tl_z hm smZ.rf hm.2.1.2.1 hS hL (fun _ => e3) kk
    · have q_d : d = d' := n_inj (by omega) (by omega) (e1.symm.trans e1')
      subst q_d
      have q_r : r = r' := n_inj (by omega) (by omega) (e2.symm.trans e2')
      subst q_r
      exact absurd hf' hf
  · obtain ⟨sd', z', hm⟩ := lq_mid hq f
    refine lm_out hm (fun G3 hm e3 => hQ _ _ ⟨hm.2.1.1.1, ?_⟩)
    rw [← mk_rd (G := G3) (m := m) (ℓ := ℓ)]
    refine sm_cached hm.2.1.1 hm.2.1.2.1 hw (fun hx' => ?_) (fun d' r' e1' d1' d2' e2' r2' hf' => ?_) (fun d' r' e1' d1' d2' e2' r2' hf' => ?_)
    · exact absurd (⟨i_in (lo := 1) (hi := 3) e1 d1 d2 (by decide), i_in (lo := 0) (hi := 31) e2 (by omega) (by omega) (by decide)⟩ : (1 ≤ x1 ∧ x1 ≤ 3) ∧ 0 ≤ x2 ∧ x2 ≤ 31) hx'
    · have q_d : d = d' := n_inj (by omega) (by omega) (e1.symm.trans e1')
      subst q_d
      have q_r : r = r' := n_inj (by omega) (by omega) (e2.symm.trans e2')
      subst q_r
      exact absurd hf hf'
    · have q_d : d = d' := n_inj (by omega) (by omega) (e1.symm.trans e1')
      subst q_d
      have q_r : r = r' := n_inj (by omega) (by omega) (e2.symm.trans e2')
      subst q_r
      exact tl_z hm smZ.rf hm.2.1.2.1 hS hL (fun _ => e3) kk
theorem cs_count {x1 : Int32} (hq : LQ X n u sd k G g c a m ℓ o S L z) (hr : rX X G z) (hk : k ≤ 511) (kk : ∀ G', LI X n u (k + 1) G' g m o → K G') (hQ : ∀ r G', (gT G' m = (1, 11) ∧ wX10_count X G' m x1 (TL X m o r K P0)) → Q r G') : wL_count X G g x1 o Q := by
  have hS := hq.2.2.2.1
  have hL := hq.2.2.2.2.1.up
  have hw := hS.1
  have hb := hS.2.1
  have h6 : ∀ d, (zfl S d).length ≤ 6 := fun d => (hw.2.1 d).2.2.2.2.1
  have s6 : zn S 6 ≤ 40 := hw.1.2.2.2.2.2.2.1
  have hbt := bd_t hw hb
  have ht : zn S 0 < 2 ^ 30 := by omega
  refine ⟨hq.1.1.1, fx_count hq.1 hr (fun hx G1 f => ⟨rfl, hQ _ _ ?_⟩) (fun i e1 hi f => ?_)⟩
  · obtain ⟨sd', z', hm⟩ := lq_mid hq f
    refine ⟨hm.2.1.1.1, ?_⟩
    rw [← mk_rd (G := G1) (m := m) (ℓ := ℓ)]
    refine sm_count hm.2.1.1 hm.2.1.2.1 (fun hx' => ?_) (fun i' e1' hi' => ?_)
    · exact tl_z hm smZ.rf hm.2.1.2.1 hS hL (fun z => absurd z (by decide)) kk
    · exact absurd (i_in (lo := 0) (hi := 5) e1' (by omega) (by omega) (by decide)) hx
  · obtain ⟨sd', z', hm⟩ := lq_mid hq f
    refine lm_out hm (fun G3 hm e3 => hQ _ _ ⟨hm.2.1.1.1, ?_⟩)
    rw [← mk_rd (G := G3) (m := m) (ℓ := ℓ)]
    refine sm_count hm.2.1.1 hm.2.1.2.1 (fun hx' => ?_) (fun i' e1' hi' => ?_)
    · exact absurd (i_in (lo := 0) (hi := 5) e1 (by omega) (by omega) (by decide)) hx'
    · have q_i : i = i' := n_inj (by omega) (by omega) (e1.symm.trans e1')
      subst q_i
      exact tl_z hm smZ.rf hm.2.1.2.1 hS hL (fun _ => e3) kk
theorem cs_leastDrain {x1 : Int32} (hq : LQ X n u sd k G g c a m ℓ o S L z) (hr : rX X G z) (hk : k ≤ 511) (kk : ∀ G', LI X n u (k + 1) G' g m o → K G') (hQ : ∀ r G', (gT G' m = (1, 11) ∧ wX10_leastDrain X G' m x1 (TL X m o r K P0)) → Q r G') : wL_leastDrain X G g x1 o Q := by
  have hS := hq.2.2.2.1
  have hL := hq.2.2.2.2.1.up
  have hw := hS.1
  have hb := hS.2.1
  have h6 : ∀ d, (zfl S d).length ≤ 6 := fun d => (hw.2.1 d).2.2.2.2.1
  have s6 : zn S 6 ≤ 40 := hw.1.2.2.2.2.2.2.1
  have hbt := bd_t hw hb
  have ht : zn S 0 < 2 ^ 30 := by omega
  refine ⟨hq.1.1.1, fx_leastDrain hq.1 hr hw hb (fun x G1 r e1 x2 hd f => ?_) (fun hx G1 f => ⟨rfl, hQ _ _ ?_⟩)⟩
  · obtain ⟨sd', z', hm⟩ := lq_mid hq f
    refine lm_out hm (fun G3 hm e3 => hQ _ _ ⟨hm.2.1.1.1, ?_⟩)
    rw [← mk_rd (G := G3) (m := m) (ℓ := ℓ)]
    refine sm_leastDrain hm.2.1.1 hm.2.1.2.1 hw hb (fun x' t' r' e1' x2' mv kv hd' => ?_) (fun hx' => ?_)
    · have q_x : x = x' := n_inj (by omega) (by omega) (e1.symm.trans e1')
      subst q_x
      have er := isLD_u hd hd'
      subst er
      exact tl_z hm kv mv hS hL (fun _ => e3) kk
    · exact absurd (i_in (lo := 0) (hi := 40) e1 (by omega) (by omega) (by decide)) hx'
  · obtain ⟨sd', z', hm⟩ := lq_mid hq f
    refine ⟨hm.2.1.1.1, ?_⟩
    rw [← mk_rd (G := G1) (m := m) (ℓ := ℓ)]
    refine sm_leastDrain hm.2.1.1 hm.2.1.2.1 hw hb (fun x' t' r' e1' x2' mv kv hd' => ?_) (fun hx' => ?_)
    · exact absurd (i_in (lo := 0) (hi := 40) e1' (by omega) (by omega) (by decide)) hx
    · exact tl_z hm smZ_tT hm.2.1.2.1 hS hL (fun z => absurd z (by decide)) kk
end CASES
