/-! ===== the reference: settles, steps ===== -/
theorem rp_fit {p : Fp} {l : List Nat} (hp : wfF p) (hf : fmt l) (hfit : fitsB l (fbs p) = true) : (128 ≤ l.getD 1 0 → 128 < l.getD 1 0 ∧ 1 ≤ l.getD 2 0) ∧ (¬ 128 ≤ l.getD 1 0 → fisW p = false → l.length = 5 + 2 * fwd p) := by
  obtain ⟨f1, f2, f3⟩ := fitsB_iff.mp hfit
  obtain ⟨t1, t2, t3, t4, t5, t6⟩ := fby_tells (d := fd p) (lo := flo p) (w := fwd p) (isW := fisW p) (wr := fwr p) hp.2.2.1
  have t2' : (fbs p).getD 1 0 = fnc (fisW p) (fwd p) := t2
  rw [t2'] at f2
  have hv := fnc_v (fisW p) (fwd p)
  refine ⟨fun z => ⟨by omega, (hf.2.2.2.1 z).2⟩, fun z e => ?_⟩
  have en : fnc (fisW p) (fwd p) = 3 := by rw [e]; rfl
  rw [en] at f2
  have t5' : wd (fbs p) 4 = fwd p := by
    have := t5
    rw [e] at this
    have ew : fbs p = fby (fd p) (flo p) (fwd p) false (fwr p) := by unfold fbs; rw [e]
    rw [ew]
    exact this
  rcases f2 with q | ⟨q1, q2 | q2⟩
  · omega
  · have := hf.2.2.2.2.1 (Or.inr q1) (by rw [q2.2]; omega)
    rw [this, q2.2, t5']
  · exact absurd rfl q2.1
section MSET3
variable {X : Xt} {G : Gt} {m : Nat} {ℓ : Nat → Nat} {t : Tt} {S : St} {g : Gp} {b : List Nat} {cd : Nat}
theorem sR_wf (hw : WF S) (hval : ∀ k, k < gwd g → gval S g b k < 65536) : WF (u3 S (cfw (zcf S) (gdv S g) (glo g) (gwd g) (fun _ => 1)) (cfw (zcv S) (gdv S g) (glo g) (gwd g) (gval S g b)) (cfw (zct S) (gdv S g) (glo g) (gwd g) (fun _ => zn S 0))) := by
  obtain ⟨w1, w2, w3, w4, w5⟩ := hw
  refine ⟨w1, w2, w3, fun p => ?_, w5⟩
  show cfw (zcf S) (gdv S g) (glo g) (gwd g) (fun _ => 1) p ≤ 1 ∧ (cfw (zcf S) (gdv S g) (glo g) (gwd g) (fun _ => 1) p = 1 → cfw (zcv S) (gdv S g) (glo g) (gwd g) (gval S g b) p < 65536 ∧ cfw (zct S) (gdv S g) (glo g) (gwd g) (fun _ => zn S 0) p ≤ zn S 0)
  unfold cfw
  by_cases e : plc (gdv S g) (glo g) ≤ p ∧ p < plc (gdv S g) (glo g) + gwd g ∧ p < 32 * gdv S g
  · rw [if_pos e, if_pos e, if_pos e]
    exact ⟨Nat.le_refl _, fun _ => ⟨hval _ (by omega), Nat.le_refl _⟩⟩
  · rw [if_neg e, if_neg e, if_neg e]
    exact w4 p
theorem l_done {j : Nat} (hw : WF S) (ho : GO S g) (hd : 1 ≤ gdv S g) (hval : ∀ k, k < gwd g → gval S g b k < 65536) : u1 (sK (u3 S (cfw (zcf S) (gdv S g) (glo g) (gwd g) (fun _ => 1)) (cfw (zcv S) (gdv S g) (glo g) (gwd g) (gval S g b)) (cfw (zct S) (gdv S g) (glo g) (gwd g) (fun _ => zn S 0))) g b 0 (zn S 6)) 15 j = doneS S g b j := by
  have hw' := sR_wf (g := g) (b := b) hw hval
  have ho' : GO (u3 S (cfw (zcf S) (gdv S g) (glo g) (gwd g) (fun _ => 1)) (cfw (zcv S) (gdv S g) (glo g) (gwd g) (gval S g b)) (cfw (zct S) (gdv S g) (glo g) (gwd g) (fun _ => zn S 0))) g := ho
  have em : mcf (u3 S (cfw (zcf S) (gdv S g) (glo g) (gwd g) (fun _ => 1)) (cfw (zcv S) (gdv S g) (glo g) (gwd g) (gval S g b)) (cfw (zct S) (gdv S g) (glo g) (gwd g) (fun _ => zn S 0))) g 0 (zn S 6) = zcf (u3 S (cfw (zcf S) (gdv S g) (glo g) (gwd g) (fun _ => 1)) (cfw (zcv S) (gdv S g) (glo g) (gwd g) (gval S g b)) (cfw (zct S) (gdv S g) (glo g) (gwd g) (fun _ => zn S 0))) := (mcf_e (cd := 0) ho' hw' hd).trans (if_neg (fun z => z.1 rfl))
  have ex : mx (u3 S (cfw (zcf S) (gdv S g) (glo g) (gwd g) (fun _ => 1)) (cfw (zcv S) (gdv S g) (glo g) (gwd g) (gval S g b)) (cfw (zct S) (gdv S g) (glo g) (gwd g) (fun _ => zn S 0))) g b 0 = fun i k => if gw S g then 0 else wd b (3 + 2 * (zrq S i 2 - glo g + k)) := by
    funext i k
    show (if 0 = 0 ∧ gw S g = false then wd b (3 + 2 * (zrq S i 2 - glo g + k)) else 0) = _
    by_cases hh : gw S g = true
    · exact (if_neg (show ¬ (0 = 0 ∧ gw S g = false) from fun z => absurd (z.2.symm.trans hh) (by decide))).trans (if_pos hh).symm
    · exact (if_pos (show 0 = 0 ∧ gw S g = false from ⟨rfl, by simpa using hh⟩)).trans (if_neg hh).symm
  unfold sK doneS
  rw [ex, em]
  rfl
theorem l_fail {j : Nat} (hw : WF S) (ho : GO S g) (hd : 1 ≤ gdv S g) (hc : cd ≠ 0) : u1 (sK S g b cd (zn S 6)) 15 j = failS S g cd j := by
  have em := mcf_e (cd := cd) ho hw hd
  have ex : mx S g b cd = fun _ _ => 0 := by
    funext i k
    unfold mx
    rw [if_neg (fun z => hc z.1)]
  have ec : (if cd ≠ 0 ∧ gw S g = true then cfw (zcf S) (gdv S g) (glo g) (gwd g) (fun _ => 0) else zcf S) = (if gw S g then cfw (zcf S) (gdv S g) (glo g) (gwd g) (fun _ => 0) else zcf S) := by
    by_cases hh : gw S g = true
    · rw [if_pos ⟨hc, hh⟩, if_pos hh]
    · rw [if_neg (fun z => hh z.2), if_neg hh]
  unfold sK failS
  rw [ex, em, ec, show mst cd = 2 from if_neg hc]
  rfl
theorem sm_settles {Pr : Int32 → Gt → Prop} (h : ML G m ℓ) (hv : MV (tA t 0) S) (hw : WF S) (ho : GO S g) (hg : MGs t S g) (hb : MWb t S g b cd) (hm : cd = 0 → MWs t S g) (hd : 1 ≤ gdv S g ∧ gdv S g ≤ 3) (hcd : cd < 256) (hval : cd = 0 → ∀ k, k < gwd g → gval S g b k < 65536)
    (kk0 : ∀ t', cd = 0 → MV (tA t' 0) (doneS S g b (zn S 15 + (cntM (gM g) 40 - 1))) → kVr t t' → Pr (nI (cntM (gM g) 40)) (mk G m ℓ t'))
    (kk1 : ∀ t', cd ≠ 0 → MV (tA t' 0) (failS S g cd (zn S 15 + (cntM (gM g) 40 - 1))) → kVr t t' → Pr (nI (cntM (gM g) 40)) (mk G m ℓ t')) : wX10_settles X (mk G m ℓ t) m (nI cd) Pr := by
  obtain ⟨o1, o2, o3, o4, o5, o6, o7, o8, o9⟩ := id ho
  have h6 : ∀ d, (zfl S d).length ≤ 6 := fun d => (hw.2.1 d).2.2.2.2.1
  have gg := hg
  obtain ⟨g1, g2, g3, g4, g5, g6⟩ := gg
  have w16 : gwd g ≤ 16 := by unfold gwd; split at o4 <;> omega
  have ehi : glo g + gwd g = ghi g := by unfold gwd; omega
  refine ⟨m_T h, ?_⟩
  rw [ml_gI, g5]
  refine ⟨fun K a0 y1 y2 => a0 = m ∧ y1 = nI cd ∧ ∃ k t', y2 = nI (glo g + k) ∧ k ≤ gwd g ∧ K = mk G m ℓ t' ∧ kVr t t' ∧ (cd ≠ 0 → MV (tA t' 0) S) ∧ (cd = 0 → MV (tA t' 0) (u3 S (cfw (zcf S) (gdv S g) (glo g) k (fun _ => 1)) (cfw (zcv S) (gdv S g) (glo g) k (gval S g b)) (cfw (zct S) (gdv S g) (glo g) k (fun _ => zn S 0)))), fun _ _ _ y2 => ghi g - y2.toNatClampNeg, ⟨rfl, rfl, 0, t, rfl, by omega, rfl, kVr.rf, fun _ => hv, fun _ => by rw [cfw_0, cfw_0, cfw_0]; exact hv⟩, ?_⟩
  rintro K a0 y1 y2 ⟨rfl, rfl, k, t', rfl, hk, rfl, ck, hv1, hv0⟩
  have hg' : MGs t' S g := MG.v hg ck
  obtain ⟨g1, g2, g3, g4, g5, g6⟩ := id hg'
  have dec : ∀ {k' : Nat}, k < gwd g → k' = glo g + k + 1 → ghi g - (nI k').toNatClampNeg < ghi g - (nI (glo g + k)).toNatClampNeg := fun a e => by
    rw [n_cl (by omega), n_cl (by omega)]; omega
  refine ⟨m_T h, ?_⟩
  rw [ml_gI, g6, n_le (by omega) (by omega), z0 (by omega)]
  refine ⟨fun z => ⟨m_T h, ?_⟩, fun z => ⟨fun z2 => ?_, fun z2 => ⟨m_T h, ?_⟩⟩⟩
  · have ek : k = gwd g := by omega
    subst ek
    rw [ml_gI, g2]
    by_cases hc : cd = 0
    · subst hc
      refine l_66 (b := b) (S := u3 S (cfw (zcf S) (gdv S g) (glo g) (gwd g) (fun _ => 1)) (cfw (zcv S) (gdv S g) (glo g) (gwd g) (gval S g b)) (cfw (zct S) (gdv S g) (glo g) (gwd g) (fun _ => zn S 0))) h (hv0 rfl) (sR_wf hw (hval rfl)) ho hg' (hb.v ck) hd hcd (fun t2 v2 k2 => kk0 t2 rfl ?_ (ck.tr k2))
      have e := l_done (j := zn S 15 + (cntM (gM g) 40 - 1)) hw ho hd.1 (hval rfl)
      rw [← e]
      exact v2
    · refine l_66 (b := b) h (hv1 hc) hw ho hg' (hb.v ck) hd hcd (fun t2 v2 k2 => kk1 t2 hc ?_ (ck.tr k2))
      rw [← l_fail (b := b) hw ho hd.1 hc]
      exact v2
  · exact ⟨⟨rfl, rfl, k + 1, t', nI_1 _, by omega, rfl, ck, hv1, fun e => absurd e z2⟩, by rw [nI_1]; exact dec (by omega) rfl⟩
  · have fin : ∀ T v, T = t' → v = nI (gval S g b k) → wX10_caches X (mk G a0 ℓ T) a0 (nI (glo g + k)) v (fun G' => (a0 = a0 ∧ nI cd = nI cd ∧ ∃ k' t', nI (glo g + k) + 1 = nI (glo g + k') ∧ k' ≤ gwd g ∧ G' = mk G a0 ℓ t' ∧ kVr t t' ∧ (cd ≠ 0 → MV (tA t' 0) S) ∧ (cd = 0 → MV (tA t' 0) (u3 S (cfw (zcf S) (gdv S g) (glo g) k' (fun _ => 1)) (cfw (zcv S) (gdv S g) (glo g) k' (gval S g b)) (cfw (zct S) (gdv S g) (glo g) k' (fun _ => zn S 0))))) ∧ ghi g - (nI (glo g + k) + 1).toNatClampNeg < ghi g - (nI (glo g + k)).toNatClampNeg) := by
      rintro T v rfl rfl
      refine sm_caches h (hv0 z2) h6 hd (by omega) g3 (fun t2 r32 v2 k2 => ⟨⟨rfl, rfl, k + 1, t2, nI_1 _, by omega, rfl, ck.tr k2, fun e => absurd z2 e, fun _ => ?_⟩, by rw [nI_1]; exact dec (by omega) rfl⟩) (fun r32 => ⟨⟨rfl, rfl, k + 1, T, nI_1 _, by omega, rfl, ck, fun e => absurd z2 e, fun _ => ?_⟩, by rw [nI_1]; exact dec (by omega) rfl⟩)
      · rw [cfw_y hd.1 r32, cfw_y hd.1 r32, cfw_y hd.1 r32]
        exact v2
      · rw [cfw_n hd.1 r32, cfw_n hd.1 r32, cfw_n hd.1 r32]
        exact hv0 z2
    have iw1 : zrq S (gq g) 4 ≤ 1 := (hw.2.2.1.1 _ o9).2.2.2.2.2.2.1
    have esub : nI (glo g + k) - nI (glo g) = nI k := by rw [n_sub (by omega)]; congr 1; omega
    rw [ml_gI, g4, ml_gI, g5, esub, z0 (by omega)]
    refine ⟨fun z3 => ⟨m_T h, m_T h, ?_⟩, fun z3 => ⟨m_T h, ℓ 11, m_RW h, m_T h, by rw [m_W h], by rw [m_W h]; exact n_in (by omega) (by decide), m_T h, ?_⟩⟩
    · have hgw : gw S g = false := by
        cases hh : gw S g with
        | false => rfl
        | true => have := gw_iff.mp hh; omega
      obtain ⟨r, q1, q2, q3, q4⟩ := hb.v ck z2 hgw
      refine sm_word (r := r) h q1 (by rw [q2]; omega) (by rw [q2]; omega) ⟨m_T h, fin t' _ rfl ?_⟩
      unfold gval
      rw [hgw, if_neg (by decide), q2]
    · have hgw : gw S g = true := gw_iff.mpr (by omega)
      refine fin t' _ rfl ?_
      rw [n_cl (by omega), ml_gA11 h, ck.1 11 (by decide), hm z2 hgw k (by omega)]
      unfold gval
      rw [hgw, if_pos rfl]
end MSET3
