/-! ===== the facade: step, finish, pass, time, group, frameByte, cacheAge, cached, clearCache, count ===== -/
section STEPQ
variable {S : St}
theorem step_rq (hw : WF S) : ∀ i j, (j < 5 → zrq (stepS S).1 i j = zrq S i j) ∧ ((∀ i, zrq S i 8 ≤ 1) → zrq (stepS S).1 i 8 ≤ 1) := by
  intro i j
  by_cases e : zn S 6 ≤ fwN (zrq S) (zn S 6)
  · rw [stepS_0 e]; exact ⟨fun _ => rfl, fun h => h i⟩
  · by_cases hc : isC S (fwN (zrq S) (zn S 6))
    · rw [stepS_c e hc]
      refine ⟨fun hj => ?_, fun h => ?_⟩
      · show va_up (zrq S) _ _ i j = _
        by_cases ei : i = fwN (zrq S) (zn S 6)
        · rw [← ei, va_up_self]
          show (if j = 5 then 1 else if j = 6 then 0 else if j = 8 then 1 else zrq S i j) = _
          rw [if_neg (by omega), if_neg (by omega), if_neg (by omega)]
        · rw [va_up_ne _ _ ei]
      · show va_up (zrq S) _ _ i 8 ≤ 1
        by_cases ei : i = fwN (zrq S) (zn S 6)
        · rw [← ei, va_up_self]; exact Nat.le_refl 1
        · rw [va_up_ne _ _ ei]; exact h i
    · rw [stepS_g e hc]
      have hp := grp_wfF hw (show fwN (zrq S) (zn S 6) < zn S 6 by omega)
      have hU : WF (u1 (u1 S 7 (zn S 7 + 1)) 0 (zn S 0 + if zn S 8 = 1 then zn S 4 else 0)) := u7_wf hw _ _ (by omega) (by omega)
      obtain ⟨_, b2, _⟩ := tr_ok hp (zn S 3 + 1) _ hU
      have er : zrq (triesS S (gfp S (grpG S))).1 = zrq S := b2.1
      have fin : ∀ (T : St) (st cd n : Nat), zrq T = rqs (zrq (triesS S (gfp S (grpG S))).1) (gM (grpG S)) st cd n → (j < 5 → zrq T i j = zrq S i j) ∧ ((∀ i, zrq S i 8 ≤ 1) → zrq T i 8 ≤ 1) := by
        intro T st cd n e
        rw [e, er]
        unfold rqs
        refine ⟨fun hj => ?_, fun h => ?_⟩
        · split
          · rw [if_neg (by omega), if_neg (by omega)]
          · rfl
        · split
          · exact h i
          · exact h i
      show (j < 5 → zrq (setS S (grpG S) (triesS S (gfp S (grpG S)))) i j = _) ∧ (_ → zrq (setS S (grpG S) (triesS S (gfp S (grpG S)))) i 8 ≤ 1)
      revert fin
      cases triesS S (gfp S (grpG S)) with
      | mk T o =>
        intro fin
        cases o with
        | none => exact fin _ _ _ _ rfl
        | some r =>
          unfold setS
          dsimp only
          split
          · exact fin _ _ _ _ rfl
          · exact fin _ _ _ _ rfl
theorem run_rq : ∀ (n : Nat) (S : St), WF S → (∀ i j, j < 5 → zrq (runS n S) i j = zrq S i j) ∧ ((∀ i, zrq S i 8 ≤ 1) → ∀ i, zrq (runS n S) i 8 ≤ 1) ∧ zn S 12 ≤ zn (runS n S) 12
  | 0, _, _ => ⟨fun _ _ _ => rfl, fun h => h, Nat.le_refl _⟩
  | n + 1, S, hw => by
    obtain ⟨⟨a1, a2, a3, a4, a5, a6, a7, a8, a9⟩, a10, a11⟩ := step_ok hw
    obtain ⟨b1, b2, b3⟩ := run_rq n _ a1
    exact ⟨fun i j hj => (b1 i j hj).trans ((step_rq hw i j).1 hj), fun h => b2 (fun i => (step_rq hw i 0).2 h), Nat.le_trans a6 b3⟩
end STEPQ
section FSTEP
variable {X : Xt} {sd : Nat → Nat} {G G' : Gt} {g c a z : Nat} {S S' : St} {L : Hr} {Pr : Int32 → Gt → Prop} {Px : String → Gt → Prop}
theorem rX.st {z' : Nat} (h : rX X G z) (k : cost G G' z z') : rX X G' z' := by
  obtain ⟨h1, h2⟩ := h
  obtain ⟨k1, k2, k3⟩ := k
  exact ⟨by omega, by omega⟩
theorem fx_ts (h : FX X sd G g c a S L z) (hr : rX X G z) (hw : WF S) (hb : bd S) (hsd : ∀ x, gH G ≤ x → sd x = 1)
    (k : ∀ G' z', FX X sd G' g c a (stepS S).1 L z' → ch G G' (fun x => sd x ≠ 7) → cost G G' z z' → Pr (nI (stepS S).2) G') : wX1_takeStep X G c Pr Px := by
  obtain ⟨q1, q2, q3⟩ := bd_t hw hb
  obtain ⟨hg, hl, zl, zq, zt, qs, rs, sp, pool, hcp, ht, ez⟩ := h
  have hzq := qu_z hcp.2.2.2.2.2.1
  have hzt := ht.zle
  obtain ⟨r1, r2⟩ := hr
  have n6 : zn (stepS S).1 6 = zn S 6 := (step_ok hw).1.2.1 6 (by decide) (by decide)
  refine sp_takeStep hcp hw (by decide) (by omega) (by omega) (by omega) hsd ⟨by omega, by omega, hg.2.2.2.2.2.2.2.2.2.1⟩ (fun G' zl' rs' sp' pool' cp' c' cs' _ _ => ?_)
  have pc : ∀ x, pAl sd 1 x → sd x ≠ 8 := fun x hx => by rcases hx with e | e | e <;> rw [e] <;> decide
  refine k G' (zl' + zq + zt) ⟨hg.keep c' pc, hl.kp hg c' pc, zl', zq, zt, qs, rs', sp', pool', cp', ?_, rfl⟩ (c'.mono (fun x _ hx => by rcases hx with e | e | e <;> rw [e] <;> decide)) ⟨?_, ?_, ?_⟩
  · have tk := ht.keep hg.2.2.2.1 c' (fun z => pc g z hg.2.2.2.2.2.1) (fun x hx => by rcases hx with e | e | e <;> rw [e] <;> decide)
    rcases tk with tk | ⟨d2, zl2, zq2, qs2, rs2, sp2, pool2, T, t1, t2, t3, t4, t5⟩
    · exact Or.inl tk
    · refine Or.inr ⟨d2, zl2, zq2, qs2, rs2, sp2, pool2, T, t1, t2, by rw [n6]; exact t3, fun k hk => ?_, t5⟩
      obtain ⟨u0, u1', u2, u3, u4⟩ := t4 k hk
      exact ⟨u0.trans ((step_rq hw k 0).1 (by decide)).symm, u1'.trans ((step_rq hw k 1).1 (by decide)).symm, u2.trans ((step_rq hw k 2).1 (by decide)).symm, u3.trans ((step_rq hw k 3).1 (by decide)).symm, u4.trans ((step_rq hw k 4).1 (by decide)).symm⟩
  · have := cs'.1; omega
  · have := cs'.2.1; omega
  · have := cs'.2.2; omega
theorem FX.g1 (h : FX X sd G g c a S L z) : gT G g = (1, 10) ∧ gR G 320 g = some c ∧ gT G c = (1, 2) ∧ gI G 71 c = nI (zn S 0) := ⟨h.1.1, h.1.2.1, h.k.1.2.1, h.k.2.2.1.1⟩
/-- new cells get the line's colour -/
theorem fx_col (h : FX X sd G g c a S L z) (n : Nat) : ∃ sd', (∀ x, x < gH G → sd' x = sd x) ∧ (∀ x, gH G ≤ x → sd' x = n) ∧ FX X sd' G g c a S L z := ⟨fun x => if x < gH G then sd x else n, fun x hx => if_pos hx, fun x hx => if_neg (by omega), h.rc (fun x hx => if_pos hx)⟩
theorem fx_step (h : FX X sd G g c a S L z) (hr : rX X G z) (hw : WF S) (hb : bd S)
    (k : ∀ G', FO X sd G g c a z (stepS S).1 L G' → Pr (nI (stepS S).2) G') : wX9_step X G g Pr Px := by
  obtain ⟨g1, g2, t1, _⟩ := h.g1
  obtain ⟨sd', e0, e1, h'⟩ := fx_col h 1
  refine ⟨g1, c, g2, t1, fx_ts h' hr hw hb e1 (fun G' z' f' c' k' => k G' ⟨sd', z', e0, f', c'.mono (fun x hx q => by rw [← e0 x hx]; exact q), k'.1, by have := k'.2.1; omega, by have := k'.2.2; omega⟩)⟩
theorem fx_finish (h : FX X sd G g c a S L z) (hr : rX X G z) (hw : WF S) (hb : bd S)
    (k : ∀ G', FO X sd G g c a z (allS S) L G' → Pr (nI (zn (allS S) 0)) G') : wX9_finish X G g Pr Px := by
  obtain ⟨g1, g2, t1, _⟩ := h.g1
  obtain ⟨sd', e0, e1, h'⟩ := fx_col h 1
  have h40 : zn S 6 ≤ 40 := hw.1.2.2.2.2.2.2.1
  have wl := wt_le (S := S)
  obtain ⟨⟨s1, s2, s3, s4, s5, s6, s7, s8, s9⟩, s10, s11⟩ := step_ok hw
  refine ⟨g1, c, g2, t1, fx_ts h' hr hw hb e1 (fun G1 z1 f1 c1 k1 => ?_)⟩
  refine ⟨fun K a0 x1 x2 => a0 = g ∧ ∃ T z' v j, FX X sd' K g c a T L z' ∧ ch G K (fun x => sd' x ≠ 7) ∧ cost G K z z' ∧ x1 = nI v ∧ v ≤ 40 ∧ x2 = nI j ∧ 1 ≤ j ∧ j ≤ 40 ∧ WF T ∧ bd T ∧ allS T = allS S ∧ (v = 0 → wt T = 0) ∧ wt T + j ≤ 40, fun _ _ _ x2 => 40 - x2.toNatClampNeg, ⟨rfl, _, z1, _, 1, f1, c1, k1, rfl, s11, rfl, by decide, by decide, s1, bd_step hw hb, all_s hw, fun e => by rw [(s10 e).1]; exact (s10 e).2, ?_⟩, ?_⟩
  · by_cases e : (stepS S).2 = 0
    · rw [(s10 e).1, (s10 e).2]; decide
    · omega
  · rintro K a0 x1 x2 ⟨rfl, T, z', v, j, fT, cT, kT, rfl, hv, rfl, j1, j2, hwT, hbT, eA, ev, ej⟩
    obtain ⟨g1, g2, t1, t71⟩ := fT.g1
    have fin : wt T = 0 → gT K a0 = (1, 10) ∧ ∃ b21, gR K 320 a0 = some b21 ∧ gT K b21 = (1, 2) ∧ Pr (gI K 71 b21) K := fun e => by
      refine ⟨g1, c, g2, t1, ?_⟩
      rw [← eA, all_z e] at k
      rw [t71]
      exact k K ⟨sd', z', e0, fT, cT.mono (fun x hx q => by rw [← e0 x hx]; exact q), kT.1, by have := kT.2.1; omega, by have := kT.2.2; omega⟩
    refine ⟨fun q => fin ?_, fun q => ⟨fun q2 => fin (ev ?_), fun q2 => ⟨g1, c, g2, t1, ?_⟩⟩⟩
    · have := (n_le (a := 40) (by decide) (by omega)).mp q; omega
    · have := (n_le (b := 0) (by omega) (by decide)).mp q2; omega
    · have hj : j < 40 := Nat.lt_of_not_le (fun e => q ((n_le (a := 40) (by decide) (by omega)).mpr e))
      obtain ⟨⟨s1, s2, s3, s4, s5, s6, s7, s8, s9⟩, s10, s11⟩ := step_ok hwT
      refine fx_ts fT (hr.st kT) hwT hbT (fun x hx => e1 x (by have := cT.1; omega)) (fun G2 z2 f2 c2 k2 => ⟨⟨rfl, _, z2, _, j + 1, f2, cT.tr c2, cost_tr kT k2, rfl, s11, nI_1 j, by omega, by omega, s1, bd_step hwT hbT, (all_s hwT).trans eA, fun e => by rw [(s10 e).1]; exact (s10 e).2, ?_⟩, dec_up (L := 40) hj (by decide)⟩)
      by_cases e : (stepS T).2 = 0
      · rw [(s10 e).1, (s10 e).2]; omega
      · omega
theorem fx_time (h : FX X sd G g c a S L z) (k : FO X sd G g c a z S L G → Pr (nI (zn S 0)) G) : wX9_time X G g Pr := by
  obtain ⟨g1, g2, t1, t71⟩ := h.g1
  refine ⟨g1, c, g2, t1, ?_⟩
  rw [t71]; exact k h.f0
theorem fx_pass {x1 : Int32} (h : FX X sd G g c a S L z) (hr : rX X G z) (ht : zn S 0 < 2 ^ 30)
    (k1 : ¬ (0 ≤ x1 ∧ x1 ≤ 10000) → ∀ G', FO X sd G g c a z S L G' → Px "java/lang/IllegalArgumentException" G')
    (k2 : ∀ x, x1 = nI x → x ≤ 10000 → 10000000 < zn S 0 + x → ∀ G', FO X sd G g c a z S L G' → Px "java/lang/IllegalStateException" G')
    (k3 : ∀ x G', x1 = nI x → x ≤ 10000 → zn S 0 + x ≤ 10000000 → FO X sd G g c a z (u1 S 0 (zn S 0 + x)) L G' → Pr (nI (zn S 0 + x)) G') : wX9_pass X G g x1 Pr Px := by
  obtain ⟨g1, g2, t1, t71⟩ := h.g1
  obtain ⟨hk, hs, hn, hd, hc⟩ := h.k
  refine fx_rng h hr k1 (fun x1' x2' => ?_)
  obtain ⟨x, rfl, _, x3⟩ := i_nat (lo := 0) (hi := 10000) (by decide) (by decide) x1' x2'
  refine ⟨g1, c, g2, t1, ?_⟩
  rw [t71, show (10000000 : Int32) - nI x = nI (10000000 - x) from n_sub (a := 10000000) (by omega), n_le (by omega) (by omega)]
  refine ⟨fun q => ⟨g1, c, g2, t1, t1, ?_⟩, fun q => fx_ex h hr (k2 x rfl x3 (by omega))⟩
  rw [t71, n_add]
  rintro G1 rfl
  refine ⟨g1, c, g2, t1, ?_⟩
  rw [gI_sI, if_pos ⟨rfl, rfl⟩]
  obtain ⟨f1, f2⟩ := h.gen (G' := sI G 71 c (nI (zn S 0 + x))) (S' := u1 S 0 (zn S 0 + x)) (P := fun y => y = c) (cg.sI rfl) (fun y e => by omega) (hn.s71 _) (hd.keep (fun y q1 q2 => eqAt.sI (by omega))) (by
    rw [zn_u1s]
    exact (hc.tm (by omega)).keep (eqAt.sI (by omega)) (eqAt.sI (by omega))) rfl rfl rfl rfl rfl
  exact k3 x _ rfl x3 (by omega) (f1.fc f2)
theorem fx_count {x1 : Int32} (h : FX X sd G g c a S L z) (hr : rX X G z)
    (k1 : ¬ (0 ≤ x1 ∧ x1 ≤ 5) → ∀ G', FO X sd G g c a z S L G' → Px "java/lang/IndexOutOfBoundsException" G')
    (k3 : ∀ i, x1 = nI i → i ≤ 5 → FO X sd G g c a z S L G → Pr (nI (zn S (10 + i))) G) : wX9_count X G g x1 Pr Px := by
  obtain ⟨g1, g2, t1, t71⟩ := h.g1
  obtain ⟨hk, hs, hn, hd, hc⟩ := h.k
  obtain ⟨t0, t1, ⟨r1, r2, r3, r4, r5, r6, r7⟩, ⟨t2, t3, t4, b0, b1, b2⟩, _⟩ := id hk
  refine ⟨fun q => fx_ex h hr (k1 (fun e => absurd e.1 (Int32.not_le.mpr q))), fun q => ⟨fun q2 => ?_, fun q2 => fx_ex h hr (k1 (fun e => q2 ((i_lt (n := 5) (by decide)).mpr e.2)))⟩⟩
  obtain ⟨i, rfl, _, hi⟩ := i_nat (lo := 0) (hi := 5) (by decide) (by decide) (Int32.not_lt.mp q) ((i_lt (n := 5) (by decide)).mp q2)
  refine ⟨g1, c, g2, t1, c + 2, r2, by rw [t3], by rw [t3]; exact n_in (by omega) (by decide), ?_⟩
  rw [n_cl (by omega), hn.2.2.2.2 i (by omega)]
  exact k3 i rfl hi h.f0
theorem fx_cacheAge {x1 x2 : Int32} (h : FX X sd G g c a S L z) (hr : rX X G z) (hw : WF S)
    (k1 : ¬ ((1 ≤ x1 ∧ x1 ≤ 3) ∧ 0 ≤ x2 ∧ x2 ≤ 31) → ∀ G', FO X sd G g c a z S L G' → Px "java/lang/IndexOutOfBoundsException" G')
    (k2 : ∀ d r, x1 = nI d → 1 ≤ d → d ≤ 3 → x2 = nI r → r < 32 → zcf S (plc d r) ≠ 1 → FO X sd G g c a z S L G → Pr (-1) G)
    (k3 : ∀ d r, x1 = nI d → 1 ≤ d → d ≤ 3 → x2 = nI r → r < 32 → zcf S (plc d r) = 1 → FO X sd G g c a z S L G → Pr (nI (zn S 0 - zct S (plc d r))) G) : wX9_cacheAge X G g x1 x2 Pr Px := by
  obtain ⟨g1, g2, t1, t71⟩ := h.g1
  obtain ⟨hk, hs, hn, hd, hc⟩ := h.k
  obtain ⟨t0, t1, ⟨r1, r2, r3, r4, r5, r6, r7⟩, _, _, _, _, hCT, _⟩ := id hk
  refine fx_reg h hr k1 (fun d r e1 d1 d2 e2 hr2 => ⟨g1, c, g2, t1, c + 16, r4, g1, c, g2, t1, hCT.1, ?_⟩)
  subst e1 e2
  rw [t71]
  exact sp_ageOf hCT hc ⟨d1, d2⟩ (by omega) (fun q1 q2 _ => k3 d r rfl d1 d2 rfl hr2 q2 h.f0) (fun q => k2 d r rfl d1 d2 rfl hr2 (fun e => q ⟨hr2, e⟩) h.f0)
theorem fx_cached {x1 x2 : Int32} (h : FX X sd G g c a S L z) (hr : rX X G z) (hw : WF S)
    (k1 : ¬ ((1 ≤ x1 ∧ x1 ≤ 3) ∧ 0 ≤ x2 ∧ x2 ≤ 31) → ∀ G', FO X sd G g c a z S L G' → Px "java/lang/IndexOutOfBoundsException" G')
    (k2 : ∀ d r, x1 = nI d → 1 ≤ d → d ≤ 3 → x2 = nI r → r < 32 → zcf S (plc d r) ≠ 1 → FO X sd G g c a z S L G → Pr (-1) G)
    (k3 : ∀ d r, x1 = nI d → 1 ≤ d → d ≤ 3 → x2 = nI r → r < 32 → zcf S (plc d r) = 1 → FO X sd G g c a z S L G → Pr (nI (zcv S (plc d r))) G) : wX9_cached X G g x1 x2 Pr Px := by
  obtain ⟨g1, g2, t1, t71⟩ := h.g1
  obtain ⟨hk, hs, hn, hd, hc⟩ := h.k
  obtain ⟨t0, t1, ⟨r1, r2, r3, r4, r5, r6, r7⟩, _, _, _, _, hCT, _⟩ := id hk
  refine fx_reg h hr k1 (fun d r e1 d1 d2 e2 hr2 => ⟨g1, c, g2, t1, c + 16, r4, hCT.1, ?_⟩)
  subst e1 e2
  refine sp_valueOf hCT hc ⟨d1, d2⟩ hr2 ?_
  unfold cvl
  by_cases e : zcf S (plc d r) = 1
  · rw [if_pos e]; exact k3 d r rfl d1 d2 rfl hr2 e h.f0
  · rw [if_neg e]; exact k2 d r rfl d1 d2 rfl hr2 e h.f0
theorem fx_clearCache (h : FX X sd G g c a S L z) (hw : WF S)
    (k : ∀ G', FO X sd G g c a z (ucf S (zerF (zcf S) 96)) L G' → Pr (nI (sumF (zcf S) 96)) G') : wX9_clearCache X G g Pr := by
  obtain ⟨g1, g2, t1, t71⟩ := h.g1
  obtain ⟨hk, hs, hn, hd, hc⟩ := h.k
  obtain ⟨t0, t1, ⟨r1, r2, r3, r4, r5, r6, r7⟩, _, _, _, _, hCT, _⟩ := id hk
  refine ⟨g1, c, g2, t1, c + 16, r4, hCT.1, sp_empty hCT hc (fun G1 cc1 c1 => ?_)⟩
  rw [← sum_cnt (fun p => (hw.2.2.2.1 p).1)]
  have e1 : ∀ x, x ≠ c + 16 + 1 → eqAt G G1 x := c1.2.2.2.2.2
  obtain ⟨f1, f2⟩ := h.gen (G' := G1) (S' := ucf S (zerF (zcf S) 96)) (P := fun y => y = c + 16 + 1) c1 (fun y e => by omega) (hn.keep (e1 _ (by omega)) (e1 _ (by omega)) (e1 _ (by omega))) (KD.keep (S := ucf S (zerF (zcf S) 96)) hd (fun y q1 q2 => e1 y (by omega))) (fun p hp => by
    have e : zcf (ucf S (zerF (zcf S) 96)) p = 0 := if_pos hp
    rw [e]
    exact ⟨fun z => absurd z (by decide), fun _ => (cc1 p hp).2 (show (0 : Nat) ≠ 1 by decide)⟩) rfl rfl rfl rfl rfl
  exact k G1 (f1.fc f2)
/-- the group is planned -/
theorem fx_plan {Pq : Gt → Prop} (h : FX X sd G g c a S L z) (hw : WF S) (ht : zn S 0 < 2 ^ 30)
    (k : ∀ G', FX X sd G' g c a S L z → cg G G' (fun x => sd x ≠ 7) → gJ G' 225 (c + 19) = lN (nxM S) → FR G' (c + 24) (c + 25) (nxF S) → Pq G') : wX1_plan X G c Pq Px := by
  obtain ⟨hg, hl, zl, zq, zt, qs, rs, sp, pool, hcp, ht', ez⟩ := h
  have col : ∀ x, pP c x → sd x = 2 ∨ sd x = 3 := fun x hx => by
    rcases hx with e | e | e
    · rw [e]; exact Or.inl hcp.2.1.u
    · rw [e]; exact Or.inr (hcp.2.1.r (by omega) (by omega) (by omega))
    · rw [e]; exact Or.inr (hcp.2.1.r (by omega) (by omega) (by omega))
  have fin : ∀ G', CP X sd 1 G' c 166 zl zq qs rs sp [] pool S true → cg G G' (pP c) → FX X sd G' g c a S L z ∧ cg G G' (fun x => sd x ≠ 7) := fun G' cp' c' => by
    have p8 : ∀ x, pP c x → sd x ≠ 8 := fun x hx => by rcases col x hx with e | e <;> rw [e] <;> decide
    exact ⟨⟨hg.keep c'.ch p8, hl.kp hg c'.ch p8, zl, zq, zt, qs, rs, sp, pool, cp', ht'.keep hg.2.2.2.1 c'.ch (fun z => p8 g z hg.2.2.2.2.2.1) (fun x hx => by rcases col x hx with e | e <;> rw [e] <;> decide), ez⟩, c'.mono (fun x hx => by rcases col x hx with e | e <;> rw [e] <;> decide)⟩
  refine sp_plan hcp hw ht (fun G1 e1 cp1 j1 fr1 c1 => ?_) (fun G1 e1 hc cp1 j1 i1 fr1 c1 => ?_) (fun G1 e1 hc cp1 qg1 fr1 c1 => ?_)
  · obtain ⟨f1, f2⟩ := fin G1 cp1 c1
    exact k G1 f1 f2 (by rw [nxM_0 e1]; exact j1) (by rw [nxF_0 e1]; exact fr1)
  · obtain ⟨f1, f2⟩ := fin G1 cp1 c1
    exact k G1 f1 f2 (by rw [nxM_c (by omega) hc]; exact j1) (by rw [nxF_c (by omega) hc]; exact fr1)
  · obtain ⟨f1, f2⟩ := fin G1 cp1 c1
    exact k G1 f1 f2 (by rw [nxM_g (by omega) hc]; exact qg1.1) (by rw [nxF_g (by omega) hc]; exact fr1)
theorem fx_group {Pl : Int64 → Gt → Prop} (h : FX X sd G g c a S L z) (hw : WF S) (ht : zn S 0 < 2 ^ 30)
    (k : ∀ G', FO X sd G g c a z S L G' → Pl (lN (nxM S)) G') : wX9_group X G g Pl Px := by
  obtain ⟨g1, g2, t1, t71⟩ := h.g1
  refine ⟨g1, c, g2, t1, fx_plan h hw ht (fun G1 f1 c1 j1 fr1 => ?_)⟩
  obtain ⟨g1, g2, t1, t71⟩ := f1.g1
  obtain ⟨zq, qs, hq, hl, _, _, _, r5, u1', u2, u3⟩ := f1.q
  refine ⟨g1, c, g2, t1, c + 19, r5, u1', ?_⟩
  rw [j1]
  exact k G1 (f1.fc c1)
theorem fx_frameByte {x1 : Int32} (h : FX X sd G g c a S L z) (hr : rX X G z) (hw : WF S) (ht : zn S 0 < 2 ^ 30)
    (k1 : ¬ 0 ≤ x1 → ∀ G', FO X sd G g c a z S L G' → Px "java/lang/IndexOutOfBoundsException" G')
    (k3 : ∀ G', 0 ≤ x1 → FO X sd G g c a z S L G' → Pr (fbV S x1) G') : wX9_frameByte X G g x1 Pr Px := by
  obtain ⟨g1, g2, t1, t71⟩ := h.g1
  refine ⟨fun q => ⟨g1, c, g2, t1, fx_plan h hw ht (fun G1 f1 c1 j1 fr1 => ?_)⟩, fun q => fx_ex h hr (k1 q)⟩
  obtain ⟨g1, g2, t1, t71⟩ := f1.g1
  obtain ⟨t0, _, ⟨r1, r2, r3, r4, r5, r6, r7⟩, _, _, _, _, _, ⟨f11, _⟩, _⟩ := id f1.k.1
  have kk := k3 G1 q (f1.fc c1)
  unfold fbV at kk
  refine ⟨g1, c, g2, t1, c + 24, r7, f11, ?_⟩
  rw [fr1.2.2.2.1]
  refine ⟨fun q2 => by rw [if_pos q2] at kk; exact kk, fun q2 => ⟨g1, c, g2, t1, c + 24, r7, f11, ?_⟩⟩
  rw [if_neg q2] at kk
  have hl : (nxF S).length < 2 ^ 31 := by have := fr1.2.2.2.2.1; omega
  obtain ⟨x, rfl, hx⟩ := i_natlt hl q (Int32.not_le.mp q2)
  rw [n_cl (by omega)] at kk
  exact sp_byteAt fr1 (by omega) kk
end FSTEP
