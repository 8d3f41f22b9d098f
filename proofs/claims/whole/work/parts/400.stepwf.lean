/-! ===== the state behind a step ===== -/
/-- how many of the first n requests are waiting -/
def wtN (R : Nat → Nat → Nat) : Nat → Nat
  | 0 => 0
  | n + 1 => wtN R n + if R n 5 = 0 then 1 else 0
def wt (S : St) : Nat := wtN (zrq S) (zn S 6)
theorem wtN_le (R : Nat → Nat → Nat) : ∀ n, wtN R n ≤ n
  | 0 => Nat.le_refl _
  | n + 1 => by
    have := wtN_le R n
    show wtN R n + (if R n 5 = 0 then 1 else 0) ≤ n + 1
    split <;> omega
theorem wtN_cg {R R' : Nat → Nat → Nat} : ∀ n, (∀ i, i < n → R' i 5 = R i 5) → wtN R' n = wtN R n
  | 0, _ => rfl
  | n + 1, h => by
    show wtN R' n + (if R' n 5 = 0 then 1 else 0) = wtN R n + (if R n 5 = 0 then 1 else 0)
    rw [wtN_cg n (fun i hi => h i (by omega)), h n (by omega)]
theorem wtN_q {R : Nat → Nat → Nat} {q : Nat} {f : Nat → Nat} (h5 : R q 5 = 0) (hf : f 5 ≠ 0) : ∀ n, q < n → wtN (va_up R q f) n + 1 = wtN R n
  | 0, h => absurd h (by omega)
  | n + 1, h => by
    show wtN (va_up R q f) n + (if va_up R q f n 5 = 0 then 1 else 0) + 1 = wtN R n + (if R n 5 = 0 then 1 else 0)
    by_cases e : q = n
    · subst e
      rw [va_up_self, if_neg hf, if_pos h5, wtN_cg q (fun i hi => by rw [va_up_ne _ _ (by omega)])]
    · rw [va_up_ne _ _ (fun z => e z.symm)]
      have := wtN_q h5 hf n (by omega)
      omega
theorem wtN_m {R : Nat → Nat → Nat} {M st cd n : Nat} (hst : st ≠ 0) (hm : ∀ i, mb M i = true → i < n ∧ R i 5 = 0) : ∀ k, wtN (rqs R M st cd n) k + cntM M k = wtN R k
  | 0 => rfl
  | k + 1 => by
    have ih := wtN_m (cd := cd) hst hm k
    rw [cntM_s]
    show wtN (rqs R M st cd n) k + (if rqs R M st cd n k 5 = 0 then 1 else 0) + _ = wtN R k + (if R k 5 = 0 then 1 else 0)
    by_cases e : mb M k = true
    · have e5 : rqs R M st cd n k 5 = st := by unfold rqs; rw [if_pos ⟨e, (hm k e).1⟩, if_pos rfl]
      rw [e5, if_neg hst, if_pos e, if_pos (hm k e).2]
      omega
    · have e5 : rqs R M st cd n k 5 = R k 5 := by unfold rqs; rw [if_neg (fun z => e z.1)]
      rw [e5, if_neg e]
      omega
theorem wtN_0 {R : Nat → Nat → Nat} {n : Nat} (h : n ≤ fwN R n) : wtN R n = 0 := by
  have hh := (fwN_is R n).2
  have : ∀ k, k ≤ n → wtN R k = 0 := by
    intro k
    induction k with
    | zero => intro _; rfl
    | succ k ih =>
      intro hk
      show wtN R k + (if R k 5 = 0 then 1 else 0) = 0
      rw [ih (by omega), if_neg (hh k (by omega))]
  exact this n (Nat.le_refl _)
theorem wtN_pos {R : Nat → Nat → Nat} {q : Nat} (h5 : R q 5 = 0) : ∀ n, q < n → 1 ≤ wtN R n
  | 0, h => absurd h (by omega)
  | n + 1, h => by
    show 1 ≤ wtN R n + (if R n 5 = 0 then 1 else 0)
    by_cases e : q = n
    · subst e; rw [if_pos h5]; omega
    · have := wtN_pos h5 n (by omega); omega
theorem bt_le {a b d n : Nat} (h : a ≤ b + d + 1100 * (n + 1)) (hd : d ≤ 1000) (hn : n ≤ 3) : a ≤ b + 5400 := by
  have h2 : 1100 * (n + 1) ≤ 1100 * 4 := Nat.mul_le_mul_left _ (by omega)
  have h3 : (1100 * 4 : Nat) = 4400 := by decide
  rw [h3] at h2
  generalize 1100 * (n + 1) = y at *
  have h4 : b + d + y ≤ b + 1000 + 4400 := Nat.add_le_add (Nat.add_le_add_left hd b) h2
  have h5 : b + 1000 + 4400 = b + 5400 := by rw [Nat.add_assoc]
  rw [h5] at h4
  exact Nat.le_trans h h4
section STEPWF
variable {S : St} {g : Gp} {b : List Nat} {cd j : Nat}
theorem rqs_wf {M st : Nat} (h : wfQ (zn S 6) (zrq S)) (hst : st ≤ 2) (hcd : cd < 256) : wfQ (zn S 6) (rqs (zrq S) M st cd (zn S 6)) := by
  refine ⟨fun i hi => ?_, fun i hi => ?_⟩
  · by_cases e : mb M i = true
    · obtain ⟨a0, a1, a2, a3, a4, a5, a6, a7, a8, a9, a10⟩ := h.1 i hi
      have er : rqs (zrq S) M st cd (zn S 6) i = fun k => if k = 5 then st else if k = 6 then cd else zrq S i k := by
        funext k; unfold rqs; rw [if_pos ⟨e, hi⟩]
      rw [er]
      exact ⟨a0, a1, a2, a3, a4, a5, a6, a7, hst, hcd, a10⟩
    · have er : rqs (zrq S) M st cd (zn S 6) i = zrq S i := by
        funext k; unfold rqs; rw [if_neg (fun z => e z.1)]
      rw [er]
      exact h.1 i hi
  · rw [rqs_n hi]; exact h.2 i hi
theorem done_wf (hw : WF S) (hval : ∀ k, k < gwd g → gval S g b k < 65536) : WF (doneS S g b j) := by
  obtain ⟨w1, w2, w3, w4, w5⟩ := hw
  obtain ⟨_, _, _, v4, _⟩ := sR_wf (g := g) (b := b) ⟨w1, w2, w3, w4, w5⟩ hval
  exact ⟨w1, w2, rqs_wf w3 (by decide) (by decide), v4, w5⟩
theorem fail_wf (hw : WF S) (hcd : cd < 256) : WF (failS S g cd j) := by
  obtain ⟨w1, w2, w3, w4, w5⟩ := hw
  refine ⟨w1, w2, rqs_wf w3 (by decide) hcd, fun p => ?_, w5⟩
  show (if gw S g then cfw (zcf S) (gdv S g) (glo g) (gwd g) (fun _ => 0) else zcf S) p ≤ 1 ∧ ((if gw S g then cfw (zcf S) (gdv S g) (glo g) (gwd g) (fun _ => 0) else zcf S) p = 1 → _)
  by_cases e : gw S g = true
  · rw [if_pos e]
    unfold cfw
    split
    · exact ⟨Nat.zero_le 1, fun z => absurd (show (0 : Nat) = 1 from z) (by decide)⟩
    · exact w4 p
  · rw [if_neg e]
    exact w4 p
theorem byC_wf {q : Nat} (hw : WF S) (hq : q < zn S 6) : WF (byC S q) := by
  obtain ⟨w1, w2, w3, w4, w5⟩ := hw
  refine ⟨w1, w2, ⟨fun i hi => ?_, fun i hi => ?_⟩, w4, w5⟩
  · show wfR (va_up (zrq S) q _ i)
    by_cases e : i = q
    · subst e
      obtain ⟨a0, a1, a2, a3, a4, a5, a6, a7, a8, a9, a10⟩ := w3.1 i hi
      rw [va_up_self]
      exact ⟨a0, a1, a2, a3, a4, a5, a6, a7, by show 1 ≤ 2; decide, by show 0 < 256; decide, a10⟩
    · rw [va_up_ne _ _ e]; exact w3.1 i hi
  · have hi' : zn S 6 ≤ i := hi
    show va_up (zrq S) q _ i 5 = 0 ∧ va_up (zrq S) q _ i 6 = 0 ∧ va_up (zrq S) q _ i 8 = 0
    rw [va_up_ne _ _ (by omega)]; exact w3.2 i hi'
/-- what a step keeps, and by how much it moves -/
def stM (S S' : St) (e : Nat) : Prop := WF S' ∧ (∀ j, 1 ≤ j → j ≤ 6 → zn S' j = zn S j) ∧ zn S 0 ≤ zn S' 0 ∧ zn S' 0 ≤ zn S 0 + 5400 ∧ zn S' 7 ≤ zn S 7 + 1 ∧ zn S 12 ≤ zn S' 12 ∧ zn S' 12 ≤ zn S 12 + 1 ∧ (zL S').length ≤ (zL S).length + 4 ∧ wt S' + e = wt S
theorem step_ok (hw : WF S) : stM S (stepS S).1 (stepS S).2 ∧ ((stepS S).2 = 0 → (stepS S).1 = S ∧ wt S = 0) ∧ (stepS S).2 ≤ 40 := by
  by_cases e : zn S 6 ≤ fwN (zrq S) (zn S 6)
  · rw [stepS_0 e]
    exact ⟨⟨hw, fun _ _ _ => rfl, Nat.le_refl _, Nat.le_add_right _ _, Nat.le_succ _, Nat.le_refl _, Nat.le_succ _, Nat.le_add_right _ _, rfl⟩, fun _ => ⟨rfl, wtN_0 e⟩, Nat.zero_le 40⟩
  · have e' : fwN (zrq S) (zn S 6) < zn S 6 := by omega
    have e5 := fw_5 e'
    by_cases hc : isC S (fwN (zrq S) (zn S 6))
    · rw [stepS_c e hc]
      refine ⟨⟨byC_wf hw e', fun j h1 h2 => va_up_ne _ _ (by omega), Nat.le_refl _, Nat.le_add_right _ _, Nat.le_succ _, Nat.le_refl _, Nat.le_succ _, Nat.le_add_right _ _, ?_⟩, fun z => absurd (show (1 : Nat) = 0 from z) (by decide), show 1 ≤ 40 by decide⟩
      exact wtN_q e5 (show (1 : Nat) ≠ 0 by decide) (zn S 6) e'
    · rw [stepS_g e hc]
      have ho : GO S (grpG S) := by
        obtain ⟨q1, q2, q3, q4, q5, q6, q7, q8⟩ := grp_ok hw e'
        exact ⟨q1, q2, q3, q4, q5, q6, q7, q8, e'⟩
      have hp := grp_wfF hw e'
      revert ho hp
      generalize grpG S = g
      intro ho hp
      obtain ⟨s1, s2, s2', s3, s4, s5, s6, s8⟩ := hw.1
      have hU : WF (u1 (u1 S 7 (zn S 7 + 1)) 0 (zn S 0 + if zn S 8 = 1 then zn S 4 else 0)) := u7_wf hw _ _ (by omega) (by omega)
      obtain ⟨b1, b2, b3, b4, b5, b6, b7, b8⟩ := tr_ok hp (zn S 3 + 1) _ hU
      have hd4 : (if zn S 8 = 1 then zn S 4 else 0) ≤ 1000 := by split <;> omega
      have b3' : zn S 0 + (if zn S 8 = 1 then zn S 4 else 0) ≤ zn (triesS S (gfp S g)).1 0 := b3
      have b4' : zn (triesS S (gfp S g)).1 0 ≤ zn S 0 + (if zn S 8 = 1 then zn S 4 else 0) + 1100 * (zn S 3 + 1) := b4
      have b5' : (zL (triesS S (gfp S g)).1).length ≤ (zL S).length + (zn S 3 + 1) := b5
      have b6' : zn S 12 ≤ zn (triesS S (gfp S g)).1 12 := b6
      have b7' : zn (triesS S (gfp S g)).1 12 ≤ zn S 12 + 1 := b7
      have n7 : zn (triesS S (gfp S g)).1 7 = zn S 7 + 1 := b2.n3 (j := 7) (by decide) (by decide)
      have nj : ∀ j, 1 ≤ j → j ≤ 6 → zn (triesS S (gfp S g)).1 j = zn S j := fun j h1 h2 => by
        have := b2.n3 (j := j) (by omega) (by omega)
        refine this.trans ?_
        show va_up (va_up (zn S) 7 _) 0 _ j = _
        rw [va_up_ne _ _ (by omega), va_up_ne _ _ (by omega)]
      have er : zrq (triesS S (gfp S g)).1 = zrq S := b2.1
      have hoT : GO (triesS S (gfp S g)).1 g := GO.k (S := u1 (u1 S 7 (zn S 7 + 1)) 0 (zn S 0 + if zn S 8 = 1 then zn S 4 else 0)) ho b2
      have egf : gfp (triesS S (gfp S g)).1 g = gfp S g := gfp_k (S := u1 (u1 S 7 (zn S 7 + 1)) 0 (zn S 0 + if zn S 8 = 1 then zn S 4 else 0)) b2
      have hwT : WF (triesS S (gfp S g)).1 := b1
      have hfT : ∀ r, (triesS S (gfp S g)).2 = some r → fmt r.2.2 := fun r hr => (b8 r hr).1
      have hpT : wfF (gfp (triesS S (gfp S g)).1 g) := by rw [egf]; exact hp
      clear b1 b2 b3 b4 b5 b6 b7 b8 egf hU
      obtain ⟨o1, o2, o3, o4, o5, o6, o7, o8, o9⟩ := id ho
      have c1 : 1 ≤ cntM (gM g) 40 := cntM_pos o5 40 (by omega)
      have c40 : cntM (gM g) 40 = cntM (gM g) (zn S 6) := by
        have := cntM_fl (M := gM g) (a := zn S 6) (40 - zn S 6) (fun i h1 h2 => by
          cases hh : mb (gM g) i with
          | false => rfl
          | true => have := (o6 i hh).2.1; omega)
        rw [show zn S 6 + (40 - zn S 6) = 40 by omega] at this
        exact this
      have fin : ∀ (S' : St) (st cd' : Nat), st ≠ 0 → WF S' → (∀ j, j ≠ 15 → zn S' j = zn (triesS S (gfp S g)).1 j) → zL S' = zL (triesS S (gfp S g)).1 → zrq S' = rqs (zrq (triesS S (gfp S g)).1) (gM g) st cd' (zn (triesS S (gfp S g)).1 6) → stM S S' (cntM (gM g) 40) := by
        intro S' st cd' hst w z1 z2 z3
        have n6 := nj 6 (by decide) (by decide)
        refine ⟨w, fun j h1 h2 => (z1 j (by omega)).trans (nj j h1 h2), by rw [z1 0 (by decide)]; omega, (z1 0 (by decide)).symm ▸ bt_le b4' hd4 s3, by rw [z1 7 (by decide)]; omega, by rw [z1 12 (by decide)]; omega, by rw [z1 12 (by decide)]; omega, by rw [z2]; omega, ?_⟩
        unfold wt
        rw [z1 6 (by decide), z3, n6, er, c40]
        exact wtN_m hst (fun i hi => ⟨(o6 i hi).2.1, (o6 i hi).2.2.1⟩) _
      refine ⟨?_, fun z => absurd z (by show ¬ cntM (gM g) 40 = 0; omega), cntM_le _ _⟩
      show stM S (setS S g (triesS S (gfp S g))) (cntM (gM g) 40)
      revert fin hfT hwT hpT
      cases triesS S (gfp S g) with
      | mk T o =>
        intro hwT hfT hpT fin
        cases o with
        | none => exact fin _ 2 11 (by decide) (fail_wf hwT (by decide)) (fun j hj => va_up_ne _ _ hj) rfl rfl
        | some r =>
          have hfm := hfT r rfl
          unfold setS
          dsimp only
          split
          · exact fin _ 2 _ (by decide) (fail_wf hwT (gd_b hfm.2.2.1 2)) (fun j hj => va_up_ne _ _ hj) rfl rfl
          · refine fin _ 1 0 (by decide) (done_wf hwT (fun k _ => ?_)) (fun j hj => va_up_ne _ _ hj) rfl rfl
            unfold gval
            split
            · exact hpT.2.2.2.2.2.2 k
            · exact wd_lt hfm.2.2.1 _
end STEPWF
