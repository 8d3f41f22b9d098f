/-! ===== the reference: the members are settled ===== -/
theorem cntM_fl {M a : Nat} : ∀ b, (∀ i, a ≤ i → i < a + b → mb M i = false) → cntM M (a + b) = cntM M a
  | 0, _ => rfl
  | b + 1, h => by
    rw [← Nat.add_assoc, cntM_s, h (a + b) (by omega) (by omega), cntM_fl b (fun i h1 h2 => h i h1 (by omega))]
    simp
def mst (cd : Nat) : Nat := if cd = 0 then 1 else 2
def mx (S : St) (g : Gp) (b : List Nat) (cd i k : Nat) : Nat := if cd = 0 ∧ gw S g = false then wd b (3 + 2 * (zrq S i 2 - glo g + k)) else 0
def mcz (S : St) (g : Gp) (cd n p : Nat) : Prop := (cd ≠ 0 ∧ gw S g = true) ∧ ∃ i, i < n ∧ mb (gM g) i = true ∧ zrq S i 2 < 32 ∧ p = plc (gdv S g) (zrq S i 2)
noncomputable def mcf (S : St) (g : Gp) (cd n : Nat) : Nat → Nat := by
  classical
  exact fun p => if mcz S g cd n p then 0 else zcf S p
theorem mcf_p {S : St} {g : Gp} {cd n p : Nat} (h : mcz S g cd n p) : mcf S g cd n p = 0 := by unfold mcf; exact if_pos h
theorem mcf_no {S : St} {g : Gp} {cd n p : Nat} (h : ¬ mcz S g cd n p) : mcf S g cd n p = zcf S p := by unfold mcf; exact if_neg h
theorem mcf_n {S : St} {g : Gp} {cd n : Nat} (h : ¬ ((cd ≠ 0 ∧ gw S g = true) ∧ mb (gM g) n = true ∧ zrq S n 2 < 32)) : mcf S g cd (n + 1) = mcf S g cd n := by
  funext p
  by_cases e : mcz S g cd n p
  · rw [mcf_p e]
    obtain ⟨e1, i, e2, e3⟩ := e
    exact mcf_p ⟨e1, i, by omega, e3⟩
  · rw [mcf_no e]
    refine mcf_no (fun ⟨e1, i, e2, e3, e4, e5⟩ => ?_)
    by_cases q : i = n
    · subst q; exact h ⟨e1, e3, e4⟩
    · exact e ⟨e1, i, by omega, e3, e4, e5⟩
theorem mcf_y {S : St} {g : Gp} {cd n : Nat} (h1 : cd ≠ 0 ∧ gw S g = true) (h2 : mb (gM g) n = true) (h3 : zrq S n 2 < 32) : va_up (mcf S g cd n) (plc (gdv S g) (zrq S n 2)) 0 = mcf S g cd (n + 1) := by
  funext p
  by_cases q : p = plc (gdv S g) (zrq S n 2)
  · subst q; rw [va_up_self]; exact (mcf_p ⟨h1, n, by omega, h2, h3, rfl⟩).symm
  · rw [va_up_ne _ _ q]
    by_cases e : mcz S g cd n p
    · rw [mcf_p e]
      obtain ⟨e1, i, e2, e3⟩ := e
      exact (mcf_p ⟨e1, i, by omega, e3⟩).symm
    · rw [mcf_no e]
      refine (mcf_no (fun ⟨e1, i, e2, e3, e4, e5⟩ => ?_)).symm
      by_cases w : i = n
      · subst w; exact q e5
      · exact e ⟨e1, i, by omega, e3, e4, e5⟩
theorem mcf_y' {S : St} {g : Gp} {cd n : Nat} (h1 : cd ≠ 0 ∧ gw S g = true) (h2 : mb (gM g) n = true) (h3 : zrq S n 2 < 32) : va_up (mcf S g cd (n + 1)) (plc (gdv S g) (zrq S n 2)) 0 = mcf S g cd (n + 1) := va_idx (mcf_p ⟨h1, n, by omega, h2, h3, rfl⟩)
theorem mcf_0 {S : St} {g : Gp} {cd n : Nat} (h : ∀ i, mb (gM g) i = true → n ≤ i) : mcf S g cd n = zcf S := by
  funext p
  exact mcf_no (fun ⟨_, i, e2, e3, _⟩ => absurd (h i e3) (by omega))
theorem mcf_e {S : St} {g : Gp} {cd : Nat} (ho : GO S g) (hw : WF S) (hd : 1 ≤ gdv S g) : mcf S g cd (zn S 6) = if cd ≠ 0 ∧ gw S g = true then cfw (zcf S) (gdv S g) (glo g) (gwd g) (fun _ => 0) else zcf S := by
  obtain ⟨o1, o2, o3, o4, o5, o6, o7, o8, o9⟩ := ho
  by_cases hc : cd ≠ 0 ∧ gw S g = true
  · rw [if_pos hc]
    funext p
    unfold cfw
    by_cases e : mcz S g cd (zn S 6) p
    · rw [mcf_p e]
      obtain ⟨e1, i, e2, e3, e4, e5⟩ := e
      obtain ⟨m1, m2, m3, m4, m5, m6, m7⟩ := o6 i e3
      have w3 : 1 ≤ zrq S i 3 := (hw.2.2.1.1 i e2).2.2.2.2.1
      rw [if_pos]
      unfold gwd
      unfold plc at *
      omega
    · rw [mcf_no e, if_neg]
      intro z
      refine e ⟨hc, ?_⟩
      obtain ⟨i, i1, i2⟩ := o7 (gw_iff.mp hc.2) (glo g + (p - plc (gdv S g) (glo g))) (by omega) (by have := z.2.1; unfold gwd at this; omega)
      refine ⟨i, (o6 i i1).2.1, i1, ?_, ?_⟩
      · rw [i2]; unfold plc at *; omega
      · rw [i2]; unfold plc at *; omega
  · rw [if_neg hc]
    funext p
    exact mcf_no (fun z => hc z.1)
/-- the members before n are settled -/
noncomputable def sK (S : St) (g : Gp) (b : List Nat) (cd n : Nat) : St := mkS (zn S) (zrg S) (zro S) (ztp S) (zdl S) (zfl S) (rqs (zrq S) (gM g) (mst cd) cd n) (Ws (zW S) (gM g) (nI (zn S 0)) n) (Vs (zV S) (zrq S) (gM g) n (mx S g b cd)) (mcf S g cd n) (zcv S) (zct S) (zL S)
/-- and k values of n -/
noncomputable def sIn (S : St) (g : Gp) (b : List Nat) (cd n k : Nat) : St := mkS (zn S) (zrg S) (zro S) (ztp S) (zdl S) (zfl S) (rqs (zrq S) (gM g) (mst cd) cd n) (Ws (zW S) (gM g) (nI (zn S 0)) n) (va_up (Vs (zV S) (zrq S) (gM g) n (mx S g b cd)) n (fun j => if j < k then mx S g b cd n j else Vs (zV S) (zrq S) (gM g) n (mx S g b cd) n j)) (mcf S g cd (if k = 0 then n else n + 1)) (zcv S) (zct S) (zL S)
theorem rqs_n {R : Nat → Nat → Nat} {M st cd n i : Nat} (h : n ≤ i) : rqs R M st cd n i = R i := by
  funext j; unfold rqs; rw [if_neg (by omega)]
theorem Vs_n {V R : Nat → Nat → Nat} {M n i : Nat} {x : Nat → Nat → Nat} (h : n ≤ i) : Vs V R M n x i = V i := by
  funext j; unfold Vs; rw [if_neg (by omega)]
theorem sK_n {S : St} {g : Gp} {b : List Nat} {cd n : Nat} (h : ¬ mb (gM g) n = true) : sK S g b cd (n + 1) = sK S g b cd n := by
  unfold sK
  rw [mcf_n (fun z => h z.2.1), show rqs (zrq S) (gM g) (mst cd) cd (n + 1) = rqs (zrq S) (gM g) (mst cd) cd n by funext k; rw [rqs_s, if_neg (fun z => h z.2)], show Ws (zW S) (gM g) (nI (zn S 0)) (n + 1) = Ws (zW S) (gM g) (nI (zn S 0)) n by funext k; rw [Ws_s, if_neg (fun z => h z.2)], show Vs (zV S) (zrq S) (gM g) (n + 1) (mx S g b cd) = Vs (zV S) (zrq S) (gM g) n (mx S g b cd) by funext k; rw [Vs_s, if_neg (fun z => h z.2)]]
theorem sK_y {S : St} {g : Gp} {b : List Nat} {cd n : Nat} (h : mb (gM g) n = true) (h3 : zrq S n 3 ≠ 0) : u5 (sIn S g b cd n (zrq S n 3)) n (mst cd) cd = sK S g b cd (n + 1) := by
  have e1 : va_up (rqs (zrq S) (gM g) (mst cd) cd n) n (fun j => if j = 5 then mst cd else if j = 6 then cd else rqs (zrq S) (gM g) (mst cd) cd n n j) = rqs (zrq S) (gM g) (mst cd) cd (n + 1) := by
    funext k
    rw [rqs_s, rqs_n (Nat.le_refl n)]
    by_cases e : k = n
    · subst e; rw [va_up_self, if_pos ⟨rfl, h⟩]
    · rw [va_up_ne _ _ e, if_neg (fun z => e z.1)]
  have e2 : va_up (Ws (zW S) (gM g) (nI (zn S 0)) n) n (nI (zn S 0)) = Ws (zW S) (gM g) (nI (zn S 0)) (n + 1) := by
    funext k
    rw [Ws_s]
    by_cases e : k = n
    · subst e; rw [va_up_self, if_pos ⟨rfl, h⟩]
    · rw [va_up_ne _ _ e, if_neg (fun z => e z.1)]
  have e3 : va_up (Vs (zV S) (zrq S) (gM g) n (mx S g b cd)) n (fun j => if j < zrq S n 3 then mx S g b cd n j else Vs (zV S) (zrq S) (gM g) n (mx S g b cd) n j) = Vs (zV S) (zrq S) (gM g) (n + 1) (mx S g b cd) := by
    funext k
    rw [Vs_s, Vs_n (Nat.le_refl n)]
    by_cases e : k = n
    · subst e; rw [va_up_self, if_pos ⟨rfl, h⟩]
    · rw [va_up_ne _ _ e, if_neg (fun z => e z.1)]
  unfold sK
  rw [← e1, ← e2, ← e3]
  show mkS _ _ _ _ _ _ _ _ _ (mcf S g cd (if zrq S n 3 = 0 then n else n + 1)) _ _ _ = _
  rw [if_neg h3]
  rfl
theorem sK_i {S : St} {g : Gp} {b : List Nat} {cd n : Nat} : sIn S g b cd n 0 = sK S g b cd n := by
  unfold sIn sK
  rw [va_lt0, if_pos rfl]
theorem sK_0 {S : St} {g : Gp} {b : List Nat} {cd n : Nat} (h : ∀ i, mb (gM g) i = true → n ≤ i) : sK S g b cd n = S := by
  unfold sK
  rw [mcf_0 h, show rqs (zrq S) (gM g) (mst cd) cd n = zrq S by funext i j; unfold rqs; rw [if_neg (fun z => absurd (h i z.1) (by omega))], show Ws (zW S) (gM g) (nI (zn S 0)) n = zW S by funext i; unfold Ws; rw [if_neg (fun z => absurd (h i z.1) (by omega))], show Vs (zV S) (zrq S) (gM g) n (mx S g b cd) = zV S by funext i j; unfold Vs; rw [if_neg (fun z => absurd (h i z.1.1) (by omega))]]
  rfl
