/-! ===== the state, apart from listener and scratch: numbers (time 0, settings 1-5, many 6, groups 7, untaken 8, counts 10-15); registers, read-only, greatest, delay, faults by device 1-3; requests, their ends, values; cache: whether, what, when; line ===== -/
abbrev St : Type := (Nat → Nat) × (Nat → Nat → Nat) × (Nat → Nat → Nat) × (Nat → Nat) × (Nat → Nat) × (Nat → Fl) × (Nat → Nat → Nat) × (Nat → Int32) × (Nat → Nat → Nat) × (Nat → Nat) × (Nat → Nat) × (Nat → Nat) × List Rp
def zn (S : St) : Nat → Nat := S.1
def zrg (S : St) : Nat → Nat → Nat := S.2.1
def zro (S : St) : Nat → Nat → Nat := S.2.2.1
def ztp (S : St) : Nat → Nat := S.2.2.2.1
def zdl (S : St) : Nat → Nat := S.2.2.2.2.1
def zfl (S : St) : Nat → Fl := S.2.2.2.2.2.1
def zrq (S : St) : Nat → Nat → Nat := S.2.2.2.2.2.2.1
def zW (S : St) : Nat → Int32 := S.2.2.2.2.2.2.2.1
def zV (S : St) : Nat → Nat → Nat := S.2.2.2.2.2.2.2.2.1
def zcf (S : St) : Nat → Nat := S.2.2.2.2.2.2.2.2.2.1
def zcv (S : St) : Nat → Nat := S.2.2.2.2.2.2.2.2.2.2.1
def zct (S : St) : Nat → Nat := S.2.2.2.2.2.2.2.2.2.2.2.1
def zL (S : St) : List Rp := S.2.2.2.2.2.2.2.2.2.2.2.2
def mkS (n : Nat → Nat) (rg ro : Nat → Nat → Nat) (tp dl : Nat → Nat) (fl : Nat → Fl) (rq : Nat → Nat → Nat) (w : Nat → Int32) (v : Nat → Nat → Nat) (cf cv ct : Nat → Nat) (L : List Rp) : St := (n, rg, ro, tp, dl, fl, rq, w, v, cf, cv, ct, L)
def un (S : St) (n : Nat → Nat) : St := mkS n (zrg S) (zro S) (ztp S) (zdl S) (zfl S) (zrq S) (zW S) (zV S) (zcf S) (zcv S) (zct S) (zL S)
/-- one number set -/
def u1 (S : St) (j x : Nat) : St := un S (va_up (zn S) j x)
theorem zn_u1 {S : St} {j x i : Nat} : zn (u1 S j x) i = if i = j then x else zn S i := rfl
theorem zn_u1s {S : St} {j x : Nat} : zn (u1 S j x) j = x := if_pos rfl
theorem zn_u1n {S : St} {j x i : Nat} (h : i ≠ j) : zn (u1 S j x) i = zn S i := if_neg h
/-! the first waiting request; n: there is none -/
def fwN (R : Nat → Nat → Nat) : Nat → Nat
  | 0 => 0
  | n + 1 => if fwN R n < n then fwN R n else if R n 5 = 0 then n else n + 1
theorem fwN_le (R : Nat → Nat → Nat) : ∀ n, fwN R n ≤ n
  | 0 => Nat.le_refl _
  | n + 1 => by
    have := fwN_le R n
    unfold fwN
    split
    · omega
    · split <;> omega
theorem fwN_is (R : Nat → Nat → Nat) : ∀ n, (fwN R n < n → R (fwN R n) 5 = 0) ∧ ∀ j, j < fwN R n → R j 5 ≠ 0
  | 0 => ⟨fun h => absurd h (by simp [fwN]), fun j hj => absurd hj (by simp [fwN])⟩
  | n + 1 => by
    obtain ⟨h1, h2⟩ := fwN_is R n
    have h3 := fwN_le R n
    unfold fwN
    split
    · rename_i h; exact ⟨fun _ => h1 h, h2⟩
    · rename_i h
      have e : fwN R n = n := by omega
      rw [e] at h2
      split
      · rename_i h4; exact ⟨fun _ => h4, h2⟩
      · rename_i h4
        refine ⟨fun z => absurd z (by omega), fun j hj => ?_⟩
        by_cases e : j = n
        · rw [e]; exact h4
        · exact h2 j (by omega)
theorem fwN_eq {R : Nat → Nat → Nat} {n i : Nat} (hi : i ≤ n) (h1 : i < n → R i 5 = 0) (h2 : ∀ j, j < i → R j 5 ≠ 0) : fwN R n = i := by
  obtain ⟨a, b⟩ := fwN_is R n
  have c := fwN_le R n
  rcases Nat.lt_trichotomy (fwN R n) i with e | e | e
  · exact absurd (a (by omega)) (h2 _ e)
  · exact e
  · exact absurd (h1 (by omega)) (b _ e)
/-- a register of a device is fresh in the cache -/
def frsh (S : St) (dv r : Nat) : Prop := r < 32 ∧ zcf S (plc dv r) = 1 ∧ zn S 0 - zct S (plc dv r) ≤ zn S 1
def isC (S : St) (q : Nat) : Prop := zrq S q 4 = 0 ∧ ∀ k, k < zrq S q 3 → frsh S (zrq S q 1) (zrq S q 2 + k)
def ovl (R : Nat → Nat → Nat) (w i : Nat) : Prop := R w 2 < R i 2 + R i 3 ∧ R i 2 < R w 2 + R w 3
/-- an earlier one bars i -/
def bars (R : Nat → Nat → Nat) (q M i w : Nat) : Prop := R w 5 = 0 ∧ R w 1 = R q 1 ∧ mb M w = false ∧ ovl R w i ∧ (R w 4 = 1 ∨ R q 4 = 1)
def held (R : Nat → Nat → Nat) (q M i : Nat) : Prop := ∃ w, w < i ∧ bars R q M i w
def fitB (R : Nat → Nat → Nat) (q lo hi i : Nat) : Prop := R i 5 = 0 ∧ R i 1 = R q 1 ∧ R i 4 = R q 4 ∧ R i 2 ≤ hi ∧ lo ≤ R i 2 + R i 3 ∧ max hi (R i 2 + R i 3) - min lo (R i 2) ≤ (if R q 4 = 1 then 8 else 16)
noncomputable def gstep (R : Nat → Nat → Nat) (q : Nat) (g : Nat × Nat × Nat) (i : Nat) : Nat × Nat × Nat := by
  classical
  exact if fitB R q g.2.1 g.2.2 i ∧ ¬ held R q g.1 i then (g.1 + 2 ^ i, min g.2.1 (R i 2), max g.2.2 (R i 2 + R i 3)) else g
theorem gstep_y {R : Nat → Nat → Nat} {q : Nat} {g : Nat × Nat × Nat} {i : Nat} (h1 : fitB R q g.2.1 g.2.2 i) (h2 : ¬ held R q g.1 i) : gstep R q g i = (g.1 + 2 ^ i, min g.2.1 (R i 2), max g.2.2 (R i 2 + R i 3)) := by
  unfold gstep; exact if_pos ⟨h1, h2⟩
theorem gstep_n {R : Nat → Nat → Nat} {q : Nat} {g : Nat × Nat × Nat} {i : Nat} (h : ¬ (fitB R q g.2.1 g.2.2 i ∧ ¬ held R q g.1 i)) : gstep R q g i = g := by
  unfold gstep; exact if_neg h
/-- the group behind n more requests: mask, first register, the one behind the last -/
noncomputable def gat (R : Nat → Nat → Nat) (q : Nat) : Nat → Nat × Nat × Nat
  | 0 => (2 ^ q, R q 2, R q 2 + R q 3)
  | n + 1 => gstep R q (gat R q n) (q + 1 + n)
theorem gat_s {R : Nat → Nat → Nat} {q n : Nat} : gat R q (n + 1) = gstep R q (gat R q n) (q + 1 + n) := rfl
noncomputable def grpS (S : St) (q : Nat) : Nat × Nat × Nat := gat (zrq S) q (if zn S 5 = 1 then zn S 6 - (q + 1) else 0)
/-- the value for a register: that of the latest member -/
def wvk (R : Nat → Nat → Nat) (M q r : Nat) : Nat → Nat
  | 0 => 0
  | n + 1 => if mb M (q + n) = true ∧ R (q + n) 2 = r then R (q + n) 9 else wvk R M q r n
theorem wvk_y {R : Nat → Nat → Nat} {M q r n : Nat} (h : mb M (q + n) = true) (h2 : R (q + n) 2 = r) : wvk R M q r (n + 1) = R (q + n) 9 := if_pos ⟨h, h2⟩
theorem wvk_n {R : Nat → Nat → Nat} {M q r n : Nat} (h : ¬ (mb M (q + n) = true ∧ R (q + n) 2 = r)) : wvk R M q r (n + 1) = wvk R M q r n := if_neg h
def isWr (R : Nat → Nat → Nat) (q : Nat) : Bool := R q 4 == 1
/-- a group: its first request, its mask, its range -/
abbrev Gp : Type := Nat × Nat × Nat × Nat
def gq (g : Gp) : Nat := g.1
def gM (g : Gp) : Nat := g.2.1
def glo (g : Gp) : Nat := g.2.2.1
def ghi (g : Gp) : Nat := g.2.2.2
def gwd (g : Gp) : Nat := ghi g - glo g
def gdv (S : St) (g : Gp) : Nat := zrq S (gq g) 1
def gw (S : St) (g : Gp) : Bool := isWr (zrq S) (gq g)
def gwr (S : St) (g : Gp) : Nat → Nat := fun k => wvk (zrq S) (gM g) (gq g) (glo g + k) (zn S 6 - gq g)
def gfb (S : St) (g : Gp) : List Nat := fby (gdv S g) (glo g) (gwd g) (gw S g) (gwr S g)
/-! one attempt with the frame of (d, lo, w, isW, wr) -/
abbrev Fp : Type := Nat × Nat × Nat × Bool × (Nat → Nat)
def fd (p : Fp) : Nat := p.1
def flo (p : Fp) : Nat := p.2.1
def fwd (p : Fp) : Nat := p.2.2.1
def fisW (p : Fp) : Bool := p.2.2.2.1
def fwr (p : Fp) : Nat → Nat := p.2.2.2.2
def fbs (p : Fp) : List Nat := fby (fd p) (flo p) (fwd p) (fisW p) (fwr p)
def gfp (S : St) (g : Gp) : Fp := (gdv S g, glo g, gwd g, gw S g, gwr S g)
def pcode (S : St) (p : Fp) : Nat := acode (zro S (fd p)) (ztp S (fd p)) (zfl S (fd p)) (flo p) (fwd p) (fisW p) (fwr p)
def prep (S : St) (p : Fp) (t : Nat) : Rp := (abeg t (zdl S (fd p)) (zfl S (fd p)), zn S 7, abytes (zrg S (fd p)) (pcode S p) (zfl S (fd p)) (fd p) (flo p) (fwd p) (fisW p) (fwr p))
def pline (S : St) (p : Fp) (t : Nat) : List Rp := (zL S).filter (fun r => decide (t ≤ r.1)) ++ (if (hd2 (zfl S (fd p))).1 = 1 then [] else [prep S p t])
/-- the device has got the frame at t, with the numbers n then and the line L -/
def gtS (S : St) (p : Fp) (n : Nat → Nat) (L : List Rp) : St := mkS n (va_up (zrg S) (fd p) (arg (zrg S (fd p)) (pcode S p) (flo p) (fwd p) (fisW p) (fwr p))) (zro S) (ztp S) (zdl S) (va_up (zfl S) (fd p) (zfl S (fd p)).tail) (zrq S) (zW S) (zV S) (zcf S) (zcv S) (zct S) L
def atT (S : St) (p : Fp) : Nat := zn S 0 + 4 + (fbs p).length
def atK (S : St) (p : Fp) : Option Rp × List Rp := tkS (fbs p) (atT S p + zn S 2) (pline S p (atT S p)).length (pline S p (atT S p))
def nmN (S : St) (p : Fp) : Nat → Nat := va_up (va_up (va_up (va_up (zn S) 10 (zn S 10 + 1)) 0 (atT S p + zn S 2)) 13 (zn S 13 + 1)) 8 1
def nmY (S : St) (p : Fp) (r : Rp) : Nat → Nat := va_up (va_up (va_up (va_up (va_up (zn S) 10 (zn S 10 + 1)) 0 (r.1 + r.2.2.length)) 11 (zn S 11 + 1)) 12 (zn S 12 + if r.2.1 = zn S 7 then 0 else 1)) 8 0
def atS (S : St) (p : Fp) : St × Option Rp := match atK S p with
  | (none, L) => (gtS S p (nmN S p) L, none)
  | (some r, L) => (gtS S p (nmY S p r) L, some r)
def trS (p : Fp) : Nat → St → St × Option Rp
  | 0, S => (S, none)
  | n + 1, S => match atS S p with
    | (S', some r) => (S', some r)
    | (S', none) => trS p n S'
def triesS (S : St) (p : Fp) : St × Option Rp := trS p (zn S 3 + 1) (u1 (u1 S 7 (zn S 7 + 1)) 0 (zn S 0 + if zn S 8 = 1 then zn S 4 else 0))
/-! what becomes of the group -/
/-- f with x k for the registers lo + k of device dv, k < w, that exist -/
def cfw (f : Nat → Nat) (dv lo w : Nat) (x : Nat → Nat) : Nat → Nat := fun p => if plc dv lo ≤ p ∧ p < plc dv lo + w ∧ p < 32 * dv then x (p - plc dv lo) else f p
def rqs (R : Nat → Nat → Nat) (M st cd n : Nat) : Nat → Nat → Nat := fun i k => if mb M i = true ∧ i < n then (if k = 5 then st else if k = 6 then cd else R i k) else R i k
def Ws (W : Nat → Int32) (M : Nat) (t : Int32) (n : Nat) : Nat → Int32 := fun i => if mb M i = true ∧ i < n then t else W i
def Vs (V R : Nat → Nat → Nat) (M n : Nat) (x : Nat → Nat → Nat) : Nat → Nat → Nat := fun i k => if (mb M i = true ∧ i < n) ∧ k < R i 3 then x i k else V i k
/-- what the reply says of the k-th register of the group -/
def gval (S : St) (g : Gp) (b : List Nat) (k : Nat) : Nat := if gw S g then gwr S g k else wd b (3 + 2 * k)
def doneS (S : St) (g : Gp) (b : List Nat) (j : Nat) : St := mkS (va_up (zn S) 15 j) (zrg S) (zro S) (ztp S) (zdl S) (zfl S) (rqs (zrq S) (gM g) 1 0 (zn S 6)) (Ws (zW S) (gM g) (nI (zn S 0)) (zn S 6)) (Vs (zV S) (zrq S) (gM g) (zn S 6) (fun i k => if gw S g then 0 else wd b (3 + 2 * (zrq S i 2 - glo g + k))))
  (cfw (zcf S) (gdv S g) (glo g) (gwd g) (fun _ => 1)) (cfw (zcv S) (gdv S g) (glo g) (gwd g) (gval S g b)) (cfw (zct S) (gdv S g) (glo g) (gwd g) (fun _ => zn S 0)) (zL S)
def failS (S : St) (g : Gp) (cd j : Nat) : St := mkS (va_up (zn S) 15 j) (zrg S) (zro S) (ztp S) (zdl S) (zfl S) (rqs (zrq S) (gM g) 2 cd (zn S 6)) (Ws (zW S) (gM g) (nI (zn S 0)) (zn S 6)) (Vs (zV S) (zrq S) (gM g) (zn S 6) (fun _ _ => 0))
  (if gw S g then cfw (zcf S) (gdv S g) (glo g) (gwd g) (fun _ => 0) else zcf S) (zcv S) (zct S) (zL S)
def byC (S : St) (q : Nat) : St := mkS (va_up (zn S) 14 (zn S 14 + 1)) (zrg S) (zro S) (ztp S) (zdl S) (zfl S) (va_up (zrq S) q (fun k => if k = 5 then 1 else if k = 6 then 0 else if k = 8 then 1 else zrq S q k)) (va_up (zW S) q (nI (zn S 0))) (va_up (zV S) q (fun k => if k < zrq S q 3 then zcv S (plc (zrq S q 1) (zrq S q 2 + k)) else zV S q k)) (zcf S) (zcv S) (zct S) (zL S)
noncomputable def grpG (S : St) : Gp := (fwN (zrq S) (zn S 6), grpS S (fwN (zrq S) (zn S 6)))
/-- the tried group settled -/
def setS (S : St) (g : Gp) (T : St × Option Rp) : St := match T with
  | (S1, none) => failS S1 g 11 (zn S1 15 + (cntM (gM g) 40 - 1))
  | (S1, some r) => if 128 ≤ r.2.2.getD 1 0 then failS S1 g (r.2.2.getD 2 0) (zn S1 15 + (cntM (gM g) 40 - 1)) else doneS S1 g r.2.2 (zn S1 15 + (cntM (gM g) 40 - 1))
noncomputable def stepS (S : St) : St × Nat := by
  classical
  exact if zn S 6 ≤ fwN (zrq S) (zn S 6) then (S, 0) else if isC S (fwN (zrq S) (zn S 6)) then (byC S (fwN (zrq S) (zn S 6)), 1) else (setS S (grpG S) (triesS S (gfp S (grpG S))), cntM (gM (grpG S)) 40)
theorem stepS_0 {S : St} (h : zn S 6 ≤ fwN (zrq S) (zn S 6)) : stepS S = (S, 0) := by unfold stepS; exact if_pos h
theorem stepS_c {S : St} (h : ¬ zn S 6 ≤ fwN (zrq S) (zn S 6)) (h2 : isC S (fwN (zrq S) (zn S 6))) : stepS S = (byC S (fwN (zrq S) (zn S 6)), 1) := by unfold stepS; rw [if_neg h]; exact if_pos h2
theorem stepS_g {S : St} (h : ¬ zn S 6 ≤ fwN (zrq S) (zn S 6)) (h2 : ¬ isC S (fwN (zrq S) (zn S 6))) : stepS S = (setS S (grpG S) (triesS S (gfp S (grpG S))), cntM (gM (grpG S)) 40) := by unfold stepS; rw [if_neg h]; exact if_neg h2
