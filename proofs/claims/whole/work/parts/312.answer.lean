/-! ===== Device.answer ===== -/
def RP (G : Gt) (r bg cs : Nat) (l : List Nat) : Prop := gT G r = (1, 8) ∧ gR G 256 r = some (r + 1) ∧ FR G (r + 1) (r + 2) l ∧ gI G 257 r = nI bg ∧ gI G 258 r = nI cs
theorem RP.keep {G G' : Gt} {r bg cs : Nat} {l : List Nat} (h : RP G r bg cs l) (h0 : eqAt G G' r) (h1 : eqAt G G' (r + 1)) (h2 : eqAt G G' (r + 2)) : RP G' r bg cs l := ⟨h0.1.trans h.1, (h0.2.2.2.1 _).trans h.2.1, h.2.2.1.keep h1 h2, (h0.2.1 _).trans h.2.2.2.1, (h0.2.1 _).trans h.2.2.2.2⟩
def hd2 (fl : Fl) : Nat × Nat := fl.headD (0, 0)
def acode (ro : Nat → Nat) (top : Nat) (fl : Fl) (lo w : Nat) (isW : Bool) (wr : Nat → Nat) : Nat := if (hd2 fl).1 = 4 then 6 else rcode ro top lo w isW wr
def abytes (rg : Nat → Nat) (code : Nat) (fl : Fl) (dv lo w : Nat) (isW : Bool) (wr : Nat → Nat) : List Nat :=
  if (hd2 fl).1 = 2 then inv1 (seald (rbody rg dv lo w isW wr code)) ((hd2 fl).2 % (seald (rbody rg dv lo w isW wr code)).length) else seald (rbody rg dv lo w isW wr code)
def arg (rg : Nat → Nat) (code : Nat) (lo w : Nat) (isW : Bool) (wr : Nat → Nat) : Nat → Nat := if code = 0 then rga isW rg lo w wr else rg
def abeg (t dl : Nat) (fl : Fl) : Nat := t + dl + (if (hd2 fl).1 = 3 then (hd2 fl).2 else 0)
theorem rbody_len {rg : Nat → Nat} {dv lo w : Nat} {isW : Bool} {wr : Nat → Nat} {code : Nat} (hw : w ≤ 16) : 3 ≤ (rbody rg dv lo w isW wr code).length ∧ (rbody rg dv lo w isW wr code).length ≤ 35 := by
  unfold rbody
  by_cases e : code = 0
  · rw [if_pos e]
    cases isW with
    | true =>
      rw [if_pos rfl]
      by_cases e2 : w = 1
      · rw [if_pos e2]; simp
      · rw [if_neg e2]; simp
    | false =>
      rw [if_neg (by decide), List.length_append, wrds_len]
      simp; omega
  · rw [if_neg e]; simp
theorem rcode_lt {ro : Nat → Nat} {top lo w : Nat} {isW : Bool} {wr : Nat → Nat} : rcode ro top lo w isW wr ≤ 3 := by
  unfold rcode
  split
  · decide
  · split
    · split
      · decide
      · split <;> decide
    · decide
theorem rcode_0 {ro : Nat → Nat} {top lo w : Nat} {isW : Bool} {wr : Nat → Nat} (h : rcode ro top lo w isW wr = 0) : lo + w ≤ 32 := by
  unfold rcode at h
  by_cases e : 32 < lo + w
  · rw [if_pos e] at h; exact absurd h (by decide)
  · omega
section ANS
variable {X : Xt} {G : Gt} {d : Nat} {rg ro : Nat → Nat} {top dl : Nat} {fl : Fl} {f bb : Nat} {s : List Nat} {dv lo w : Nat} {isW : Bool} {wr : Nat → Nat} {r : Nat} {l : List Nat}
theorem lp_ans120 {t kd nb : Nat} {Pr : Int32 → Gt → Prop} (hd : gT G d = (1, 3)) (hdl : gI G 102 d = nI dl) (hr : gT G r = (1, 8)) (k1 : kd ≤ 4)
    (k : Pr (if kd = 1 then 0 else 1) (sI G 257 r (nI (t + dl + (if kd = 3 then nb else 0))))) : wX2_answer_120 X Pr G d (nI t) r (nI kd) (nI nb) := by
  unfold wX2_answer_120 wX2_answer_139
  rw [hdl, n_add]
  have q3 : nI kd = 3 ↔ kd = 3 := nI_eq (b := 3) (by omega) (by decide)
  have q1 : nI kd = 1 ↔ kd = 1 := nI_eq (b := 1) (by omega) (by decide)
  refine ⟨hd, fun z => ⟨hr, ?_⟩, fun z => ⟨hr, ?_⟩⟩
  · rw [if_neg (fun e => z (q3.mpr e))] at k
    rintro G1 rfl
    rw [show nI (t + dl) + 0 = nI (t + dl + 0) from n_add (b := 0)]
    refine ⟨fun z2 => ?_, fun z2 => ?_⟩
    · rw [if_pos (q1.mp z2)] at k
      exact k
    · rw [if_neg (fun e => z2 (q1.mpr e))] at k
      exact k
  · rw [if_pos (q3.mp z)] at k
    rintro G1 rfl
    rw [n_add]
    refine ⟨fun z2 => ?_, fun z2 => ?_⟩
    · rw [if_pos (q1.mp z2)] at k
      exact k
    · rw [if_neg (fun e => z2 (q1.mpr e))] at k
      exact k
/-- behind the reply's body: checksum, damage, begin -/
theorem lp_ans98 {t kd nb : Nat} {bo : List Nat} {Pr : Int32 → Gt → Prop} (hd : gT G d = (1, 3)) (hdl : gI G 102 d = nI dl) (hr : gT G r = (1, 8)) (hrf : gR G 256 r = some (r + 1)) (hb : FR G (r + 1) (r + 2) bo) (hbl : bo.length ≤ 35) (k1 : kd ≤ 4) (k2 : nb ≤ 2000) (n1 : d ≠ r + 1 ∧ d ≠ r + 2)
    (k : ∀ G', FR G' (r + 1) (r + 2) (if kd = 2 then inv1 (seald bo) (nb % (seald bo).length) else seald bo) → gI G' 257 r = nI (t + dl + (if kd = 3 then nb else 0)) → gI G' 258 r = gI G 258 r → cg G G' (fun x => x = r ∨ x = r + 1 ∨ x = r + 2) → Pr (if kd = 1 then 0 else 1) G') : wX2_answer_98 X Pr G d (nI t) r (nI kd) (nI nb) := by
  have q2 : nI kd = 2 ↔ kd = 2 := nI_eq (b := 2) (by omega) (by decide)
  have wide : ∀ {G G' : Gt}, cg G G' (fun x => x = r + 1 ∨ x = r + 2) → cg G G' (fun x => x = r ∨ x = r + 1 ∨ x = r + 2) := fun cc => cc.mono (fun x hx => Or.inr hx)
  have hsl : (seald bo).length = bo.length + 2 := seal_len bo
  refine ⟨hr, r + 1, hrf, hb.1, sp_seal hb (by omega) (fun G1 h1 c1 => ⟨fun z => ?_, fun z => ?_⟩)⟩
  · rw [if_neg (fun e => z (q2.mpr e))] at k
    have e0 := c1.2.2.2.2.2 d (by omega)
    have er := c1.2.2.2.2.2 r (by omega)
    refine lp_ans120 (e0.1.trans hd) ((e0.2.1 _).trans hdl) (er.1.trans hr) k1 (k _ ?_ ?_ ?_ ((wide c1).tr (cg.sI (Or.inl rfl))))
    · exact h1.keep (eqAt.sI (by omega)) (eqAt.sI (by omega))
    · rw [gI_sI, if_pos ⟨rfl, rfl⟩]
    · rw [gI_sI, if_neg (fun z => absurd z.1 (by decide))]; exact er.2.1 _
  · rw [if_pos (q2.mp z)] at k
    have er := c1.2.2.2.2.2 r (by omega)
    refine ⟨er.1.trans hr, r + 1, (er.2.2.2.1 _).trans hrf, h1.1, sp_invertLowestBit h1 (by show 1 ≤ (seald bo).length; omega) (by omega) (fun G2 h2 c2 => ?_)⟩
    have c02 := c1.tr c2
    have e0 := c02.2.2.2.2.2 d (by omega)
    have er := c02.2.2.2.2.2 r (by omega)
    refine lp_ans120 (e0.1.trans hd) ((e0.2.1 _).trans hdl) (er.1.trans hr) k1 (k _ ?_ ?_ ?_ ((wide c02).tr (cg.sI (Or.inl rfl))))
    · exact h2.keep (eqAt.sI (by omega)) (eqAt.sI (by omega))
    · rw [gI_sI, if_pos ⟨rfl, rfl⟩]
    · rw [gI_sI, if_neg (fun z => absurd z.1 (by decide))]; exact er.2.1 _
theorem DC.c2 {p : Nat × Nat} (hc : DC G d rg ro top dl fl) (hp : hd2 fl = p) : p.1 ≤ 4 ∧ p.2 ≤ 2000 := by
  subst hp
  unfold hd2
  cases fl with
  | nil => exact ⟨by decide, by decide⟩
  | cons q t => exact (hc.2.2.2.2.1 q List.mem_cons_self).2
/-- the body by the code, then the rest -/
theorem lp_ans49 {t kd nb code : Nat} {Pr : Int32 → Gt → Prop} (h : DT G d) (hc : DC G d rg ro top dl fl) (hf : FR G f bb s) (ht : tells s dv lo w isW wr) (hr : gT G r = (1, 8)) (hrf : gR G 256 r = some (r + 1)) (hb : FR G (r + 1) (r + 2) l) (hw : w ≤ 16) (hcode : code = 0 → lo + w ≤ 32) (hcl : code ≤ 6) (k1 : kd ≤ 4) (k2 : nb ≤ 2000)
    (n1 : d + 3 < r ∨ r + 2 < d) (n2 : d + 1 ≠ f ∧ d + 1 ≠ bb) (n3 : f ≠ r + 1 ∧ f ≠ r + 2 ∧ bb ≠ r + 1 ∧ bb ≠ r + 2)
    (k : ∀ G', FR G' (r + 1) (r + 2) (if kd = 2 then inv1 (seald (rbody rg dv lo w isW wr code)) (nb % (seald (rbody rg dv lo w isW wr code)).length) else seald (rbody rg dv lo w isW wr code)) → gI G' 257 r = nI (t + dl + (if kd = 3 then nb else 0)) → gI G' 258 r = gI G 258 r → DC G' d (arg rg code lo w isW wr) ro top dl fl → cg G G' (fun x => x = r ∨ x = r + 1 ∨ x = r + 2 ∨ x = d + 1) → Pr (if kd = 1 then 0 else 1) G') : wX2_answer_49 X Pr G d f (nI t) r (nI kd) (nI nb) (nI code) := by
  have B := hf.2.2.2.2.2.2
  have hdv : dv < 256 := by rw [← ht.1]; exact gd_b B 0
  have q0 : nI code = 0 ↔ code = 0 := nI_eq (b := 0) (by omega) (by decide)
  have hl : (rbody rg dv lo w isW wr code).length ≤ 35 := (rbody_len hw).2
  have w1 : ∀ {G G' : Gt}, cg G G' (fun x => x = r ∨ x = r + 1 ∨ x = r + 2) → cg G G' (fun x => x = r ∨ x = r + 1 ∨ x = r + 2 ∨ x = d + 1) := fun cc => cc.mono (fun x hx => by omega)
  refine ⟨fun z => ⟨hr, r + 1, hrf, hf.1, sp_byteAt (k := 0) hf (by decide) ⟨hf.1, sp_byteAt (k := 1) hf (by decide) ⟨hb.1, ?_⟩⟩⟩, fun z => ⟨hr, r + 1, hrf, h.1, ?_⟩⟩
  · have z' : code ≠ 0 := fun e => z (q0.mpr e)
    have hfn : fnc isW w + 128 < 256 := by
      unfold fnc
      cases isW with
      | false => exact (show (3 : Nat) + 128 < 256 by decide)
      | true =>
        rw [if_pos rfl]
        by_cases e : w = 1
        · rw [if_pos e]; decide
        · rw [if_neg e]; decide
    rw [ht.1, ht.2.1, show nI (fnc isW w) + 128 = nI (fnc isW w + 128) from n_add (b := 128)]
    refine sp_open hb hdv hfn (fun G1 h1 c1 => ?_)
    have er := c1.2.2.2.2.2 r (by omega)
    refine ⟨er.1.trans hr, r + 1, (er.2.2.2.1 _).trans hrf, h1.1, sp_putB h1 (by simp) (by omega) (fun G2 h2 c2 => ?_)⟩
    rw [Nat.mod_eq_of_lt (show code < 256 by omega)] at h2
    have c02 := c1.tr c2
    have er := c02.2.2.2.2.2 r (by omega)
    have ed := c02.2.2.2.2.2 d (by omega)
    have eb : rbody rg dv lo w isW wr code = [dv, fnc isW w + 128, code] := by unfold rbody; rw [if_neg z']
    rw [← show rbody rg dv lo w isW wr code = [dv, fnc isW w + 128] ++ [code] from eb] at h2
    refine lp_ans98 (ed.1.trans h.1) ((ed.2.1 _).trans hc.2.2.2.2.2.2.2.2.1) (er.1.trans hr) ((er.2.2.2.1 _).trans hrf) h2 hl k1 k2 (by omega) (fun G3 h3 g3 g4 c3 => ?_)
    have c03 : cg G G3 (fun x => x = r ∨ x = r + 1 ∨ x = r + 2) := (c02.mono (fun x hx => Or.inr hx)).tr c3
    refine k G3 h3 g3 (g4.trans (er.2.1 _)) ?_ (w1 c03)
    unfold arg
    rw [if_neg z']
    exact hc.keep (c03.2.2.2.2.2 _ (by omega)) (c03.2.2.2.2.2 _ (by omega)) (c03.2.2.2.2.2 _ (by omega)) (c03.2.2.2.2.2 _ (by omega))
  · have z' : code = 0 := q0.mp z
    subst z'
    refine sp_obey h hc hf ht hb (hcode rfl) hw (by omega) n2 n3 (fun G1 h1 hd1 c1 => ?_)
    have er := c1.2.2.2.2.2 r (by omega)
    have ed := c1.2.2.2.2.2 d (by omega)
    refine lp_ans98 (ed.1.trans h.1) ((ed.2.1 _).trans hc.2.2.2.2.2.2.2.2.1) (er.1.trans hr) ((er.2.2.2.1 _).trans hrf) h1 hl k1 k2 (by omega) (fun G3 h3 g3 g4 c3 => ?_)
    refine k G3 h3 g3 (g4.trans (er.2.1 _)) ?_ ((c1.mono (fun x hx => by omega)).tr (w1 c3))
    exact hd1.keep (c3.2.2.2.2.2 _ (by omega)) (c3.2.2.2.2.2 _ (by omega)) (c3.2.2.2.2.2 _ (by omega)) (c3.2.2.2.2.2 _ (by omega))
theorem lp_ans33 {t kd nb : Nat} {fl0 : Fl} {Pr : Int32 → Gt → Prop} (h : DT G d) (hc : DC G d rg ro top dl fl) (hf : FR G f bb s) (ht : tells s dv lo w isW wr) (hr : gT G r = (1, 8)) (hrf : gR G 256 r = some (r + 1)) (hb : FR G (r + 1) (r + 2) l) (hw : w ≤ 16) (hh : hd2 fl0 = (kd, nb)) (k1 : kd ≤ 4) (k2 : nb ≤ 2000)
    (n1 : d + 3 < r ∨ r + 2 < d) (n2 : d + 1 ≠ f ∧ d + 1 ≠ bb) (n3 : f ≠ r + 1 ∧ f ≠ r + 2 ∧ bb ≠ r + 1 ∧ bb ≠ r + 2)
    (k : ∀ G', FR G' (r + 1) (r + 2) (abytes rg (acode ro top fl0 lo w isW wr) fl0 dv lo w isW wr) → gI G' 257 r = nI (abeg t dl fl0) → gI G' 258 r = gI G 258 r → DC G' d (arg rg (acode ro top fl0 lo w isW wr) lo w isW wr) ro top dl fl → cg G G' (fun x => x = r ∨ x = r + 1 ∨ x = r + 2 ∨ x = d + 1) → Pr (if (hd2 fl0).1 = 1 then 0 else 1) G') : wX2_answer_33 X Pr G d f (nI t) r (nI kd) (nI nb) := by
  have q4 : nI kd = 4 ↔ kd = 4 := nI_eq (b := 4) (by omega) (by decide)
  have e1 : (hd2 fl0).1 = kd := by rw [hh]
  have e2 : (hd2 fl0).2 = nb := by rw [hh]
  unfold abytes abeg at k
  rw [e1, e2] at k
  refine ⟨fun z => ⟨h.1, sp_refusalOf h hc hf ht ?_⟩, fun z => ?_⟩
  · have z' : kd ≠ 4 := fun e => z (q4.mpr e)
    have ec : acode ro top fl0 lo w isW wr = rcode ro top lo w isW wr := by unfold acode; rw [e1, if_neg z']
    rw [ec] at k
    have := @rcode_lt ro top lo w isW wr
    exact lp_ans49 h hc hf ht hr hrf hb hw rcode_0 (by omega) k1 k2 n1 n2 n3 k
  · have ec : acode ro top fl0 lo w isW wr = 6 := by unfold acode; rw [e1, if_pos (q4.mp z)]
    rw [ec] at k
    exact lp_ans49 (code := 6) h hc hf ht hr hrf hb hw (fun e => absurd e (by decide)) (by omega) k1 k2 n1 n2 n3 k
theorem sp_answer {t : Nat} {Pr : Int32 → Gt → Prop} (h : DT G d) (hc : DC G d rg ro top dl fl) (hf : FR G f bb s) (ht : tells s dv lo w isW wr) (hr : gT G r = (1, 8)) (hrf : gR G 256 r = some (r + 1)) (hb : FR G (r + 1) (r + 2) l) (hw : w ≤ 16)
    (n1 : d + 3 < r ∨ r + 2 < d) (n2 : (d + 3 < f ∨ f < d) ∧ (d + 3 < bb ∨ bb < d)) (n3 : f ≠ r + 1 ∧ f ≠ r + 2 ∧ bb ≠ r + 1 ∧ bb ≠ r + 2)
    (k : ∀ G', FR G' (r + 1) (r + 2) (abytes rg (acode ro top fl lo w isW wr) fl dv lo w isW wr) → gI G' 257 r = nI (abeg t dl fl) → gI G' 258 r = gI G 258 r → DC G' d (arg rg (acode ro top fl lo w isW wr) lo w isW wr) ro top dl fl.tail → cg G G' (fun x => x = r ∨ x = r + 1 ∨ x = r + 2 ∨ (d ≤ x ∧ x ≤ d + 3)) → Pr (if (hd2 fl).1 = 1 then 0 else 1) G') : wX2_answer X G d f (nI t) r Pr := by
  obtain ⟨t1, t2, t3, t4, t5, t6, t7⟩ := id h
  have hlen := hc.2.1
  have hlen6 := hc.2.2.1
  unfold wX2_answer
  rw [hlen]
  cases hfl : fl with
  | nil =>
    subst hfl
    refine ⟨t1, fun _ => lp_ans33 (kd := 0) (nb := 0) (fl0 := []) h hc hf ht hr hrf hb hw rfl (by decide) (by decide) n1 (by omega) n3 (fun G' a1 a2 a3 a4 a5 => k G' a1 a2 a3 a4 (a5.mono (fun x hx => by omega))), fun z => absurd (by decide) z⟩
  | cons p tl =>
    subst hfl
    have hcc := hc.c2 (p := p) rfl
    obtain ⟨g1, g2⟩ := hc.2.2.2.1 0 (by simp)
    refine ⟨t1, fun z => absurd ((n_le (b := 0) (by omega) (by decide)).mp z) (by simp), fun _ => ⟨t1, d + 2, t3, by rw [t6], by rw [t6]; exact n_in (i := 0) (by decide) (by decide), t1, d + 3, t4, by rw [t7], by rw [t7]; exact n_in (i := 0) (by decide) (by decide), t1, ?_⟩⟩
    refine sp_dropFirst h hc (fun G1 h1 c1 => ?_)
    have er : ∀ x, x ≠ d → x ≠ d + 2 → x ≠ d + 3 → eqAt G G1 x := fun x a b c => c1.2.2.2.2.2 x (by omega)
    rw [show (0 : Int32).toNatClampNeg = 0 from rfl, g1, g2]
    have er0 := er r (by omega) (by omega) (by omega)
    exact lp_ans33 (kd := p.1) (nb := p.2) (fl0 := p :: tl) (h.cg c1) h1 (hf.keep (er f (by omega) (by omega) (by omega)) (er bb (by omega) (by omega) (by omega))) ht (er0.1.trans hr) ((er0.2.2.2.1 _).trans hrf) (hb.keep (er _ (by omega) (by omega) (by omega)) (er _ (by omega) (by omega) (by omega))) hw rfl hcc.1 hcc.2 n1 (by omega) n3 (fun G' a1 a2 a3 a4 a5 => k G' a1 a2 (a3.trans (er0.2.1 _)) a4 ((c1.mono (fun x hx => by omega)).tr (a5.mono (fun x hx => by omega))))
end ANS
