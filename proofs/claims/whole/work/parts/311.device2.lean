/-! ===== Device: what it does, its answer ===== -/
/-- the registers behind a written group -/
def rgw (rg : Nat → Nat) (lo w : Nat) (wr : Nat → Nat) : Nat → Nat := fun r => if lo ≤ r ∧ r < lo + w then wr (r - lo) else rg r
section DEV2
variable {X : Xt} {G : Gt} {d : Nat} {rg ro : Nat → Nat} {top dl : Nat} {fl : Fl} {f bb : Nat} {s : List Nat} {dv lo w : Nat} {isW : Bool} {wr : Nat → Nat} {r rb : Nat} {l : List Nat}
theorem lp_obeyR {Pr : Gt → Prop} (h : DT G d) (hc : DC G d rg ro top dl fl) (hr : FR G r rb l) (hlw : lo + w ≤ 32) (hl : l.length + 2 * w ≤ 37) (d1 : d + 1 ≠ r) (d2 : d + 1 ≠ rb)
    (k : ∀ G', FR G' r rb (l ++ wrds (fun k => rg (lo + k)) w) → cg G G' (fun x => x = r ∨ x = rb) → Pr G') :
    ∃ (I : Gt → Nat → Nat → Nat → Int32 → Int32 → Int32 → Int32 → Prop) (μ : Gt → Nat → Nat → Nat → Int32 → Int32 → Int32 → Int32 → Nat), I G d f r (3 : Int32) (nI lo) (nI w) (0 : Int32) ∧ ∀ (G : Gt) (a0 : Nat) (a1 : Nat) (a2 : Nat) (x3 : Int32) (x4 : Int32) (x5 : Int32) (x6 : Int32), I G a0 a1 a2 x3 x4 x5 x6 → wX2_obey_62 X Pr (fun G' a0' a1' a2' x3' x4' x5' x6' => I G' a0' a1' a2' x3' x4' x5' x6' ∧ μ G' a0' a1' a2' x3' x4' x5' x6' < μ G a0 a1 a2 x3 x4 x5 x6) G a0 a1 a2 x3 x4 x5 x6 := by
  refine ⟨fun g a0 a1 a2 x3 x4 x5 x6 => a0 = d ∧ a1 = f ∧ a2 = r ∧ x3 = 3 ∧ x4 = nI lo ∧ x5 = nI w ∧ ∃ k, x6 = nI k ∧ k ≤ w ∧ FR g r rb (l ++ wrds (fun k => rg (lo + k)) k) ∧ cg G g (fun x => x = r ∨ x = rb), fun _ _ _ _ _ _ _ x6 => w - x6.toNatClampNeg, ⟨rfl, rfl, rfl, rfl, rfl, rfl, 0, rfl, by omega, by simpa [wrds] using hr, cg.rf⟩, ?_⟩
  rintro g a0 a1 a2 x3 x4 x5 x6 ⟨rfl, rfl, rfl, rfl, rfl, rfl, i, rfl, hi, hfr, hcg⟩
  unfold wX2_obey_62
  have h' := h.cg hcg
  refine ⟨fun z => ?_, fun z => ⟨fun z2 => ?_, fun z2 => ⟨fun z3 => absurd rfl z3, fun _ => ?_⟩⟩⟩
  · have z' : w ≤ i := (n_le (by omega) (by omega)).mp z
    have e : i = w := by omega
    subst e
    exact k g hfr hcg
  · have z' : i < w := Nat.lt_of_not_le (fun e => z ((n_le (by omega) (by omega)).mpr e))
    rw [n_add] at z2
    exact absurd ((n_le (a := 32) (by decide) (by omega)).mp z2) (by omega)
  · have z' : i < w := Nat.lt_of_not_le (fun e => z ((n_le (by omega) (by omega)).mpr e))
    obtain ⟨u1, u2, u3, u4, u5, u6, u7⟩ := h'
    have e1 : eqAt G g (a0 + 1) := hcg.2.2.2.2.2 (a0 + 1) (by omega)
    obtain ⟨cr1, cr2⟩ := hc.1 (lo + i) (by omega)
    rw [n_add]
    refine ⟨u1, a0 + 1, u2, by rw [u5], by rw [u5]; exact n_in (show lo + i < 32 by omega) (by decide), hfr.1, ?_⟩
    rw [n_cl (by omega), e1.2.2.2.2.1, cr1]
    refine sp_putWord hfr (by rw [List.length_append, wrds_len]; omega) cr2 (fun G2 h2 c2 => ⟨⟨rfl, rfl, rfl, rfl, rfl, rfl, i + 1, nI_1 i, by omega, ?_, hcg.tr c2⟩, ?_⟩)
    · have e : l ++ wrds (fun k => rg (lo + k)) (i + 1) = l ++ wrds (fun k => rg (lo + k)) i ++ [rg (lo + i) / 256, rg (lo + i) % 256] := by
        rw [List.append_assoc]; rfl
      rw [e]; exact h2
    · dsimp only
      rw [nI_1, n_cl (by omega), n_cl (by omega)]; omega
theorem lp_obeyW {Pr : Gt → Prop} {fn : Int32} (h : DT G d) (hc : DC G d rg ro top dl fl) (hf : FR G f bb s) (ht : tells s dv lo w true wr) (hlw : lo + w ≤ 32) (hfn : fn ≠ 3) (d1 : d + 1 ≠ f) (d2 : d + 1 ≠ bb)
    (k : ∀ G', DC G' d (rgw rg lo w wr) ro top dl fl → cg G G' (fun x => x = d + 1) → Pr G') :
    ∃ (I : Gt → Nat → Nat → Nat → Int32 → Int32 → Int32 → Int32 → Prop) (μ : Gt → Nat → Nat → Nat → Int32 → Int32 → Int32 → Int32 → Nat), I G d f r fn (nI lo) (nI w) (0 : Int32) ∧ ∀ (G : Gt) (a0 : Nat) (a1 : Nat) (a2 : Nat) (x3 : Int32) (x4 : Int32) (x5 : Int32) (x6 : Int32), I G a0 a1 a2 x3 x4 x5 x6 → wX2_obey_62 X Pr (fun G' a0' a1' a2' x3' x4' x5' x6' => I G' a0' a1' a2' x3' x4' x5' x6' ∧ μ G' a0' a1' a2' x3' x4' x5' x6' < μ G a0 a1 a2 x3 x4 x5 x6) G a0 a1 a2 x3 x4 x5 x6 := by
  have B := hf.2.2.2.2.2.2
  refine ⟨fun g a0 a1 a2 x3 x4 x5 x6 => a0 = d ∧ a1 = f ∧ a2 = r ∧ x3 = fn ∧ x4 = nI lo ∧ x5 = nI w ∧ ∃ k, x6 = nI k ∧ k ≤ w ∧ DC g d (rgw rg lo k wr) ro top dl fl ∧ cg G g (fun x => x = d + 1), fun _ _ _ _ _ _ _ x6 => w - x6.toNatClampNeg, ⟨rfl, rfl, rfl, rfl, rfl, rfl, 0, rfl, by omega, ?_, cg.rf⟩, ?_⟩
  · have e : rgw rg lo 0 wr = rg := by
      funext x; unfold rgw; rw [if_neg (by omega)]
    rw [e]; exact hc
  rintro g a0 a1 a2 x3 x4 x5 x6 ⟨rfl, rfl, rfl, rfl, rfl, rfl, i, rfl, hi, hdc, hcg⟩
  unfold wX2_obey_62
  have h' := h.cg hcg
  have hf' : FR g a1 bb s := hf.keep (hcg.2.2.2.2.2 a1 (by omega)) (hcg.2.2.2.2.2 bb (by omega))
  refine ⟨fun z => ?_, fun z => ⟨fun z2 => ?_, fun z2 => ⟨fun _ => ?_, fun z3 => absurd z3 hfn⟩⟩⟩
  · have z' : w ≤ i := (n_le (by omega) (by omega)).mp z
    have e : i = w := by omega
    subst e
    exact k g hdc hcg
  · have z' : i < w := Nat.lt_of_not_le (fun e => z ((n_le (by omega) (by omega)).mpr e))
    rw [n_add] at z2
    exact absurd ((n_le (a := 32) (by decide) (by omega)).mp z2) (by omega)
  · have z' : i < w := Nat.lt_of_not_le (fun e => z ((n_le (by omega) (by omega)).mpr e))
    obtain ⟨u1, u2, u3, u4, u5, u6, u7⟩ := h'
    have hv := ht.2.2.2.2.2 rfl i z'
    have hvl : wr i < 65536 := by
      rw [← hv]; unfold wrv
      by_cases e : s.getD 1 0 = 6
      · rw [if_pos e]; exact wd_lt B 4
      · rw [if_neg e]; exact wd_lt B _
    rw [n_add]
    refine ⟨u1, a0 + 1, u2, hf'.1, sp_writtenValue hf' (by omega) ⟨by rw [u5], by rw [u5]; exact n_in (show lo + i < 32 by omega) (by decide), ?_⟩⟩
    rw [n_cl (by omega), hv]
    rintro G2 rfl
    refine ⟨⟨rfl, rfl, rfl, rfl, rfl, rfl, i + 1, nI_1 i, by omega, ⟨fun x hx => ?_, ?_⟩, hcg.tr (cg.sA rfl)⟩, ?_⟩
    · rw [gA_sA]
      by_cases e : x = lo + i
      · subst e
        rw [pk_us]
        unfold rgw
        rw [if_pos (by omega), show lo + i - lo = i by omega]
        exact ⟨rfl, hvl⟩
      · rw [pk_un e]
        have q := hdc.1 x hx
        unfold rgw at q ⊢
        by_cases e2 : lo ≤ x ∧ x < lo + i
        · rw [if_pos e2] at q; rw [if_pos (by omega)]; exact q
        · rw [if_neg e2] at q; rw [if_neg (by omega)]; exact q
    · have q := hdc.2
      have e2 : gA (sA g (a0 + 1) (upd (gA g (a0 + 1)) (lo + i) (nI (wr i)))) (a0 + 2) = gA g (a0 + 2) := va_up_ne _ _ (by omega)
      have e3 : gA (sA g (a0 + 1) (upd (gA g (a0 + 1)) (lo + i) (nI (wr i)))) (a0 + 3) = gA g (a0 + 3) := va_up_ne _ _ (by omega)
      rw [e2, e3]; exact q
    · dsimp only
      rw [nI_1, n_cl (by omega), n_cl (by omega)]; omega
/-- the registers behind an obeyed frame -/
def rga (isW : Bool) (rg : Nat → Nat) (lo w : Nat) (wr : Nat → Nat) : Nat → Nat := if isW then rgw rg lo w wr else rg
theorem sp_obey {Pr : Gt → Prop} (h : DT G d) (hc : DC G d rg ro top dl fl) (hf : FR G f bb s) (ht : tells s dv lo w isW wr) (hr : FR G r rb l) (hlw : lo + w ≤ 32) (hw : w ≤ 16)
    (n1 : d ≠ r ∧ d ≠ rb ∧ d + 1 ≠ r ∧ d + 1 ≠ rb ∧ d + 2 ≠ r ∧ d + 2 ≠ rb ∧ d + 3 ≠ r ∧ d + 3 ≠ rb) (n2 : d + 1 ≠ f ∧ d + 1 ≠ bb) (n3 : f ≠ r ∧ f ≠ rb ∧ bb ≠ r ∧ bb ≠ rb)
    (k : ∀ G', FR G' r rb (rbody rg dv lo w isW wr 0) → DC G' d (rga isW rg lo w wr) ro top dl fl → cg G G' (fun x => x = r ∨ x = rb ∨ x = d + 1) → Pr G') : wX2_obey X G d f r Pr := by
  obtain ⟨t1, t2, t3, t4, t5, t6⟩ := id ht
  have B := hf.2.2.2.2.2.2
  have hdv : dv < 256 := by rw [← t1]; exact gd_b B 0
  have hfn : fnc isW w < 256 := by rw [← t2]; exact gd_b B 1
  refine ⟨hf.1, sp_byteAt (k := 1) hf (by decide) ⟨hf.1, sp_startRegister hf ⟨hf.1, sp_registerCount hf ⟨hf.1, sp_byteAt (k := 0) hf (by decide) ⟨hr.1, ?_⟩⟩⟩⟩⟩
  rw [t1, t2, t3, t4]
  refine sp_open hr hdv hfn (fun G1 h1 cg1 => ?_)
  have keepf : ∀ {G G' : Gt}, FR G f bb s → cg G G' (fun x => x = r ∨ x = rb) → FR G' f bb s := fun hh cc => hh.keep (cc.2.2.2.2.2 f (by omega)) (cc.2.2.2.2.2 bb (by omega))
  have keepd : ∀ {G G' : Gt}, DC G d rg ro top dl fl → cg G G' (fun x => x = r ∨ x = rb) → DC G' d rg ro top dl fl := fun hh cc => hh.keep (cc.2.2.2.2.2 d (by omega)) (cc.2.2.2.2.2 (d + 1) (by omega)) (cc.2.2.2.2.2 (d + 2) (by omega)) (cc.2.2.2.2.2 (d + 3) (by omega))
  have wide : ∀ {G G' : Gt}, cg G G' (fun x => x = r ∨ x = rb) → cg G G' (fun x => x = r ∨ x = rb ∨ x = d + 1) := fun cc => cc.mono (fun x hx => hx.elim Or.inl (fun e => Or.inr (Or.inl e)))
  cases isW with
  | false =>
    refine ⟨fun z => absurd rfl z, fun _ => ⟨h1.1, ?_⟩⟩
    rw [show (2 : Int32) * nI w = nI (2 * w) from pk_mul 2 w]
    refine sp_putB h1 (by simp) (by omega) (fun G2 h2 cg2 => ?_)
    rw [Nat.mod_eq_of_lt (show 2 * w < 256 by omega)] at h2
    have c02 := cg1.tr cg2
    refine lp_obeyR (rb := rb) (l := [dv, 3, 2 * w]) (h.cg c02) (keepd hc c02) h2 hlw (by simp; omega) (by omega) (by omega) (fun G3 h3 cg3 => k G3 ?_ (keepd hc (c02.tr cg3)) (wide (c02.tr cg3)))
    exact h3
  | true =>
    have hne : nI (fnc true w) ≠ 3 := by
      unfold fnc
      rw [if_pos rfl]
      by_cases e : w = 1
      · rw [if_pos e]; decide
      · rw [if_neg e]; decide
    refine ⟨fun _ => ⟨h1.1, sp_putWord h1 (by simp) (by omega) (fun G2 h2 cg2 => ?_)⟩, fun z => absurd z hne⟩
    have c02 := cg1.tr cg2
    have hf2 := keepf hf c02
    have hx : (if w = 1 then wr 0 else w) < 65536 := by
      have e : wd s 4 = (if w = 1 then wr 0 else w) := by rw [t5]; simp
      rw [← e]; exact wd_lt B 4
    refine ⟨hf2.1, sp_wordAt (k := 4) hf2 (by decide) ⟨h2.1, ?_⟩⟩
    rw [show wd s 4 = (if w = 1 then wr 0 else w) by rw [t5]; simp]
    refine sp_putWord h2 (by simp) hx (fun G3 h3 cg3 => ?_)
    have c03 := c02.tr cg3
    refine lp_obeyW (h.cg c03) (keepd hc c03) (keepf hf c03) ht hlw hne (by omega) (by omega) (fun G4 h4 cg4 => k G4 ?_ h4 ((wide c03).tr (cg4.mono (fun x hx => Or.inr (Or.inr hx)))))
    have h3' : FR G3 r rb (rbody rg dv lo w true wr 0) := by
      unfold rbody
      rw [if_pos rfl, if_pos rfl]
      by_cases e : w = 1
      · rw [if_pos e] at h3 ⊢; simpa using h3
      · rw [if_neg e] at h3 ⊢; simpa using h3
    exact h3'.keep (cg4.2.2.2.2.2 r (by omega)) (cg4.2.2.2.2.2 rb (by omega))
end DEV2
