/-! ===== Device ===== -/
def DT (G : Gt) (d : Nat) : Prop := gT G d = (1, 3) ∧ gR G 96 d = some (d + 1) ∧ gR G 97 d = some (d + 2) ∧ gR G 98 d = some (d + 3) ∧ gT G (d + 1) = (2, 32) ∧ gT G (d + 2) = (2, 6) ∧ gT G (d + 3) = (2, 6)
theorem DT.cg {G G' : Gt} {d : Nat} {P : Nat → Prop} (h : DT G d) (c : cg G G' P) : DT G' d := by
  obtain ⟨_, _, c3, c4, _, _⟩ := c
  unfold DT
  rw [c3, c3, c3, c3, c4, c4, c4]
  exact h
theorem DT.ch {G G' : Gt} {d : Nat} {P : Nat → Prop} (h : DT G d) (hd : d + 3 < gH G) (c : ch G G' P) : DT G' d := by
  obtain ⟨_, c3, _, c4, _⟩ := c
  unfold DT
  rw [c3 _ (by omega), c3 _ (by omega), c3 _ (by omega), c3 _ (by omega), c4 _ _ (by omega) (by decide) (by decide), c4 _ _ (by omega) (by decide) (by decide), c4 _ _ (by omega) (by decide) (by decide)]
  exact h
/-- the bits of read-only registers -/
def RO (x : Int32) (ro : Nat → Nat) : Prop := ∀ r, r < 32 → (((x.toUInt32 >>> ((nI r).toUInt32 &&& Int32.toUInt32 31)).toInt32 &&& 1) = 1 ↔ ro r = 1)
abbrev Fl : Type := List (Nat × Nat)
/-- what a device holds -/
def DC (G : Gt) (d : Nat) (rg ro : Nat → Nat) (top dl : Nat) (fl : Fl) : Prop :=
  (∀ r, r < 32 → gA G (d + 1) r = nI (rg r) ∧ rg r < 65536) ∧ gI G 99 d = nI fl.length ∧ fl.length ≤ 6 ∧ (∀ k, k < fl.length → gA G (d + 2) k = nI (fl.getD k (0, 0)).1 ∧ gA G (d + 3) k = nI (fl.getD k (0, 0)).2) ∧ (∀ p ∈ fl, 1 ≤ p.1 ∧ p.1 ≤ 4 ∧ p.2 ≤ 2000) ∧ RO (gI G 100 d) ro ∧ gI G 101 d = nI top ∧ top < 65536 ∧ gI G 102 d = nI dl ∧ dl ≤ 1000
theorem DC.keep {G G' : Gt} {d : Nat} {rg ro : Nat → Nat} {top dl : Nat} {fl : Fl} (h : DC G d rg ro top dl fl) (h0 : eqAt G G' d) (h1 : eqAt G G' (d + 1)) (h2 : eqAt G G' (d + 2)) (h3 : eqAt G G' (d + 3)) : DC G' d rg ro top dl fl := by
  unfold DC
  rw [h0.2.1, h0.2.1, h0.2.1, h0.2.1, h1.2.2.2.2.1, h2.2.2.2.2.1, h3.2.2.2.2.1]
  exact h
section DEV
variable {X : Xt} {G : Gt} {d : Nat} {rg ro : Nat → Nat} {top dl : Nat} {fl : Fl}
theorem sp_isReadOnly {r : Nat} {Pr : Int32 → Gt → Prop} (h : DT G d) (hc : DC G d rg ro top dl fl) (hr : r < 32) (h1 : ro r = 1 → Pr 1 G) (h0 : ro r ≠ 1 → Pr 0 G) : wX2_isReadOnly X G d (nI r) Pr :=
  ⟨h.1, fun z => h0 (fun q => z ((hc.2.2.2.2.2.1 r hr).mpr q)), fun z => h1 ((hc.2.2.2.2.2.1 r hr).mp z)⟩
theorem sp_dropFirst {p : Nat × Nat} {Pr : Gt → Prop} (h : DT G d) (hc : DC G d rg ro top dl (p :: fl)) (k : ∀ G', DC G' d rg ro top dl fl → cg G G' (fun x => x = d ∨ x = d + 2 ∨ x = d + 3) → Pr G') : wX2_dropFirstFault X G d Pr := by
  obtain ⟨t1, t2, t3, t4, t5, t6, t7⟩ := id h
  obtain ⟨c1, c2, c3, c4, c5, c6, c7, c8, c9, c10⟩ := id hc
  have hn : (p :: fl).length = fl.length + 1 := rfl
  rw [hn] at c2 c3 c4
  refine ⟨fun g a0 x1 => a0 = d ∧ ∃ i, x1 = nI i ∧ 1 ≤ i ∧ i ≤ fl.length + 1 ∧ cg G g (fun x => x = d + 2 ∨ x = d + 3) ∧ ∀ j, j < fl.length + 1 → gA g (d + 2) j = nI (if j + 1 < i then (p :: fl).getD (j + 1) (0, 0) else (p :: fl).getD j (0, 0)).1 ∧ gA g (d + 3) j = nI (if j + 1 < i then (p :: fl).getD (j + 1) (0, 0) else (p :: fl).getD j (0, 0)).2, fun _ _ x1 => fl.length + 1 - x1.toNatClampNeg, ⟨rfl, 1, rfl, by omega, by omega, cg.rf, fun j hj => ?_⟩, ?_⟩
  · rw [if_neg (by omega)]; exact c4 j hj
  rintro g a0 x1 ⟨rfl, i, rfl, hi1, hi2, cgg, hj⟩
  have e0 : eqAt G g a0 := cgg.2.2.2.2.2 a0 (by omega)
  have e1 : eqAt G g (a0 + 1) := cgg.2.2.2.2.2 (a0 + 1) (by omega)
  obtain ⟨u1, u2, u3, u4, u5, u6, u7⟩ := h.cg cgg
  unfold wX2_dropFirstFault_2
  rw [e0.2.1, c2]
  refine ⟨u1, fun z => ⟨u1, u1, ?_⟩, fun z => ⟨u1, a0 + 2, u3, u1, a0 + 2, u3, by rw [u6], ?_, by rw [u6], ?_, ?_⟩⟩
  · have z' : fl.length + 1 ≤ i := (n_le (by omega) (by omega)).mp z
    have ei : i = fl.length + 1 := by omega
    subst ei
    rintro G2 rfl
    refine k _ ⟨fun r hr => ?_, ?_, by omega, fun j hj2 => ?_, fun q hq => c5 q (List.mem_cons_of_mem _ hq), ?_, ?_, c8, ?_, c10⟩ ((cgg.mono (fun x hx => Or.inr hx)).tr (cg.sI (Or.inl rfl)))
    · show gA g (a0 + 1) r = _ ∧ _
      rw [e1.2.2.2.2.1]; exact c1 r hr
    · rw [gI_sI, if_pos ⟨rfl, rfl⟩]; exact n_sub (b := 1) (by omega)
    · have q := hj j (by omega)
      rw [if_pos (by omega)] at q
      exact q
    · rw [gI_sI, if_neg (fun z => absurd z.1 (by decide)), e0.2.1]; exact c6
    · rw [gI_sI, if_neg (fun z => absurd z.1 (by decide)), e0.2.1]; exact c7
    · rw [gI_sI, if_neg (fun z => absurd z.1 (by decide)), e0.2.1]; exact c9
  · have z' : i < fl.length + 1 := Nat.lt_of_not_le (fun q => z ((n_le (by omega) (by omega)).mpr q))
    rw [u6]; exact n_in (show i < 6 by omega) (by decide)
  · have z' : i < fl.length + 1 := Nat.lt_of_not_le (fun q => z ((n_le (by omega) (by omega)).mpr q))
    rw [u6, show nI i - 1 = nI (i - 1) from n_sub (b := 1) hi1]; exact n_in (show i - 1 < 6 by omega) (by decide)
  · have z' : i < fl.length + 1 := Nat.lt_of_not_le (fun q => z ((n_le (by omega) (by omega)).mpr q))
    rw [show nI i - 1 = nI (i - 1) from n_sub (b := 1) hi1, n_cl (by omega), n_cl (by omega)]
    rintro G2 rfl
    refine ⟨u1, a0 + 3, u4, u1, a0 + 3, u4, ?_, ?_, ?_, ?_, ?_⟩
    · show (gT g (a0 + 3)).1 = 2; rw [u7]
    · show vp_in (nI i) (gT g (a0 + 3)).2; rw [u7]; exact n_in (show i < 6 by omega) (by decide)
    · show (gT g (a0 + 3)).1 = 2; rw [u7]
    · show vp_in (nI (i - 1)) (gT g (a0 + 3)).2; rw [u7]; exact n_in (show i - 1 < 6 by omega) (by decide)
    · rintro G3 rfl
      refine ⟨⟨rfl, i + 1, nI_1 i, by omega, by omega, cgg.tr ((cg.sA (Or.inl rfl)).tr (cg.sA (Or.inr rfl))), fun j hj2 => ?_⟩, ?_⟩
      · have q := hj j hj2
        have q2 := hj i z'
        rw [if_neg (by omega)] at q2
        simp only [gA_sA', if_neg (show ¬ a0 + 2 = a0 + 3 by omega), if_neg (show ¬ a0 + 3 = a0 + 2 by omega), if_true]
        by_cases e : j = i - 1
        · subst e
          rw [pk_us, pk_us, if_pos (by omega), show i - 1 + 1 = i by omega]
          exact q2
        · rw [pk_un e, pk_un e]
          by_cases e2 : j + 1 < i
          · rw [if_pos e2] at q; rw [if_pos (by omega)]; exact q
          · rw [if_neg e2] at q; rw [if_neg (by omega)]; exact q
      · dsimp only
        rw [nI_1, n_cl (by omega), n_cl (by omega)]; omega
theorem gdp_lt {l : Fl} {x : Nat × Nat} {k : Nat} (h : k < l.length) : (l ++ [x]).getD k (0, 0) = l.getD k (0, 0) := by simp [List.getD, List.getElem?_append_left h]
theorem gdp_eq {l : Fl} {x : Nat × Nat} : (l ++ [x]).getD l.length (0, 0) = x := by simp [List.getD]
theorem sp_appendFault {kd nb : Nat} {Pr : Gt → Prop} (h : DT G d) (hc : DC G d rg ro top dl fl) (hl : fl.length < 6) (hk : 1 ≤ kd ∧ kd ≤ 4) (hb : nb ≤ 2000) (k : ∀ G', DC G' d rg ro top dl (fl ++ [(kd, nb)]) → cg G G' (fun x => x = d ∨ x = d + 2 ∨ x = d + 3) → Pr G') : wX2_appendFault X G d (nI kd) (nI nb) Pr := by
  obtain ⟨t1, t2, t3, t4, t5, t6, t7⟩ := id h
  obtain ⟨c1, c2, c3, c4, c5, c6, c7, c8, c9, c10⟩ := id hc
  unfold wX2_appendFault
  rw [c2]
  refine ⟨t1, fun z => absurd ((n_le (a := 6) (by decide) (by omega)).mp z) (by omega), fun _ => ⟨t1, d + 2, t3, t1, by rw [t6], by rw [t6]; exact n_in hl (by decide), ?_⟩⟩
  rw [n_cl (by omega)]
  rintro G1 rfl
  have e2 : gI (sA G (d + 2) (upd (gA G (d + 2)) fl.length (nI kd))) 99 d = nI fl.length := c2
  rw [e2, n_cl (by omega)]
  refine ⟨t1, d + 3, t4, t1, by show (gT G (d + 3)).1 = 2; rw [t7], by show vp_in _ (gT G (d + 3)).2; rw [t7]; exact n_in hl (by decide), ?_⟩
  rintro G2 rfl
  refine ⟨t1, t1, ?_⟩
  rintro G3 rfl
  refine k _ ⟨fun r hr => ?_, ?_, by simp; omega, fun j hj => ?_, fun q hq => ?_, ?_, ?_, c8, ?_, c10⟩ ((cg.sA (Or.inr (Or.inl rfl))).tr ((cg.sA (Or.inr (Or.inr rfl))).tr (cg.sI (Or.inl rfl))))
  · show (if d + 1 = d + 3 then _ else if d + 1 = d + 2 then _ else gA G (d + 1)) r = _ ∧ _
    rw [if_neg (by omega), if_neg (by omega)]; exact c1 r hr
  · rw [gI_sI, if_pos ⟨rfl, rfl⟩, List.length_append]
    show gI G 99 d + 1 = _
    rw [c2, nI_1]; rfl
  · have hj' : j < fl.length + 1 := by simpa using hj
    show (if d + 2 = d + 3 then _ else if d + 2 = d + 2 then upd (gA G (d + 2)) fl.length (nI kd) else _) j = _ ∧ (if d + 3 = d + 3 then upd (if d + 3 = d + 2 then _ else gA G (d + 3)) fl.length (nI nb) else _) j = _
    rw [if_neg (by omega), if_pos rfl, if_pos rfl, if_neg (by omega)]
    by_cases e : j = fl.length
    · subst e; rw [pk_us, pk_us, gdp_eq]; exact ⟨rfl, rfl⟩
    · rw [pk_un e, pk_un e, gdp_lt (by omega)]; exact c4 j (by omega)
  · rcases List.mem_append.mp hq with z | z
    · exact c5 q z
    · rw [List.mem_singleton.mp z]; exact ⟨hk.1, hk.2, hb⟩
  · rw [gI_sI, if_neg (fun z => absurd z.1 (by decide))]; exact c6
  · rw [gI_sI, if_neg (fun z => absurd z.1 (by decide))]; exact c7
  · rw [gI_sI, if_neg (fun z => absurd z.1 (by decide))]; exact c9
variable {f bb : Nat} {s : List Nat} {dv lo w : Nat} {isW : Bool} {wr : Nat → Nat}
theorem sp_refusalOf {Pr : Int32 → Gt → Prop} (h : DT G d) (hc : DC G d rg ro top dl fl) (hf : FR G f bb s) (ht : tells s dv lo w isW wr) (hp : Pr (nI (rcode ro top lo w isW wr)) G) : wX2_refusalOf X G d f Pr := by
  obtain ⟨t1, t2, t3, t4, t5, t6⟩ := ht
  have B := hf.2.2.2.2.2.2
  have hlo : lo < 65536 := by rw [← t3]; exact wd_lt B 2
  have hw : w < 65536 := by
    rw [← t4]; unfold rgc
    by_cases e : s.getD 1 0 = 6
    · rw [if_pos e]; decide
    · rw [if_neg e]; exact wd_lt B 4
  refine ⟨hf.1, sp_startRegister hf ⟨hf.1, sp_registerCount hf ?_⟩⟩
  rw [t3, t4, n_add]
  unfold rcode at hp
  refine ⟨fun z => absurd z (n_neg (by omega)), fun _ => ⟨fun z => ⟨hf.1, sp_byteAt (k := 1) hf (by decide) ⟨fun z1 => ?_, fun z1 => ?_⟩⟩, fun z => ?_⟩⟩
  · have z' : lo + w ≤ 32 := (n_le (b := 32) (by omega) (by decide)).mp z
    rw [if_neg (by omega)] at hp
    have hW : isW = true := by
      cases isW with
      | true => rfl
      | false => exact absurd (by rw [t2]; rfl) z1
    rw [if_pos hW] at hp
    refine ⟨fun g a0 a1 x2 x3 x4 x5 => g = G ∧ a0 = d ∧ a1 = f ∧ x2 = nI lo ∧ x3 = nI w ∧ ∃ k, x5 = nI k ∧ k ≤ w ∧ (anyB k (fun k => ro (lo + k) == 1) = false) ∧ x4 = if anyB k (fun k => decide (top < wr k)) then 1 else 0, fun _ _ _ _ _ _ x5 => w - x5.toNatClampNeg, ⟨rfl, rfl, rfl, rfl, rfl, 0, rfl, by omega, rfl, rfl⟩, ?_⟩
    rintro g a0 a1 x2 x3 x4 x5 ⟨rfl, rfl, rfl, rfl, rfl, k, rfl, hk, hro, rfl⟩
    unfold wX2_refusalOf_41
    refine ⟨fun q => ?_, fun q => ⟨h.1, ?_⟩⟩
    · have q' : w ≤ k := (n_le (by omega) (by omega)).mp q
      have ek : k = w := by omega
      subst ek
      rw [hro] at hp
      rw [if_neg (by decide)] at hp
      by_cases e : anyB k (fun k => decide (top < wr k)) = true
      · rw [if_pos e] at hp ⊢
        exact ⟨fun z => absurd z (by decide), fun _ => hp⟩
      · rw [if_neg e] at hp ⊢
        exact ⟨fun _ => hp, fun z => absurd rfl z⟩
    · have q' : k < w := Nat.lt_of_not_le (fun e => q ((n_le (by omega) (by omega)).mpr e))
      rw [n_add]
      have dec : w - (nI k + 1).toNatClampNeg < w - (nI k).toNatClampNeg := by
        rw [nI_1, n_cl (by omega), n_cl (by omega)]; omega
      refine sp_isReadOnly h hc (by omega) (fun z2 => ⟨fun z3 => absurd z3 (by decide), fun _ => ?_⟩) (fun z2 => ⟨fun _ => ?_, fun z3 => absurd rfl z3⟩)
      · have e : anyB w (fun k => ro (lo + k) == 1) = true := anyB_iff.mpr ⟨k, q', by simp [z2]⟩
        rw [if_pos e] at hp; exact hp
      · have hro' : anyB (k + 1) (fun k => ro (lo + k) == 1) = false := by
          rw [anyB_s, hro]; simp [z2]
        have hv := t6 hW k q'
        have hvl : wr k < 65536 := by
          rw [← hv]; unfold wrv
          by_cases e : s.getD 1 0 = 6
          · rw [if_pos e]; exact wd_lt B 4
          · rw [if_neg e]; exact wd_lt B _
        have ct := hc.2.2.2.2.2.2.2.1
        refine ⟨fun z3 => ⟨⟨rfl, rfl, rfl, rfl, rfl, k + 1, nI_1 k, by omega, hro', ?_⟩, dec⟩, fun z3 => ⟨hf.1, sp_writtenValue hf (by omega) ⟨h.1, fun z4 => ⟨⟨rfl, rfl, rfl, rfl, rfl, k + 1, nI_1 k, by omega, hro', ?_⟩, dec⟩, fun z4 => ⟨⟨rfl, rfl, rfl, rfl, rfl, k + 1, nI_1 k, by omega, hro', ?_⟩, dec⟩⟩⟩⟩
        · have e : anyB k (fun k => decide (top < wr k)) = true := by
            by_cases e : anyB k (fun k => decide (top < wr k)) = true
            · exact e
            · rw [if_neg e] at z3; exact absurd rfl z3
          rw [anyB_s, e]; rfl
        · have e : ¬ anyB k (fun k => decide (top < wr k)) = true := fun e => by
            rw [if_pos e] at z3; exact absurd z3 (by decide)
          rw [hv, hc.2.2.2.2.2.2.1] at z4
          have z4' := (n_le (by omega) (by omega)).mp z4
          rw [anyB_s, Bool.eq_false_iff.mpr e]
          simp; omega
        · rw [hv, hc.2.2.2.2.2.2.1] at z4
          have z4' : ¬ wr k ≤ top := fun e => z4 ((n_le (by omega) (by omega)).mpr e)
          rw [anyB_s, if_pos]
          simp; right; omega
  · have z' : lo + w ≤ 32 := (n_le (b := 32) (by omega) (by decide)).mp z
    rw [if_neg (by omega)] at hp
    have hW : isW = false := by
      cases isW with
      | false => rfl
      | true =>
        rw [t2] at z1
        unfold fnc at z1
        rw [if_pos rfl] at z1
        by_cases e : w = 1
        · rw [if_pos e] at z1; exact absurd z1 (by decide)
        · rw [if_neg e] at z1; exact absurd z1 (by decide)
    rw [hW] at hp
    exact hp
  · have z' : ¬ lo + w ≤ 32 := fun e => z ((n_le (b := 32) (by omega) (by decide)).mpr e)
    rw [if_pos (by omega)] at hp
    exact hp
end DEV
