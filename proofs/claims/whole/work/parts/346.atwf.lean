/-! ===== attempts keep states well formed ===== -/
theorem atS_n {S : St} {p : Fp} {L : List Rp} (h : atK S p = (none, L)) : atS S p = (gtS S p (nmN S p) L, none) := by unfold atS; rw [h]
theorem atS_y {S : St} {p : Fp} {r : Rp} {L : List Rp} (h : atK S p = (some r, L)) : atS S p = (gtS S p (nmY S p r) L, some r) := by unfold atS; rw [h]
/-- what attempts leave as it was -/
def kpA (S S' : St) : Prop := zrq S' = zrq S ∧ zW S' = zW S ∧ zV S' = zV S ∧ zcf S' = zcf S ∧ zcv S' = zcv S ∧ zct S' = zct S ∧ zro S' = zro S ∧ ztp S' = ztp S ∧ zdl S' = zdl S ∧ (∀ j, j ≠ 0 → j < 8 → zn S' j = zn S j) ∧ zn S' 14 = zn S 14 ∧ zn S' 15 = zn S 15
theorem kpA.rf {S : St} : kpA S S := ⟨rfl, rfl, rfl, rfl, rfl, rfl, rfl, rfl, rfl, fun _ _ _ => rfl, rfl, rfl⟩
theorem kpA.tr {S S' S'' : St} (h : kpA S S') (h' : kpA S' S'') : kpA S S'' := by
  obtain ⟨a1, a2, a3, a4, a5, a6, a7, a8, a9, a10, a11, a12⟩ := h
  obtain ⟨b1, b2, b3, b4, b5, b6, b7, b8, b9, b10, b11, b12⟩ := h'
  exact ⟨b1.trans a1, b2.trans a2, b3.trans a3, b4.trans a4, b5.trans a5, b6.trans a6, b7.trans a7, b8.trans a8, b9.trans a9, fun j h1 h2 => (b10 j h1 h2).trans (a10 j h1 h2), b11.trans a11, b12.trans a12⟩
theorem fbs_len {p : Fp} (h : wfF p) : 8 ≤ (fbs p).length ∧ (fbs p).length ≤ 25 := fby_len ⟨h.2.2.1, h.2.2.2.1⟩ h.2.2.2.2.1
theorem hd2_v {fl : Fl} (h : ∀ p ∈ fl, 1 ≤ p.1 ∧ p.1 ≤ 4 ∧ p.2 ≤ 2000) : (hd2 fl).1 ≤ 4 ∧ (hd2 fl).2 ≤ 2000 := by
  unfold hd2
  cases fl with
  | nil => exact ⟨by decide, by decide⟩
  | cons q t => exact (h q List.mem_cons_self).2
theorem pl_wf {S : St} {p : Fp} (h : WF S) (hp : wfF p) (t : Nat) (ht : zn S 0 ≤ t) : (∀ r ∈ pline S p t, wfP (zn S 7) t r ∧ t ≤ r.1) ∧ (pline S p t).length ≤ (zL S).length + 1 := by
  obtain ⟨_, hd, _, _, hl⟩ := h
  obtain ⟨d1, d2, d3, d4, d5, d6⟩ := hd (fd p)
  obtain ⟨p1, p2, p3, p4, p5, p6, p7⟩ := hp
  have hv := hd2_v d6
  constructor
  · intro r hr
    rcases List.mem_append.mp hr with q | q
    · obtain ⟨q1, q2⟩ := List.mem_filter.mp q
      exact ⟨(hl r q1).up (Nat.le_refl _) ht, by simpa using q2⟩
    · split at q
      · cases q
      · rw [List.mem_singleton.mp q]
        have hf := ab_fmt (rg := zrg S (fd p)) (d := fd p) (lo := flo p) (w := fwd p) (isW := fisW p) (wr := fwr p) (code := pcode S p) (fl := zfl S (fd p)) ⟨p3, p4⟩ (by omega) p6 p7 d1 acode_v
        refine ⟨⟨?_, Nat.le_refl _, hf⟩, ?_⟩
        · show t + zdl S (fd p) + (if (hd2 (zfl S (fd p))).1 = 3 then (hd2 (zfl S (fd p))).2 else 0) ≤ t + 3000
          split <;> omega
        · show t ≤ t + zdl S (fd p) + _
          omega
  · unfold pline
    rw [List.length_append]
    have := List.length_filter_le (fun r : Rp => decide (t ≤ r.1)) (zL S)
    split <;> simp <;> omega
theorem rga_lt {rg : Nat → Nat} {lo w : Nat} {isW : Bool} {wr : Nat → Nat} {code : Nat} (h1 : ∀ r, rg r < 65536) (h2 : ∀ k, wr k < 65536) : ∀ r, arg rg code lo w isW wr r < 65536 := by
  intro r
  unfold arg
  split
  · unfold rga
    split
    · unfold rgw
      split
      · exact h2 _
      · exact h1 r
    · exact h1 r
  · exact h1 r
theorem gt_wf {S : St} {p : Fp} {n : Nat → Nat} {L : List Rp} (h : WF S) (hp : wfF p) (hn : wfS n) (h6 : n 6 = zn S 6) (h0 : zn S 0 ≤ n 0) (hL : ∀ r ∈ L, wfP (n 7) (n 0) r) : WF (gtS S p n L) := by
  obtain ⟨w1, w2, w3, w4, w5⟩ := h
  refine ⟨hn, fun d => ?_, ?_, fun q => ?_, hL⟩
  · show wfD (va_up (zrg S) (fd p) (arg (zrg S (fd p)) (pcode S p) (flo p) (fwd p) (fisW p) (fwr p)) d) (zro S d) (ztp S d) (zdl S d) (va_up (zfl S) (fd p) (zfl S (fd p)).tail d)
    by_cases e : d = fd p
    · subst e
      rw [va_up_self, va_up_self]
      obtain ⟨d1, d2, d3, d4, d5, d6⟩ := w2 (fd p)
      exact ⟨rga_lt d1 hp.2.2.2.2.2.2, d2, d3, d4, by rw [List.length_tail]; omega, fun q hq => d6 q (List.mem_of_mem_tail hq)⟩
    · rw [va_up_ne _ _ e, va_up_ne _ _ e]; exact w2 d
  · show wfQ (n 6) (zrq S)
    rw [h6]; exact w3
  · obtain ⟨a, b⟩ := w4 q
    exact ⟨a, fun e => ⟨(b e).1, Nat.le_trans (b e).2 h0⟩⟩
theorem at_ok {S : St} {p : Fp} (h : WF S) (hp : wfF p) : WF (atS S p).1 ∧ kpA S (atS S p).1 ∧ zn S 0 ≤ zn (atS S p).1 0 ∧ zn (atS S p).1 0 ≤ zn S 0 + 1100 ∧ (zL (atS S p).1).length ≤ (zL S).length + 1 ∧ zn S 12 ≤ zn (atS S p).1 12 ∧ ((atS S p).2 = none → zn (atS S p).1 12 = zn S 12) ∧ zn (atS S p).1 12 ≤ zn S 12 + 1 ∧ (∀ r, (atS S p).2 = some r → fmt r.2.2 ∧ fitsB r.2.2 (fbs p) = true) := by
  have hlen := fbs_len hp
  have hT : zn S 0 ≤ atT S p := by unfold atT; omega
  obtain ⟨q1, q2⟩ := pl_wf h hp (atT S p) hT
  obtain ⟨k1, k2, k3⟩ := tkS_sub (s := fbs p) (u := atT S p + zn S 2) (pline S p (atT S p)).length (pline S p (atT S p))
  obtain ⟨s1, s2, s3, s4, s5, s6, s7, s8⟩ := h.1
  cases hk : atK S p with
  | mk o L =>
    unfold atK at hk
    rw [hk] at k1 k2 k3
    cases o with
    | none =>
      rw [atS_n hk]
      have e0 : nmN S p 0 = atT S p + zn S 2 := rfl
      have e7 : nmN S p 7 = zn S 7 := rfl
      refine ⟨gt_wf h hp ⟨s1, s2, s3, s4, s5, s6, s7, ?_⟩ rfl (by rw [e0]; omega) (fun r hr => ?_), ⟨rfl, rfl, rfl, rfl, rfl, rfl, rfl, rfl, rfl, fun j h1 h2 => ?_, rfl, rfl⟩, ?_, ?_, ?_, Nat.le_refl _, fun _ => rfl, ?_, fun r hr => by cases hr⟩
      · exact Nat.le_refl _
      · rw [e0, e7]; exact (q1 r (k1 r hr)).1.up (Nat.le_refl _) (by omega)
      · show va_up (va_up (va_up (va_up (zn S) 10 (zn S 10 + 1)) 0 (atT S p + zn S 2)) 13 (zn S 13 + 1)) 8 1 j = zn S j
        rw [va_up_ne _ _ (by omega), va_up_ne _ _ (by omega), va_up_ne _ _ h1, va_up_ne _ _ (by omega)]
      · show zn S 0 ≤ atT S p + zn S 2; omega
      · show atT S p + zn S 2 ≤ _; unfold atT; omega
      · show L.length ≤ _
        exact Nat.le_trans k3 q2
      · show zn S 12 ≤ _; omega
    | some r =>
      rw [atS_y hk]
      obtain ⟨r1, r2, r3⟩ := k2 r rfl
      obtain ⟨f1, f2⟩ := q1 r r1
      have e0 : nmY S p r 0 = r.1 + r.2.2.length := rfl
      have e7 : nmY S p r 7 = zn S 7 := rfl
      have f37 := f1.2.2.2.1
      refine ⟨gt_wf h hp ⟨s1, s2, s3, s4, s5, s6, s7, ?_⟩ rfl (by rw [e0]; omega) (fun r' hr => ?_), ⟨rfl, rfl, rfl, rfl, rfl, rfl, rfl, rfl, rfl, fun j h1 h2 => ?_, rfl, rfl⟩, ?_, ?_, ?_, ?_, (fun e => by cases e), ?_, fun r' hr => ?_⟩
      · exact Nat.zero_le _
      · rw [e0, e7]; exact (q1 r' (k1 r' hr)).1.up (Nat.le_refl _) (by omega)
      · show va_up (va_up (va_up (va_up (va_up (zn S) 10 (zn S 10 + 1)) 0 (r.1 + r.2.2.length)) 11 (zn S 11 + 1)) 12 (zn S 12 + if r.2.1 = zn S 7 then 0 else 1)) 8 0 j = zn S j
        rw [va_up_ne _ _ (by omega), va_up_ne _ _ (by omega), va_up_ne _ _ (by omega), va_up_ne _ _ h1, va_up_ne _ _ (by omega)]
      · show zn S 0 ≤ r.1 + r.2.2.length; omega
      · show r.1 + r.2.2.length ≤ _
        have : atT S p ≤ zn S 0 + 29 := by unfold atT; omega
        omega
      · show L.length ≤ _
        exact Nat.le_trans k3 q2
      · show zn S 12 ≤ zn S 12 + _; omega
      · show zn S 12 + (if r.2.1 = zn S 7 then 0 else 1) ≤ _; split <;> omega
      · injection hr with hr
        rw [← hr]
        exact ⟨f1.2.2, r2⟩
theorem trS_n {p : Fp} {n : Nat} {S : St} (h : (atS S p).2 = none) : trS p (n + 1) S = trS p n (atS S p).1 := by
  show (match atS S p with | (S', some r) => (S', some r) | (S', none) => trS p n S') = _
  cases hh : atS S p with
  | mk S' o =>
    rw [hh] at h
    subst h
    rfl
theorem trS_y {p : Fp} {n : Nat} {S : St} {r : Rp} (h : (atS S p).2 = some r) : trS p (n + 1) S = atS S p := by
  show (match atS S p with | (S', some r) => (S', some r) | (S', none) => trS p n S') = _
  cases hh : atS S p with
  | mk S' o =>
    rw [hh] at h
    have h' : o = some r := h
    subst h'
    rfl
theorem tr_ok {p : Fp} (hp : wfF p) : ∀ (n : Nat) (S : St), WF S → WF (trS p n S).1 ∧ kpA S (trS p n S).1 ∧ zn S 0 ≤ zn (trS p n S).1 0 ∧ zn (trS p n S).1 0 ≤ zn S 0 + 1100 * n ∧ (zL (trS p n S).1).length ≤ (zL S).length + n ∧ zn S 12 ≤ zn (trS p n S).1 12 ∧ zn (trS p n S).1 12 ≤ zn S 12 + 1 ∧ (∀ r, (trS p n S).2 = some r → fmt r.2.2 ∧ fitsB r.2.2 (fbs p) = true)
  | 0, S, h => ⟨h, kpA.rf, Nat.le_refl _, Nat.le_refl _, Nat.le_refl _, Nat.le_refl _, Nat.le_succ _, fun r hr => by cases hr⟩
  | n + 1, S, h => by
    obtain ⟨a1, a2, a3, a4, a5, a6, a7, a8, a9⟩ := at_ok h hp
    cases ho : (atS S p).2 with
    | none =>
      rw [trS_n ho]
      obtain ⟨b1, b2, b3, b4, b5, b6, b7, b8⟩ := tr_ok hp n (atS S p).1 a1
      have := a7 ho
      exact ⟨b1, a2.tr b2, by omega, by omega, by omega, by omega, by omega, b8⟩
    | some r =>
      rw [trS_y ho]
      exact ⟨a1, a2, a3, Nat.le_trans a4 (Nat.add_le_add_left (Nat.le_mul_of_pos_right _ (Nat.succ_pos _)) _), Nat.le_trans a5 (Nat.add_le_add_left (Nat.succ_le_succ (Nat.zero_le _)) _), a6, a8, a9⟩
