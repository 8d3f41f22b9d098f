/-! ===== what calls keep of a state ===== -/
section OKSS
variable {S : St}
theorem ok_set {i v : Nat} (h : OKS S) (hi : i ≤ 4) (h1 : loS i ≤ v) (h2 : v ≤ hiS i) : OKS (u1 S (1 + i) v) := by
  obtain ⟨⟨⟨s1, s2, s2', s3, s4, s5, s6, s8⟩, w2, w3, w4, w5⟩, hb, h8⟩ := h
  rcases (show i = 0 ∨ i = 1 ∨ i = 2 ∨ i = 3 ∨ i = 4 by omega) with e | e | e | e | e <;> subst e
  · exact ⟨⟨⟨h2, s2, s2', s3, s4, s5, s6, s8⟩, w2, w3, w4, w5⟩, hb, h8⟩
  · exact ⟨⟨⟨s1, h1, h2, s3, s4, s5, s6, s8⟩, w2, w3, w4, w5⟩, hb, h8⟩
  · exact ⟨⟨⟨s1, s2, s2', h2, s4, s5, s6, s8⟩, w2, w3, w4, w5⟩, hb, h8⟩
  · exact ⟨⟨⟨s1, s2, s2', s3, h2, s5, s6, s8⟩, w2, w3, w4, w5⟩, hb, h8⟩
  · exact ⟨⟨⟨s1, s2, s2', s3, s4, h2, s6, s8⟩, w2, w3, w4, w5⟩, hb, h8⟩
theorem ok_dl {d v : Nat} (h : OKS S) (hv : v ≤ 1000) : OKS (udl S (va_up (zdl S) d v)) := by
  obtain ⟨⟨w1, w2, w3, w4, w5⟩, hb, h8⟩ := h
  refine ⟨⟨w1, fun e => ?_, w3, w4, w5⟩, hb, h8⟩
  obtain ⟨a1, a2, a3, a4, a5, a6⟩ := w2 e
  refine ⟨a1, a2, a3, ?_, a5, a6⟩
  show va_up (zdl S) d v e ≤ 1000
  by_cases q : e = d
  · rw [q, va_up_self]; exact hv
  · rw [va_up_ne _ _ q]; exact a4
theorem ok_tp {d v : Nat} (h : OKS S) (hv : v < 65536) : OKS (utp S (va_up (ztp S) d v)) := by
  obtain ⟨⟨w1, w2, w3, w4, w5⟩, hb, h8⟩ := h
  refine ⟨⟨w1, fun e => ?_, w3, w4, w5⟩, hb, h8⟩
  obtain ⟨a1, a2, a3, a4, a5, a6⟩ := w2 e
  refine ⟨a1, a2, ?_, a4, a5, a6⟩
  show va_up (ztp S) d v e < 65536
  by_cases q : e = d
  · rw [q, va_up_self]; exact hv
  · rw [va_up_ne _ _ q]; exact a3
theorem ok_rg {d r v : Nat} (h : OKS S) (hv : v < 65536) : OKS (urg S (va_up (zrg S) d (va_up (zrg S d) r v))) := by
  obtain ⟨⟨w1, w2, w3, w4, w5⟩, hb, h8⟩ := h
  refine ⟨⟨w1, fun e => ?_, w3, w4, w5⟩, hb, h8⟩
  obtain ⟨a1, a2, a3, a4, a5, a6⟩ := w2 e
  refine ⟨fun j => ?_, a2, a3, a4, a5, a6⟩
  show va_up (zrg S) d (va_up (zrg S d) r v) e j < 65536
  by_cases q : e = d
  · rw [q, va_up_self]
    by_cases q2 : j = r
    · rw [q2, va_up_self]; exact hv
    · rw [va_up_ne _ _ q2]; exact (w2 d).1 j
  · rw [va_up_ne _ _ q]; exact a1 j
theorem ok_ro {d r v : Nat} (h : OKS S) (hv : v ≤ 1) : OKS (uro S (va_up (zro S) d (va_up (zro S d) r v))) := by
  obtain ⟨⟨w1, w2, w3, w4, w5⟩, hb, h8⟩ := h
  refine ⟨⟨w1, fun e => ?_, w3, w4, w5⟩, hb, h8⟩
  obtain ⟨a1, a2, a3, a4, a5, a6⟩ := w2 e
  refine ⟨a1, fun j => ?_, a3, a4, a5, a6⟩
  show va_up (zro S) d (va_up (zro S d) r v) e j ≤ 1
  by_cases q : e = d
  · rw [q, va_up_self]
    by_cases q2 : j = r
    · rw [q2, va_up_self]; exact hv
    · rw [va_up_ne _ _ q2]; exact (w2 d).2.1 j
  · rw [va_up_ne _ _ q]; exact a2 j
theorem ok_fl {d a b : Nat} (h : OKS S) (hl : (zfl S d).length < 6) (ha : 1 ≤ a ∧ a ≤ 4) (hb' : b ≤ 2000) : OKS (ufl S (va_up (zfl S) d (zfl S d ++ [(a, b)]))) := by
  obtain ⟨⟨w1, w2, w3, w4, w5⟩, hb, h8⟩ := h
  refine ⟨⟨w1, fun e => ?_, w3, w4, w5⟩, hb, h8⟩
  obtain ⟨a1, a2, a3, a4, a5, a6⟩ := w2 e
  refine ⟨a1, a2, a3, a4, ?_, ?_⟩
  · show (va_up (zfl S) d (zfl S d ++ [(a, b)]) e).length ≤ 6
    by_cases q : e = d
    · rw [q, va_up_self, List.length_append]; show (zfl S d).length + 1 ≤ 6; omega
    · rw [va_up_ne _ _ q]; exact a5
  · show ∀ p ∈ va_up (zfl S) d (zfl S d ++ [(a, b)]) e, 1 ≤ p.1 ∧ p.1 ≤ 4 ∧ p.2 ≤ 2000
    by_cases q : e = d
    · rw [q, va_up_self]
      intro p hp
      rcases List.mem_append.mp hp with z | z
      · exact (w2 d).2.2.2.2.2 p z
      · rw [List.mem_singleton.mp z]; exact ⟨ha.1, ha.2, hb'⟩
    · rw [va_up_ne _ _ q]; exact a6
theorem ok_add {cl d st w iw v : Nat} (h : OKS S) (hn : zn S 6 < 40) (h0 : cl ≤ 3) (h1 : 1 ≤ d ∧ d ≤ 3) (h2 : st ≤ 1000) (h3 : 1 ≤ w ∧ w ≤ 16) (h4 : iw ≤ 1) (h41 : iw = 1 → w = 1) (h9 : v < 65536) : OKS (addS S cl d st w iw v) := by
  obtain ⟨⟨⟨s1, s2, s2', s3, s4, s5, s6, s8⟩, w2, w3, w4, w5⟩, hb, h8⟩ := h
  obtain ⟨z5, z6, z8⟩ := w3.2 (zn S 6) (Nat.le_refl _)
  have rn : zrq (addS S cl d st w iw v) (zn S 6) = rqN (zrq S (zn S 6)) cl d st w iw v := va_up_self _ _ _
  have ro : ∀ i, i ≠ zn S 6 → zrq (addS S cl d st w iw v) i = zrq S i := fun i hi => va_up_ne _ _ hi
  have n6 : zn (addS S cl d st w iw v) 6 = zn S 6 + 1 := va_up_self (zn S) 6 (zn S 6 + 1)
  have hwt : wt (addS S cl d st w iw v) = wt S + 1 := by
    unfold wt
    rw [n6]
    show wtN _ (zn S 6) + (if zrq (addS S cl d st w iw v) (zn S 6) 5 = 0 then 1 else 0) = _
    rw [rn, if_pos (show rqN (zrq S (zn S 6)) cl d st w iw v 5 = 0 from z5), wtN_cg (R := zrq S) (zn S 6) (fun i hi => by rw [ro i (by omega)])]
  refine ⟨⟨⟨s1, s2, s2', s3, s4, s5, by rw [n6]; omega, s8⟩, w2, ?_, w4, w5⟩, ?_, fun i => ?_⟩
  · rw [n6]
    refine ⟨fun i hi => ?_, fun i hi => ?_⟩
    · by_cases e : i = zn S 6
      · rw [e, rn]
        exact ⟨by show cl < 4; omega, h1.1, h1.2, h2, h3.1, h3.2, h4, h41, by show zrq S (zn S 6) 5 ≤ 2; omega, by show zrq S (zn S 6) 6 < 256; omega, h9⟩
      · rw [ro i e]; exact w3.1 i (by omega)
    · rw [ro i (by omega)]; exact w3.2 i (by omega)
  · obtain ⟨b1, b2, b3, b4⟩ := hb
    have wl := wt_le (S := S)
    unfold bd
    rw [hwt, n6, show zn S 6 + 1 - (wt S + 1) = zn S 6 - wt S by omega]
    exact ⟨b1, b2, b3, b4⟩
  · by_cases e : i = zn S 6
    · rw [e, rn]; show zrq S (zn S 6) 8 ≤ 1; omega
    · rw [ro i e]; exact h8 i
theorem ok_step (h : OKS S) : OKS (stepS S).1 := ⟨(step_ok h.1).1.1, bd_step h.1 h.2.1, fun i => (step_rq h.1 i 0).2 h.2.2⟩
theorem ok_all (h : OKS S) : OKS (allS S) := ⟨(all_ok h.1 h.2.1).1, (all_ok h.1 h.2.1).2.1, fun i => (run_rq (wt S) S h.1).2.1 h.2.2 i⟩
theorem ok_pass {x : Nat} (h : OKS S) (hx : zn S 0 + x ≤ 10000000) : OKS (u1 S 0 (zn S 0 + x)) := by
  have hw := u7_wf h.1 (zn S 7) (zn S 0 + x) (Nat.le_refl _) (by omega)
  rw [u1_id] at hw
  refine ⟨hw, ?_, h.2.2⟩
  obtain ⟨b1, b2, b3, b4⟩ := h.2.1
  refine ⟨b1, b2, b3, ?_⟩
  show zn S 0 + x ≤ 10000000 + _
  exact Nat.le_trans hx (Nat.le_add_right _ _)
theorem ok_clear (h : OKS S) : OKS (ucf S (zerF (zcf S) 96)) := by
  obtain ⟨⟨w1, w2, w3, w4, w5⟩, hb, h8⟩ := h
  refine ⟨⟨w1, w2, w3, fun p => ?_, w5⟩, hb, h8⟩
  show zerF (zcf S) 96 p ≤ 1 ∧ (zerF (zcf S) 96 p = 1 → _)
  unfold zerF
  split
  · exact ⟨Nat.zero_le _, fun z => absurd z (by decide)⟩
  · exact w4 p
theorem ok_0 : OKS S0 := ⟨S0_wf, ⟨Nat.le_refl _, Nat.le_refl _, Nat.le_refl _, show (0 : Nat) ≤ _ from Nat.zero_le _⟩, fun _ => Nat.zero_le 1⟩
end OKSS
