/-! ===== Queue: gather, valueToWrite ===== -/
section GATHER
variable {X : Xt} {sd : Nat → Nat} {s : Nat} {G : Gt} {u z : Nat} {qs : List Nat} {R : Nat → Nat → Nat} {W : Nat → Int32} {V : Nat → Nat → Nat} {fu : Bool} {M q lo hi : Nat}
theorem sp_fitsBeside {i : Nat} {Pr : Int32 → Gt → Prop} (h : QU X sd s G u z qs R W V fu) (hg : QG G u M q (R q 1) (R q 4) lo hi) (hq : q < qs.length) (hi' : i < qs.length) (hl : lo ≤ hi) (hh : hi ≤ 2000) (y : fitB R q lo hi i → Pr 1 G) (n : ¬ fitB R q lo hi i → Pr 0 G) : wX6_fitsBeside X G u (qs.getD i 0) Pr := by
  obtain ⟨t1, _⟩ := h.t
  obtain ⟨_, _, _, ⟨a1, a2, a3, b0, b1, b2, b3, b4, b5, b6, b7, b8, b9⟩, ⟨w0, w1, w2, w3, w4, w5, w6, w7, w8, _⟩, _⟩ := h.e hi'
  obtain ⟨_, _, _, _, ⟨v0, v1, v2, v3, v4, v5, v6, v7, v8, _⟩, _⟩ := h.e hq
  obtain ⟨g1, g2, g3, g4, g5, g6⟩ := hg
  unfold fitB at y n
  unfold wX6_fitsBeside
  rw [b6, b1, b5, b2, b4, g3, g4, g5, g6]
  refine ⟨a1, fun zz => n (fun e => zz (by rw [e.1]; rfl)), fun zz => ⟨a1, t1, fun z2 => n (fun e => z2 (by rw [e.2.1])), fun z2 => ⟨a1, t1, fun z3 => ⟨a1, t1, fun z4 => n (fun e => ?_), fun z4 => ⟨a1, t1, fun z5 => ⟨t1, a1, sp_max (by omega) (by omega) ⟨t1, a1, ?_⟩⟩, fun z5 => n (fun e => ?_)⟩⟩, fun z3 => n (fun e => z3 (by rw [e.2.2.1]))⟩⟩⟩
  · have := (n_lt (by omega) (by omega)).mp z4; omega
  · rw [g5, b2]
    refine sp_min (by omega) (by omega) ⟨t1, ?_⟩
    have e5 : R i 5 = 0 := n_inj (b := 0) (by omega) (by decide) zz
    have e1 : R i 1 = R q 1 := n_inj (by omega) (by omega) z2
    have e4 : R i 4 = R q 4 := n_inj (by omega) (by omega) z3
    have f4 : ¬ hi < R i 2 := fun e => z4 ((n_lt (by omega) (by omega)).mpr e)
    have f5 : lo ≤ R i 2 + R i 3 := (n_le (by omega) (by omega)).mp z5
    rw [g4, n_sub (by omega)]
    unfold wX6_fitsBeside_94
    refine ⟨fun z6 => ?_, fun z6 => ?_⟩
    · have e6 : R q 4 = 0 := n_inj (b := 0) (by omega) (by decide) z6
      rw [if_neg (by omega)] at y n
      refine ⟨fun z7 => n (fun e => ?_), fun z7 => y ⟨e5, e1, e4, by omega, f5, ?_⟩⟩
      · have := (n_lt (a := 16) (by decide) (by omega)).mp z7; omega
      · exact Nat.le_of_not_lt (fun e => z7 ((n_lt (a := 16) (by decide) (by omega)).mpr e))
    · have e6 : R q 4 = 1 := by
        rcases (show R q 4 = 0 ∨ R q 4 = 1 by omega) with e | e
        · exact absurd (by rw [e]; rfl) z6
        · exact e
      rw [if_pos e6] at y n
      refine ⟨fun z7 => n (fun e => ?_), fun z7 => y ⟨e5, e1, e4, by omega, f5, ?_⟩⟩
      · have := (n_lt (a := 8) (by decide) (by omega)).mp z7; omega
      · exact Nat.le_of_not_lt (fun e => z7 ((n_lt (a := 8) (by decide) (by omega)).mpr e))
  · exact z5 ((n_le (by omega) (by omega)).mpr e.2.2.2.2.1)
theorem sp_isBarred {i : Nat} {Pr : Int32 → Gt → Prop} {Px : String → Gt → Prop} (h : QU X sd s G u z qs R W V fu) (hg : QG G u M q (R q 1) (R q 4) lo hi) (hM : M < 2 ^ 40) (hq : q < qs.length) (hi' : i < qs.length) (h4 : R i 4 = R q 4) (y : held R q M i → Pr 1 G) (n : ¬ held R q M i → Pr 0 G) : wX6_isBarred X G u (nI i) (qs.getD i 0) Pr Px := by
  obtain ⟨t1, t2, t3, t4, t5, _, t7, t8⟩ := h.t
  obtain ⟨_, _, _, hri, hwi, _⟩ := h.e hi'
  obtain ⟨_, _, _, _, ⟨v0, v1, v2, v3, v4, v5, v6, v7, v8, _⟩, _⟩ := h.e hq
  refine ⟨fun g a0 x1 a2 x3 => g = G ∧ a0 = u ∧ x1 = nI i ∧ a2 = qs.getD i 0 ∧ ∃ w, x3 = nI w ∧ w ≤ i ∧ ∀ j, j < w → ¬ bars R q M i j, fun _ _ _ _ x3 => i - x3.toNatClampNeg, ⟨rfl, rfl, rfl, rfl, 0, rfl, by omega, fun j hj => absurd hj (by omega)⟩, ?_⟩
  rintro g a0 x1 a2 x3 ⟨rfl, rfl, rfl, rfl, w, rfl, hw, hj⟩
  have nx : ¬ bars R q M i w → w < i → (g = g ∧ a0 = a0 ∧ nI i = nI i ∧ qs.getD i 0 = qs.getD i 0 ∧ ∃ w', nI w + 1 = nI w' ∧ w' ≤ i ∧ ∀ j, j < w' → ¬ bars R q M i j) ∧ i - (nI w + 1).toNatClampNeg < i - (nI w).toNatClampNeg := fun hb hwi => by
    refine ⟨⟨rfl, rfl, rfl, rfl, w + 1, nI_1 w, by omega, fun j hj2 => ?_⟩, ?_⟩
    · by_cases e : j = w
      · rw [e]; exact hb
      · exact hj j (by omega)
    · rw [nI_1, n_cl (by omega), n_cl (by omega)]; omega
  refine ⟨fun qq => ?_, fun qq => ?_⟩
  · have q' : i ≤ w := (n_le (by omega) (by omega)).mp qq
    exact n (fun ⟨v, hv, hb⟩ => hj v (by omega) hb)
  · have hwi2 : w < i := Nat.lt_of_not_le (fun e => qq ((n_le (by omega) (by omega)).mpr e))
    have hwq : w < qs.length := by omega
    obtain ⟨_, _, _, hrw, hww, _⟩ := h.e hwq
    obtain ⟨a1, a2, a3, b0, b1, b2, b3, b4, b5, b6, b7, b8, b9⟩ := id hrw
    obtain ⟨w0, w1, w2, w3, w4, w5, w6, w7, w8, _⟩ := id hww
    refine ⟨t1, a0 + 1, t2, t7, q_get h hwq ⟨_, rfl, a1, a1, fun zz => nx (fun e => zz (by rw [b6, e.1]; rfl)) hwi2, fun zz => ⟨a1, t1, fun z2 => nx (fun e => z2 (by rw [b1, hg.2.2.1, e.2.1])) hwi2, fun z2 => ⟨t1, sp_isMember t1 hg.1 hM (by omega) (fun hm => ⟨fun _ => nx (fun e => by rw [e.2.2.1] at hm; cases hm) hwi2, fun z3 => absurd z3 (by decide)⟩) (fun hm => ⟨fun z3 => absurd rfl z3, fun _ => ⟨a1, ?_⟩⟩)⟩⟩⟩⟩
    have e5 : R w 5 = 0 := by rw [b6] at zz; exact n_inj (b := 0) (by omega) (by decide) zz
    have e1 : R w 1 = R q 1 := by rw [b1, hg.2.2.1] at z2; exact n_inj (by omega) (by omega) z2
    refine sp_overlaps hrw hri hww hwi (fun o1 o2 => ⟨fun z3 => absurd z3 (by decide), fun _ => ⟨a1, fun z3 => ?_, fun z3 => ⟨hri.1, fun z4 => ?_, fun z4 => ?_⟩⟩⟩) (fun o => ⟨fun _ => nx (fun e => o e.2.2.2.1) hwi2, fun z3 => absurd rfl z3⟩)
    · have e4 : R w 4 = 1 := by
        rcases (show R w 4 = 0 ∨ R w 4 = 1 by omega) with e | e
        · exact absurd (by rw [b5, e]; rfl) z3
        · exact e
      exact y ⟨w, hwi2, e5, e1, hm, ⟨o1, o2⟩, Or.inl e4⟩
    · rw [b5] at z3
      rw [hri.2.2.2.2.2.2.2.2.1, h4] at z4
      have e4 : R w 4 = 0 := n_inj (b := 0) (by omega) (by decide) z3
      have e6 : R q 4 = 0 := n_inj (b := 0) (by omega) (by decide) z4
      exact nx (fun e => by have := e.2.2.2.2; omega) hwi2
    · rw [hri.2.2.2.2.2.2.2.2.1, h4] at z4
      have e6 : R q 4 = 1 := by
        rcases (show R q 4 = 0 ∨ R q 4 = 1 by omega) with e | e
        · exact absurd (by rw [e]; rfl) z4
        · exact e
      exact y ⟨w, hwi2, e5, e1, hm, ⟨o1, o2⟩, Or.inr e6⟩
theorem sp_gather {Pr : Gt → Prop} {Px : String → Gt → Prop} (h : QU X sd s G u z qs R W V fu) (hq : q < qs.length) (hq5 : R q 5 = 0) (hg : QG G u (2 ^ q) q (R q 1) (R q 4) (R q 2) (R q 2 + R q 3))
    (k : ∀ G', cg G G' (fun a => a = u) → QU X sd s G' u z qs R W V fu → QG G' u (gat R q (qs.length - (q + 1))).1 q (R q 1) (R q 4) (gat R q (qs.length - (q + 1))).2.1 (gat R q (qs.length - (q + 1))).2.2 → Pr G') : wX6_gather X G u Pr Px := by
  obtain ⟨t1, t2, t3, t4, t5, _, t7, t8⟩ := h.t
  have hwf : ∀ i, i < qs.length → wfR (R i) := fun i hi => (h.e hi).2.2.2.2.1
  have kp : ∀ {G' : Gt}, cg G G' (fun a => a = u) → QU X sd s G' u z qs R W V fu := fun c => h.keep c.ch (fun a _ hn e => hn e)
  unfold wX6_gather
  rw [hg.2.1]
  refine ⟨t1, fun g a0 x1 => a0 = u ∧ cg G g (fun a => a = u) ∧ ∃ n, x1 = nI (q + 1 + n) ∧ q + 1 + n ≤ qs.length ∧ QG g u (gat R q n).1 q (R q 1) (R q 4) (gat R q n).2.1 (gat R q n).2.2, fun _ _ x1 => qs.length - x1.toNatClampNeg, ⟨rfl, cg.rf, 0, nI_1 q, by omega, hg⟩, ?_⟩
  rintro g a0 x1 ⟨rfl, c, n, rfl, hn, hgn⟩
  have hu := kp c
  obtain ⟨u1, u2, u3, u4, u5, _, u7, u8⟩ := hu.t
  refine ⟨u1, a0 + 1, u2, u7, q_size hu ⟨fun qq => ?_, fun qq => ?_⟩⟩
  · have q' : qs.length ≤ q + 1 + n := (n_le (by omega) (by omega)).mp qq
    have e : n = qs.length - (q + 1) := by omega
    subst e
    exact k g c hu hgn
  · have hlt : q + 1 + n < qs.length := Nat.lt_of_not_le (fun e => qq ((n_le (by omega) (by omega)).mpr e))
    obtain ⟨o1, o2, o3, _⟩ := gat_ok hwf hq5 n (by omega)
    have hMl := gat_lt (R := R) (q := q) n
    have hM40 : (gat R q n).1 < 2 ^ 40 := Nat.lt_of_lt_of_le hMl (pw40 (by omega))
    have dec : qs.length - (nI (q + 1 + n) + 1).toNatClampNeg < qs.length - (nI (q + 1 + n)).toNatClampNeg := by
      rw [nI_1, n_cl (by omega), n_cl (by omega)]; omega
    have stay : ¬ (fitB R q (gat R q n).2.1 (gat R q n).2.2 (q + 1 + n) ∧ ¬ held R q (gat R q n).1 (q + 1 + n)) → ∃ n', nI (q + 1 + n) + 1 = nI (q + 1 + n') ∧ q + 1 + n' ≤ qs.length ∧ QG g a0 (gat R q n').1 q (R q 1) (R q 4) (gat R q n').2.1 (gat R q n').2.2 := fun hno => ⟨n + 1, nI_1 _, by omega, by rw [gat_s, gstep_n hno]; exact hgn⟩
    obtain ⟨_, _, _, ⟨a1, a2, a3, b0, b1, b2, b3, b4, b5, b6, b7, b8, b9⟩, ⟨w0, w1, w2, w3, w4, w5, w6, w7, w8, _⟩, _⟩ := hu.e hlt
    refine ⟨u1, a0 + 1, u2, u7, q_get hu hlt ⟨_, rfl, a1, u1, sp_fitsBeside hu hgn hq hlt (by omega) (by omega) (fun hf => ⟨fun z => absurd z (by decide), fun _ => ⟨u1, sp_isBarred hu hgn hM40 hq hlt hf.2.2.1 (fun hh => ⟨fun _ => ⟨⟨rfl, c, stay (fun e => e.2 hh)⟩, dec⟩, fun z => absurd z (by decide)⟩) (fun hh => ⟨fun z => absurd rfl z, fun _ => ⟨u1, u1, ?_⟩⟩)⟩⟩) (fun hf => ⟨fun _ => ⟨⟨rfl, c, stay (fun e => hf e.1)⟩, dec⟩, fun z => absurd rfl z⟩)⟩⟩
    have hne : qs.getD (q + 1 + n) 0 ≠ a0 := fun e => by rw [e, u1] at a1; cases a1
    rw [hgn.1, l_shl (show q + 1 + n < 40 by omega), l_or hMl (by omega)]
    rintro G2 rfl
    have p5 : gI (sJ g 225 a0 (lN ((gat R q n).1 + 2 ^ (q + 1 + n)))) 229 a0 = nI (gat R q n).2.1 := hgn.2.2.2.2.1
    have p2 : gI (sJ g 225 a0 (lN ((gat R q n).1 + 2 ^ (q + 1 + n)))) 290 (qs.getD (q + 1 + n) 0) = nI (R (q + 1 + n) 2) := b2
    rw [p5, p2]
    refine ⟨u1, a1, sp_min (by omega) (by omega) ⟨u1, ?_⟩⟩
    rintro G3 rfl
    have p6 : gI (sI (sJ g 225 a0 (lN ((gat R q n).1 + 2 ^ (q + 1 + n)))) 229 a0 (nI (min (gat R q n).2.1 (R (q + 1 + n) 2)))) 230 a0 = nI (gat R q n).2.2 := by
      rw [gI_sI, if_neg (fun z => absurd z.1 (by decide))]; exact hgn.2.2.2.2.2
    have p4 : gI (sI (sJ g 225 a0 (lN ((gat R q n).1 + 2 ^ (q + 1 + n)))) 229 a0 (nI (min (gat R q n).2.1 (R (q + 1 + n) 2)))) 292 (qs.getD (q + 1 + n) 0) = nI (R (q + 1 + n) 2 + R (q + 1 + n) 3) := by
      rw [gI_sI, if_neg (fun z => absurd z.1 (by decide))]; exact b4
    rw [p6, p4]
    refine ⟨u1, a1, sp_max (by omega) (by omega) ⟨u1, ?_⟩⟩
    rintro G4 rfl
    refine ⟨⟨rfl, cg_i (cg_i (cg_j c)), n + 1, nI_1 _, by omega, ?_⟩, dec⟩
    rw [gat_s, gstep_y hf hh]
    refine ⟨?_, ?_, ?_, ?_, ?_, ?_⟩
    · show gJ (sJ g 225 a0 _) 225 a0 = _
      rw [gJ_sJ, if_pos ⟨rfl, rfl⟩]
    · rw [gI_sI, if_neg (fun z => absurd z.1 (by decide)), gI_sI, if_neg (fun z => absurd z.1 (by decide))]; exact hgn.2.1
    · rw [gI_sI, if_neg (fun z => absurd z.1 (by decide)), gI_sI, if_neg (fun z => absurd z.1 (by decide))]; exact hgn.2.2.1
    · rw [gI_sI, if_neg (fun z => absurd z.1 (by decide)), gI_sI, if_neg (fun z => absurd z.1 (by decide))]; exact hgn.2.2.2.1
    · rw [gI_sI, if_neg (fun z => absurd z.1 (by decide)), gI_sI, if_pos ⟨rfl, rfl⟩]
    · rw [gI_sI, if_pos ⟨rfl, rfl⟩]
theorem sp_valueToWrite {dv iw r : Nat} {Pr : Int32 → Gt → Prop} {Px : String → Gt → Prop} (h : QU X sd s G u z qs R W V fu) (hg : QG G u M q dv iw lo hi) (hM : M < 2 ^ 40) (hq : q ≤ qs.length) (hr : r < 2 ^ 30) (hmw : ∀ i, mb M i = true → i < qs.length → R i 4 = 1) (hp : Pr (nI (wvk R M q r (qs.length - q))) G) : wX6_valueToWrite X G u (nI r) Pr Px := by
  obtain ⟨t1, t2, t3, t4, t5, _, t7, t8⟩ := h.t
  refine ⟨t1, u + 1, t2, t7, q_size h ?_⟩
  refine ⟨fun g a0 x1 x2 => g = G ∧ a0 = u ∧ x1 = nI r ∧ ∃ n, x2 = nI (q + n) - 1 ∧ q + n ≤ qs.length ∧ wvk R M q r (qs.length - q) = wvk R M q r n, fun _ _ _ x2 => (x2 + 1).toNatClampNeg, ⟨rfl, rfl, rfl, qs.length - q, by rw [show q + (qs.length - q) = qs.length by omega], by omega, rfl⟩, ?_⟩
  rintro g a0 x1 x2 ⟨rfl, rfl, rfl, n, rfl, hn, he⟩
  unfold wX6_valueToWrite_10
  rw [hg.2.1]
  cases n with
  | zero =>
    refine ⟨t1, fun _ => ?_, fun zz => absurd ?_ zz⟩
    · rw [he] at hp; exact hp
    · show nI (q + 0) - 1 < nI q
      rw [Nat.add_zero]
      cases hqq : q with
      | zero => decide
      | succ p => rw [nI_pred]; exact nI_lt (by omega) (by omega)
  | succ m =>
    rw [show nI (q + (m + 1)) - 1 = nI (q + m) from nI_pred (q + m)]
    have hlt : q + m < qs.length := by omega
    obtain ⟨_, _, _, ⟨a1, a2, a3, b0, b1, b2, b3, b4, b5, b6, b7, b8, b9⟩, ⟨w0, w1, w2, w3, w4, w5, w6, w7, w8, _⟩, _⟩ := h.e hlt
    have nx : ¬ (mb M (q + m) = true ∧ R (q + m) 2 = r) → (g = g ∧ a0 = a0 ∧ nI r = nI r ∧ ∃ n, nI (q + m) + -1 = nI (q + n) - 1 ∧ q + n ≤ qs.length ∧ wvk R M q r (qs.length - q) = wvk R M q r n) ∧ (nI (q + m) + -1 + 1).toNatClampNeg < (nI (q + m) + 1).toNatClampNeg := fun hno => by
      refine ⟨⟨rfl, rfl, rfl, m, (Int32.sub_eq_add_neg _ _).symm, by omega, by rw [he, wvk_n hno]⟩, ?_⟩
      rw [show nI (q + m) + -1 + 1 = nI (q + m) by rw [Int32.add_assoc]; exact Int32.add_zero _, nI_1, n_cl (by omega), n_cl (by omega)]; omega
    refine ⟨t1, fun zz => absurd ((n_lt (by omega) (by omega)).mp zz) (by omega), fun _ => ⟨t1, a0 + 1, t2, t7, q_get h hlt ⟨_, rfl, a1, t1, sp_isMember t1 hg.1 hM (by omega) (fun hm => ⟨fun zz => absurd zz (by decide), fun _ => ⟨a1, fun z2 => nx (fun e => z2 (by rw [b2, e.2])), fun z2 => ⟨a1, _, a2, by rw [a3], ?_, ?_⟩⟩⟩) (fun hm => ⟨fun _ => nx (fun e => by rw [hm] at e; cases e.1), fun zz => absurd rfl zz⟩)⟩⟩⟩
    · rw [a3]; exact n_in (i := 0) (by show 0 < R (q + m) 3; omega) (by show R (q + m) 3 < _; omega)
    · rw [b2] at z2
      have e2 : R (q + m) 2 = r := n_inj (by omega) (by omega) z2
      rw [he, wvk_y hm e2] at hp
      show Pr (gA g (qs.getD (q + m) 0 + 1) 0) g
      rw [b9 (hmw _ hm hlt)]
      exact hp
end GATHER
