/-! ===== Queue: copyFrom; colours of new cells ===== -/
theorem RQ.y {G : Gt} {q : Nat} {R R' : Nat → Nat} {wh : Int32} (h : RQ G q R wh) (e : R' 0 = R 0 ∧ R' 1 = R 1 ∧ R' 2 = R 2 ∧ R' 3 = R 3 ∧ R' 4 = R 4 ∧ R' 5 = R 5 ∧ R' 6 = R 6) (e9 : R 4 = 1 → gA G (q + 1) 0 = nI (R' 9)) : RQ G q R' wh := by
  obtain ⟨e0, e1, e2, e3, e4, e5, e6⟩ := e
  obtain ⟨a1, a2, a3, b0, b1, b2, b3, b4, b5, b6, b7, b8, b9⟩ := h
  unfold RQ
  rw [e0, e1, e2, e3, e4, e5, e6]
  exact ⟨a1, a2, a3, b0, b1, b2, b3, b4, b5, b6, b7, b8, e9⟩
section RC
variable {X : Xt} {sd sd' : Nat → Nat} {s : Nat} {G : Gt}
theorem LN.rc {n N z : Nat} {rs sp hd pool : List Nat} {L : List Rp} (h : LN X sd s G n N z rs sp hd pool L) (e : ∀ a, a < gH G → sd' a = sd a) : LN X sd' s G n N z rs sp hd pool L := by
  obtain ⟨br, cr, bs, cs, ⟨t1, t2, t3, t4, t5, t6, t7⟩, hr, hsp, hne, cbr, cbs, hp, hnd, hpl, hpn, hcr, hcs, hz, hL, hRP⟩ := h
  refine ⟨br, cr, bs, cs, ⟨t1, t2, t3, t4, by rw [e _ t4]; exact t5, by rw [e _ hr.2.1]; exact t6, by rw [e _ hsp.2.1]; exact t7⟩, hr, hsp, hne, fun q => by rw [e _ hr.2.2.1]; exact cbr q, fun q => by rw [e _ hsp.2.2.1]; exact cbs q, hp, hnd, fun y hy => ?_, hpn, hcr, hcs, hz, hL, hRP⟩
  obtain ⟨a1, a2, a3, a4, a5⟩ := hpl y hy
  exact ⟨a1, by rw [e _ (by omega)]; exact a2, by rw [e _ (by omega)]; exact a3, by rw [e _ a1]; exact a4, a5⟩
theorem QU.rc {u z : Nat} {qs : List Nat} {R : Nat → Nat → Nat} {W : Nat → Int32} {V : Nat → Nat → Nat} {fu : Bool} (h : QU X sd s G u z qs R W V fu) (e : ∀ a, a < gH G → sd' a = sd a) : QU X sd' s G u z qs R W V fu := by
  obtain ⟨b, c, ⟨t1, t2, t3, t4, t5⟩, h2, h3, h4, h5, h6, h7, h8⟩ := h
  refine ⟨b, c, ⟨t1, t2, t3, by rw [e _ t3]; exact t4, by rw [e _ h2.2.1]; exact t5⟩, h2, fun q => by rw [e _ h2.2.2.1]; exact h3 q, h4, h5, h6, h7, fun k hk => ?_⟩
  obtain ⟨a1, a2, a3, a4, a5, a6⟩ := h8 k hk
  exact ⟨a1, by rw [e _ (by omega)]; exact a2, by rw [e _ a1]; exact a3, a4, a5, a6⟩
theorem CP.rc {c N zl zq : Nat} {qs rs sp hd pool : List Nat} {S : St} {fu : Bool} (h : CP X sd s G c N zl zq qs rs sp hd pool S fu) (e : ∀ a, a < gH G → sd' a = sd a) : CP X sd' s G c N zl zq qs rs sp hd pool S fu := by
  obtain ⟨h1, h2, h3, h4, h5, h6, h7, h8⟩ := h
  exact ⟨h1, fun a q1 q2 => by rw [e a (by have := h1.1; omega)]; exact h2 a q1 q2, h3, h4, h5, h6.rc e, h7, h8.rc e⟩
end RC
theorem QU.v0 {X : Xt} {sd : Nat → Nat} {s : Nat} {G : Gt} {u z : Nat} {qs : List Nat} {R : Nat → Nat → Nat} {W : Nat → Int32} {V V' : Nat → Nat → Nat} (h : QU X sd s G u z qs R W V false) : QU X sd s G u z qs R W V' false := by
  obtain ⟨b, c, h1, h2, h3, h4, h5, h6, h7, h8⟩ := h
  refine ⟨b, c, h1, h2, h3, h4, h5, h6, h7, fun k hk => ?_⟩
  obtain ⟨a1, a2, a3, a4, a5, _⟩ := h8 k hk
  exact ⟨a1, a2, a3, a4, a5, fun f => by cases f⟩
section QADD
variable {X : Xt} {sd : Nat → Nat} {s : Nat} {G : Gt} {u z : Nat} {qs : List Nat} {R : Nat → Nat → Nat} {W : Nat → Int32} {V : Nat → Nat → Nat} {fu : Bool}
theorem q_add {y : Nat} {Pr : Int32 → Gt → Prop} (h : QU X sd s G u z qs R W V fu) (hl : qs.length < 40) (hy : QE sd s G y (R qs.length) (W qs.length) (V qs.length) fu) (hny : y ∉ qs) (hx : xde X < gH G) (hs : ∀ a, gH G ≤ a → sd a = s) (r1 : gH G + 1 ≤ xC X) (r2 : gU G + 90 ≤ xS X)
    (k : ∀ G' z', QU X sd s G' u z' (qs ++ [y]) R W V fu → ch G G' (fun a => sd a = s) → z' ≤ 170 → gH G' + z + 2 ≤ gH G + z' → gU G' + 14 * z + 28 ≤ gU G + 14 * z' → z ≤ z' → Pr 1 G') : wJx4a65c_add_9ea2d X G (u + 1) y Pr := by
  obtain ⟨b, c, ⟨t1, t2, t3, t4, t5⟩, h2, h3, h4, h5, h6, h7, h8⟩ := h
  have hyo : y < gH G ∧ (gT G y).1 = 1 ∧ (gT G y).2 < 12 := by
    have q := hy.1
    rw [hy.2.2.2.1.1]
    exact ⟨by omega, rfl, (by show (9 : Nat) < 12; decide)⟩
  refine sp_add (N := 40) h2 hyo hl (by decide) h6 hx r1 r2 (fun G' b' c' a1 a2 a3 a4 a5 a6 a7 => ?_)
  have en := a5.2.1 u t3
  have er := a5.2.2.2.1 224 u t3 (by decide) (by decide)
  have notp : ∀ {x : Nat}, (gT G x = (1, 9) ∨ (gT G x).1 = 2) → ¬ (x = u + 1 ∨ (x = b ∧ b ≠ xde X)) := by
    intro x hx hh
    have := h2.pk x hh
    rcases hx with e | e
    · rw [e] at this; simp at this
    · rcases this with e2 | e2
      · rw [e2] at e; simp at e
      · omega
  refine k G' (c' + 2 * (qs ++ [y]).length) ⟨b', c', ⟨en.trans t1, er.trans t2, Nat.lt_of_lt_of_le t3 a5.1, t4, t5⟩, a1, ?_, ?_, by simp; omega, by omega, rfl, fun j hj => ?_⟩ (a5.mono (fun a _ hh => ?_)) (by simp; omega) (by simp; omega) (by simp; omega) (by simp; omega)
  · intro hb
    rcases a4 with e2 | e2
    · rw [e2] at hb ⊢; exact h3 hb
    · exact hs _ e2
  · rw [List.nodup_append]
    refine ⟨h4, by simp, fun a ha b hb => ?_⟩
    rw [List.mem_singleton.mp hb]
    intro e2; rw [e2] at ha; exact hny ha
  · have hj' : j < qs.length + 1 := by simpa using hj
    by_cases e2 : j = qs.length
    · subst e2
      rw [gd_eq]
      exact hy.keep a5 (notp (Or.inl hy.2.2.2.1.1)) (notp (Or.inr (by rw [hy.2.2.2.1.2.2.1])))
    · rw [gd_lt (by omega)]
      have q := h8 j (by omega)
      exact q.keep a5 (notp (Or.inl q.2.2.2.1.1)) (notp (Or.inr (by rw [q.2.2.2.1.2.2.1])))
  · rcases hh with e2 | ⟨e2, e3⟩
    · rw [e2]; exact t5
    · rw [e2]; exact h3 e3
end QADD
section COPYQ
variable {X : Xt} {sd : Nat → Nat} {s : Nat} {G : Gt} {u z : Nat} {qs : List Nat} {R : Nat → Nat → Nat} {W : Nat → Int32} {V : Nat → Nat → Nat}
theorem lp_q71 {i y v : Nat} {Q : Nat → Nat} {wq : Int32} {Pr : Gt → Prop} {Px : String → Gt → Prop} {k2 : Gt → Nat → Nat → Int32 → Prop} (h : QU X sd s G u z qs R W V false) (hi : i < qs.length) (hq : RQ G y Q wq) (hwq : wfR Q) (e04 : R i 0 = Q 0 ∧ R i 1 = Q 1 ∧ R i 2 = Q 2 ∧ R i 3 = Q 3 ∧ R i 4 = Q 4) (hy : sd y ≠ s ∧ sd (y + 1) ≠ s)
    (k : ∀ G', QU X sd s G' u z qs (va_up R i Q) (va_up W i wq) V false → cg G G' (fun a => sd a = s) → k2 G' u v (nI i + 1)) : wX6_copyFrom_71 X Pr Px k2 G u v (nI i) y := by
  obtain ⟨t1, t2, t3, t4, t5, _, t7, t8⟩ := h.t
  obtain ⟨q1, q2, q3, hr, hw, _⟩ := h.e hi
  obtain ⟨a1, a2, a3, b0, b1, b2, b3, b4, b5, b6, b7, b8, b9⟩ := id hq
  obtain ⟨w0, w1, w2, w3, w4, w5, w6, w7, w8, w9, w10⟩ := id hwq
  have n1 : y ≠ qs.getD i 0 := fun e => hy.1 (by rw [e]; exact q2)
  have n2 : y ≠ qs.getD i 0 + 1 := fun e => hy.1 (by rw [e]; exact q3)
  have n3 : y + 1 ≠ qs.getD i 0 := fun e => hy.2 (by rw [e]; exact q2)
  have n4 : y + 1 ≠ qs.getD i 0 + 1 := fun e => hy.2 (by rw [e]; exact q3)
  have toV : ∀ {G' : Gt}, QU X sd s G' u z qs (va_up R i Q) (va_up W i wq) (va_up V i (V i)) false → QU X sd s G' u z qs (va_up R i Q) (va_up W i wq) V false := fun p => p.ext (fun _ _ => rfl) (fun _ _ => rfl) (fun j _ => by
    by_cases e : j = i
    · subst e; rw [va_up_self]
    · rw [va_up_ne _ _ e])
  refine ⟨t1, u + 1, t2, t7, q_get h hi ⟨_, rfl, hr.1, a1, a1, a1, hr.1, ?_⟩⟩
  rw [b6, b7, b8]
  refine sp_settle hr (fun G1 hr1 c1 _ => ?_)
  have e1 := c1.2.2.2.2.2 y n1
  have e2 := c1.2.2.2.2.2 (y + 1) n3
  have e3 := c1.2.2.2.2.2 (qs.getD i 0 + 1) (by omega)
  rw [e1.2.1, b5]
  have cS : ∀ {g' : Gt}, cg G g' (fun a => a = qs.getD i 0 ∨ a = qs.getD i 0 + 1) → cg G g' (fun a => sd a = s) := fun p => p.mono (fun a ha => by
    rcases ha with e | e <;> rw [e]
    · exact q2
    · exact q3)
  refine ⟨e1.1.trans a1, fun zz => ?_, fun zz => ⟨hr1.1, _, hr1.2.1, e1.1.trans a1, y + 1, (e1.2.2.2.1 _).trans a2, by rw [e2.1, a3], ?_, ?_, ?_, ?_⟩⟩
  · have e4 : Q 4 = 0 := n_inj (b := 0) (by omega) (by decide) zz
    have cc : cg G G1 (fun a => a = qs.getD i 0 ∨ a = qs.getD i 0 + 1) := c1.mono (fun a ha => Or.inl ha)
    refine k G1 (toV (h.upd hi cc (hr1.y ⟨e04.1.symm, e04.2.1.symm, e04.2.2.1.symm, e04.2.2.2.1.symm, e04.2.2.2.2.symm, rfl, rfl⟩ (fun e => ?_)) hwq (fun f => by cases f))) (cS cc)
    have e' : R i 4 = 1 := e
    omega
  · rw [e2.1, a3]; exact n_in (i := 0) (by show 0 < Q 3; omega) (by show Q 3 < _; omega)
  · show (gT G1 (qs.getD i 0 + 1)).1 = 2
    rw [e3.1, hr.2.2.1]
  · show vp_in 0 (gT G1 (qs.getD i 0 + 1)).2
    rw [e3.1, hr.2.2.1]; exact n_in (i := 0) (by show 0 < R i 3; omega) (by show R i 3 < _; omega)
  · have e4 : Q 4 = 1 := by
      rcases (show Q 4 = 0 ∨ Q 4 = 1 by omega) with e | e
      · exact absurd (by rw [e]; rfl) zz
      · exact e
    rintro G2 rfl
    have cc : cg G (sA G1 (qs.getD i 0 + 1) (upd (gA G1 (qs.getD i 0 + 1)) (0 : Int32).toNatClampNeg (gA G1 (y + 1) (0 : Int32).toNatClampNeg))) (fun a => a = qs.getD i 0 ∨ a = qs.getD i 0 + 1) := (c1.mono (fun a ha => Or.inl ha)).tr (cg.sA (Or.inr rfl))
    have hv : gA G1 (y + 1) (0 : Int32).toNatClampNeg = nI (Q 9) := by
      rw [e2.2.2.2.2.1]; exact b9 e4
    refine k _ (toV (h.upd hi cc ?_ hwq (fun f => by cases f))) (cS cc)
    obtain ⟨c1', c2', c3', d0, d1, d2, d3, d4, d5, d6, d7, d8, _⟩ := hr1
    obtain ⟨f0, f1, f2, f3, f4⟩ := e04
    refine ⟨c1', c2', ?_, ?_, ?_, ?_, ?_, ?_, ?_, d6, d7, d8, fun _ => ?_⟩
    · rw [← f3]; exact c3'
    · rw [← f0]; exact d0
    · rw [← f1]; exact d1
    · rw [← f2]; exact d2
    · rw [← f3]; exact d3
    · rw [← f2, ← f3]; exact d4
    · rw [← f4]; exact d5
    · rw [gA_sA, hv]
      show upd _ 0 _ 0 = _
      rw [pk_us]
/-- room for the queue's costs to come -/
def rmq (X : Xt) (G : Gt) (z : Nat) : Prop := gH G + 173 ≤ xC X + z ∧ gU G + 2510 ≤ xS X + 14 * z ∧ xde X < gH G
theorem qu_z {fu : Bool} (h : QU X sd s G u z qs R W V fu) : z ≤ 170 := by
  obtain ⟨b, c, _, _, _, _, h5, h6, h7, _⟩ := h
  omega
theorem rmq.st {G' : Gt} {z' : Nat} (h : rmq X G z) (c : cost G G' z z') (hh : gH G ≤ gH G') : rmq X G' z' := by
  obtain ⟨a1, a2, a3⟩ := h
  obtain ⟨b1, b2, b3⟩ := c
  exact ⟨by omega, by omega, by omega⟩
theorem sp_Qcopy {v s2 z2 : Nat} {qs2 : List Nat} {R2 : Nat → Nat → Nat} {W2 : Nat → Int32} {V2 : Nat → Nat → Nat} {fu : Bool} {Pr : Gt → Prop} {Px : String → Gt → Prop} (h : QU X sd s G u z qs R W V false) (h2 : QU X sd s2 G v z2 qs2 R2 W2 V2 fu) (hss : s ≠ s2) (hle : qs.length ≤ qs2.length) (est : ∀ k, k < qs.length → R k 0 = R2 k 0 ∧ R k 1 = R2 k 1 ∧ R k 2 = R2 k 2 ∧ R k 3 = R2 k 3 ∧ R k 4 = R2 k 4) (hs : ∀ a, gH G ≤ a → sd a = s) (hr : rmq X G z)
    (k : ∀ G' z' qs', QU X sd s G' u z' qs' R2 W2 V2 false → qs'.length = qs2.length → ch G G' (fun a => sd a = s) → cost G G' z z' → rmq X G' z' → Pr G') : wX6_copyFrom X G u v Pr Px := by
  have hl2 := h2.t.2.2.2.2.2.2.2
  refine ⟨fun g a0 a1 x2 => a0 = u ∧ a1 = v ∧ ∃ i zc qc, x2 = nI i ∧ i ≤ qs2.length ∧ qc.length = max qs.length i ∧ QU X sd s g u zc qc (fun k => if k < i then R2 k else R k) (fun k => if k < i then W2 k else W k) V false ∧ ch G g (fun a => sd a = s) ∧ cost G g z zc ∧ rmq X g zc, fun _ _ _ x2 => qs2.length - x2.toNatClampNeg, ⟨rfl, rfl, 0, z, qs, rfl, by omega, by omega, h.ext (fun k _ => by rw [if_neg (by omega)]) (fun k _ => by rw [if_neg (by omega)]) (fun _ _ => rfl), ch.rf, cost_rf, hr⟩, ?_⟩
  rintro g a0 a1 x2 ⟨rfl, rfl, i, zc, qc, rfl, hi, hqc, hu, hch, hco, hrm⟩
  have hsrc := h2.keep hch (fun a ha _ hb => hss (by rw [← ha, ← hb]))
  obtain ⟨v1, v2, v3, v4, v5, _, v7, v8⟩ := hsrc.t
  obtain ⟨t1, t2, t3, t4, t5, _, t7, t8⟩ := hu.t
  refine ⟨v1, a1 + 1, v2, v7, q_size hsrc ⟨fun q => ?_, fun q => ?_⟩⟩
  · have q' : qs2.length ≤ i := (n_le (by omega) (by omega)).mp q
    have e : i = qs2.length := by omega
    subst e
    have hu' : QU X sd s g a0 zc qc R2 W2 V false := hu.ext (fun k hk => by rw [if_pos (by omega)]) (fun k hk => by rw [if_pos (by omega)]) (fun k hk => rfl)
    exact k g zc qc hu'.v0 (by omega) hch hco hrm
  · have q' : i < qs2.length := Nat.lt_of_not_le (fun e => q ((n_le (by omega) (by omega)).mpr e))
    obtain ⟨y1, y2, y3, yr, yw, _⟩ := hsrc.e q'
    have hyn : sd (qs2.getD i 0) ≠ s ∧ sd (qs2.getD i 0 + 1) ≠ s := ⟨by rw [y2]; exact fun e => hss e.symm, by rw [y3]; exact fun e => hss e.symm⟩
    refine ⟨v1, a1 + 1, v2, v7, q_get hsrc q' ⟨_, rfl, yr.1, t1, a0 + 1, t2, t7, q_size hu ⟨fun zz => ?_, fun zz => ?_⟩⟩⟩
    · -- it is there already
      have hiq : i < qc.length := (n_lt (by omega) (by omega)).mp zz
      refine lp_q71 hu hiq yr yw ?_ hyn (fun G1 hu1 c1 => ⟨⟨rfl, rfl, i + 1, zc, qc, nI_1 i, by omega, by omega, hu1.ext (fun k _ => ?_) (fun k _ => ?_) (fun _ _ => rfl), hch.tr c1.ch, cost_tr hco ⟨Nat.le_refl _, by rw [c1.1]; exact Nat.le_refl _, by rw [c1.2.1]; exact Nat.le_refl _⟩, hrm.st ⟨Nat.le_refl _, by rw [c1.1]; exact Nat.le_refl _, by rw [c1.2.1]; exact Nat.le_refl _⟩ c1.ch.1⟩, dec_up q' (by omega)⟩)
      · rw [if_neg (by omega)]
        exact est i (by omega)
      · by_cases e : k = i
        · subst e; rw [va_up_self, if_pos (by omega)]
        · rw [va_up_ne _ _ e]
          by_cases e2 : k < i
          · rw [if_pos e2, if_pos (by omega)]
          · rw [if_neg e2, if_neg (by omega)]
      · by_cases e : k = i
        · subst e; rw [va_up_self, if_pos (by omega)]
        · rw [va_up_ne _ _ e]
          by_cases e2 : k < i
          · rw [if_pos e2, if_pos (by omega)]
          · rw [if_neg e2, if_neg (by omega)]
    · -- a new one
      have hiq : qc.length = i := by
        have : ¬ i < qc.length := fun e => zz ((n_lt (by omega) (by omega)).mpr e)
        omega
      have hz := qu_z hu
      obtain ⟨m1, m2, m3⟩ := hrm
      obtain ⟨b0, b1, b2, b3, b4, b5, b6, b7, b8, b9, b10, b11, b12⟩ := id yr
      obtain ⟨w0, w1, w2, w3, w4, w5, w6, w7, w8, w9, w10⟩ := id yw
      refine ⟨t1, a0 + 1, t2, by omega, by omega, ?_⟩
      rintro G92 rfl
      have ey : eqAt g (nO g 9 11) (qs2.getD i 0) := eqAt.nO (by omega)
      have ty : gT (nO g 9 11) (qs2.getD i 0) = (1, 9) := ey.1.trans yr.1
      rw [ey.2.1, ey.2.1, ey.2.1, ey.2.1, ey.2.1, b3, b4, b5, b6, b8]
      refine ⟨ty, ty, ty, ty, ty, sp_newReq ⟨w4, w5⟩ w6 (by omega) (by omega) (fun G1 Rn en rq1 _ hh1 hu1' c1 => ?_)⟩
      have hsg : ∀ a, gH g ≤ a → sd a = s := fun a ha => hs a (Nat.le_trans hch.1 ha)
      have q1 := hu.keep c1 (fun _ _ _ z => z)
      have q1' : QU X sd s G1 a0 zc qc (va_up (fun k => if k < i then R2 k else R k) i Rn) (va_up (fun k => if k < i then W2 k else W k) i (-1)) V false := q1.ext (fun k hk => va_up_ne _ _ (by omega)) (fun k hk => va_up_ne _ _ (by omega)) (fun _ _ => rfl)
      obtain ⟨n0', n1', n2', n3', n4', n5', n6', n8', n9'⟩ := en
      have wfn : wfR Rn := ⟨by omega, by omega, by omega, by omega, by omega, by omega, by omega, fun e => by have := w7 (by omega); omega, by omega, by omega, by omega⟩
      have hgh : gH g ≤ gH G1 := c1.1
      have yn : QE sd s G1 (gH g) (va_up (fun k => if k < i then R2 k else R k) i Rn qc.length) (va_up (fun k => if k < i then W2 k else W k) i (-1) qc.length) (V qc.length) false := by
        rw [hiq, va_up_self, va_up_self]
        exact ⟨by omega, hsg _ (by omega), hsg _ (by omega), rq1, wfn, fun f => by cases f⟩
      have hny : gH g ∉ qc := fun hm => by
        obtain ⟨b, c, _, al, _⟩ := hu
        have := (al.2.2.2.2.2.2.2.1 _ hm).1
        omega
      refine ⟨q1.t.2.2.2.2.2.2.1, ?_⟩
      refine q_add q1' (by omega) yn hny (by omega) (fun a ha => hsg a (by omega)) (by omega) (by omega) (fun G2 z3 hu2 c2 hz3 hc1 hc2 hc3 => ?_)
      have cG2 : ch G G2 (fun a => sd a = s) := hch.tr ((c1.mono (fun _ _ z => z.elim)).tr c2)
      have cost2 : cost g G2 zc z3 := ⟨by omega, by omega, by omega⟩
      have hl3 : (qc ++ [gH g]).length = i + 1 := by rw [List.length_append]; simp; omega
      have hi3 : i < (qc ++ [gH g]).length := by omega
      have cg2' : ch g G2 (fun a => sd a = s) := (c1.mono (fun _ _ z => z.elim)).tr c2
      have yr2 : RQ G2 (qs2.getD i 0) (R2 i) (W2 i) := yr.keep (cg2'.2.2.1 _ (by omega) (fun z => hyn.1 z)) (cg2'.2.2.1 _ y1 (fun z => hyn.2 z))
      refine lp_q71 hu2 hi3 yr2 yw ?_ hyn (fun G3 hu3 c3 => ⟨⟨rfl, rfl, i + 1, z3, qc ++ [gH g], nI_1 i, by omega, by omega, hu3.ext (fun k hk => ?_) (fun k hk => ?_) (fun _ _ => rfl), cG2.tr c3.ch, cost_tr (cost_tr hco cost2) ⟨Nat.le_refl _, by rw [c3.1]; exact Nat.le_refl _, by rw [c3.2.1]; exact Nat.le_refl _⟩, (rmq.st (rmq.st ⟨m1, m2, m3⟩ cost2 cg2'.1) ⟨Nat.le_refl _, by rw [c3.1]; exact Nat.le_refl _, by rw [c3.2.1]; exact Nat.le_refl _⟩ c3.ch.1)⟩, dec_up q' (by omega)⟩)
      · rw [va_up_self]
        exact ⟨n0', n1', n2', n3', n4'⟩
      · by_cases e : k = i
        · subst e; rw [va_up_self, if_pos (by omega)]
        · rw [va_up_ne _ _ e, va_up_ne _ _ e, if_pos (by omega), if_pos (by omega)]
      · by_cases e : k = i
        · subst e; rw [va_up_self, if_pos (by omega)]
        · rw [va_up_ne _ _ e, va_up_ne _ _ e, if_pos (by omega), if_pos (by omega)]
end COPYQ
