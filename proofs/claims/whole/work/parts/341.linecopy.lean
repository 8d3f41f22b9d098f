/-! ===== Line: copyFrom ===== -/
section LINE6
variable {X : Xt} {sd : Nat → Nat} {s : Nat} {G : Gt} {n N z : Nat} {rs sp hd pool : List Nat} {L : List Rp}
theorem ln_hand {y : Nat} (h : LN X sd s G n N z rs sp (y :: hd) pool L) : PL sd s G y := by
  obtain ⟨br, cr, bs, cs, _, _, _, _, _, _, hp, _, hpl, _⟩ := h
  exact hpl y (hp.mem_iff.mp (by simp))
theorem ln_at {k : Nat} (h : LN X sd s G n N z rs sp hd pool L) (hk : k < rs.length) : PL sd s G (rs.getD k 0) ∧ RP G (rs.getD k 0) (L.getD k dr).1 (L.getD k dr).2.1 (L.getD k dr).2.2 := by
  obtain ⟨br, cr, bs, cs, _, _, _, _, _, _, hp, _, hpl, _, _, _, _, _, hRP⟩ := h
  exact ⟨hpl _ (hp.mem_iff.mp (List.mem_append_left _ (gdm hk))), hRP k hk⟩
theorem ln_t (h : LN X sd s G n N z rs sp hd pool L) : gT G n = (1, 5) ∧ gR G 160 n = some (n + 1) ∧ gR G 161 n = some (n + 2) ∧ n < gH G ∧ (∃ b c, AL X G (n + 1) b c rs) ∧ sd n = s := by
  obtain ⟨br, cr, bs, cs, ⟨t1, t2, t3, t4, t5, _⟩, h1, h2, _⟩ := h
  exact ⟨t1, t2, t3, t4, ⟨br, cr, h1⟩, t5⟩
theorem apart {sd : Nat → Nat} {s s2 y y2 : Nat} (h : s ≠ s2) (a : sd y = s ∧ sd (y + 1) = s ∧ sd (y + 2) = s) (b : sd y2 = s2 ∧ sd (y2 + 1) = s2 ∧ sd (y2 + 2) = s2) : y + 2 < y2 ∨ y2 + 2 < y := by
  have e1 : y2 ≠ y := fun e => h (by rw [← a.1, ← b.1, e])
  have e2 : y2 ≠ y + 1 := fun e => h (by rw [← a.2.1, ← b.1, e])
  have e3 : y2 ≠ y + 2 := fun e => h (by rw [← a.2.2, ← b.1, e])
  have e4 : y ≠ y2 + 1 := fun e => h (by rw [← a.1, ← b.2.1, e])
  have e5 : y ≠ y2 + 2 := fun e => h (by rw [← a.1, ← b.2.2, e])
  omega
theorem rm_r (h : LN X sd s G n N z rs sp hd pool L) (hr : rm X G z N) : gH G + 3 ≤ xC X ∧ gU G + 42 ≤ xS X := by
  have := ln_z h
  obtain ⟨a, b, _⟩ := hr
  exact ⟨by omega, by omega⟩
theorem sp_Lcopy {n2 N2 z2 s2 : Nat} {rs2 sp2 pool2 : List Nat} {L2 : List Rp} {Pr : Gt → Prop} {Px : String → Gt → Prop} (h : LN X sd s G n N z rs sp [] pool L) (h2 : LN X sd s2 G n2 N2 z2 rs2 sp2 [] pool2 L2) (hss : s ≠ s2) (hN : N ≤ 2000) (hl2 : L2.length < N) (hs : ∀ a, gH G ≤ a → sd a = s) (hr : rm X G z N)
    (k : ∀ G' z' rs' sp' pool', LN X sd s G' n N z' rs' sp' [] pool' L2 → ch G G' (fun a => sd a = s) → cost G G' z z' → rm X G' z' N → Pr G') : wX4_copyFrom X G n n2 Pr Px := by
  obtain ⟨t1, t2, t3, t4, ⟨b, c, hrl⟩, t5⟩ := ln_t h
  refine ⟨t1, n + 1, t2, hrl.1, sp_size hrl ?_⟩
  refine ⟨fun g a0 a1 x2 => a0 = n ∧ a1 = n2 ∧ ∃ zc rc sc Lc, x2 = nI rc.length - 1 ∧ LN X sd s g n N zc rc sc [] pool Lc ∧ ch G g (fun a => sd a = s) ∧ cost G g z zc ∧ rm X g zc N, fun _ _ _ x2 => (x2 + 1).toNatClampNeg, ⟨rfl, rfl, z, rs, sp, L, rfl, h, ch.rf, cost_rf, hr⟩, ?_⟩
  rintro g a0 a1 x2 ⟨rfl, rfl, zc, rc, sc, Lc, rfl, hc, hch, hco, hrm⟩
  have hlc := ln_l hc
  obtain ⟨u1, u2, u3, u4, ⟨b', c', hrl'⟩, u5⟩ := ln_t hc
  have hs' : ∀ a, gH g ≤ a → sd a = s := fun a ha => hs a (Nat.le_trans hch.1 ha)
  have to : ∀ {G1 G2 : Gt}, ch G G1 (fun a => sd a = s) → ch G1 G2 (lcs sd s G1) → ch G G2 (fun a => sd a = s) := fun q1 q2 => q1.tr (q2.mono (fun a _ hh => hh.1))
  cases hrc : rc.length with
  | zero =>
    have hrc0 : rc = [] := List.length_eq_zero_iff.mp hrc
    have hLc0 : Lc = [] := List.length_eq_zero_iff.mp (by omega)
    subst hrc0 hLc0
    refine ⟨fun _ => ?_, fun z => absurd (by decide) z⟩
    have hl22 := ln_l h2
    refine ⟨fun g a0' a1' x2 => a0' = a0 ∧ a1' = a1 ∧ ∃ k zc rc sc pc, k ≤ L2.length ∧ x2 = nI k ∧ LN X sd s g a0 N zc rc sc [] pc (L2.take k) ∧ ch G g (fun a => sd a = s) ∧ cost G g z zc ∧ rm X g zc N, fun _ _ _ x2 => L2.length - x2.toNatClampNeg, ⟨rfl, rfl, 0, zc, _, sc, pool, by omega, rfl, hc, hch, hco, hrm⟩, ?_⟩
    rintro g a0' a1' x2 ⟨rfl, rfl, i, zc, rc, sc, pc, hi, rfl, hc, hch, hco, hrm⟩
    have hs' : ∀ a, gH g ≤ a → sd a = s := fun a ha => hs a (Nat.le_trans hch.1 ha)
    have hsrc := h2.keep hch (fun a ha hb => hss (by rw [← ha, ← hb]))
    obtain ⟨v1, v2, v3, v4, ⟨b2, c2, hrl2⟩, v5⟩ := ln_t hsrc
    refine ⟨v1, a1' + 1, v2, hrl2.1, sp_size hrl2 ⟨fun q => ?_, fun q => ?_⟩⟩
    · have q' : rs2.length ≤ i := (n_le (by omega) (by omega)).mp q
      rw [List.take_of_length_le (by omega)] at hc
      exact k g zc rc sc pc hc hch hco hrm
    · have q' : i < rs2.length := Nat.lt_of_not_le (fun e => q ((n_le (by omega) (by omega)).mpr e))
      have hlc := ln_l hc
      have htl : (L2.take i).length = i := by rw [List.length_take]; omega
      obtain ⟨r1, r2⟩ := rm_r hc hrm
      refine ⟨(ln_t hc).1, sp_freeReply hc (by simp; omega) hs' r1 r2 (fun G1 y sp1 pool1 z1 p1 p2 p3 => ?_)⟩
      have c1 : ch G G1 (fun a => sd a = s) := hch.tr (p2.mono (fun a _ hh => hh.1))
      have hsrc1 := h2.keep c1 (fun a ha hb => hss (by rw [← ha, ← hb]))
      obtain ⟨w1, w2, w3, w4, ⟨b3, c3, hrl3⟩, w5⟩ := ln_t hsrc1
      obtain ⟨ps, rps⟩ := ln_at hsrc1 q'
      have py := ln_hand p1
      refine ⟨y, rfl, w1, a1' + 1, w2, hrl3.1, sp_get hrl3 q' ⟨_, rfl, ps.k.1, py.k.1, sp_Rcopy py.2.2.2.2 rps (apart hss ⟨py.2.1, py.2.2.1, py.2.2.2.1⟩ ⟨ps.2.1, ps.2.2.1, ps.2.2.2.1⟩) (fun G2 rp2 cg2 => ?_)⟩⟩
      have c12 : ch G1 G2 (fun a => a = y ∨ a = y + 1 ∨ a = y + 2 ∨ sd a ≠ s) := cg2.ch.mono (fun a _ hh => by
        rcases hh with e | e | e
        · exact Or.inl e
        · exact Or.inr (Or.inl e)
        · exact Or.inr (Or.inr (Or.inl e)))
      have p2' := lp_hand p1 c12 rp2.rt
      have c2 : ch G G2 (fun a => sd a = s) := c1.tr (cg2.ch.mono (fun a _ hh => by
        rcases hh with e | e | e <;> rw [e]
        · exact py.2.1
        · exact py.2.2.1
        · exact py.2.2.2.1))
      obtain ⟨x1, x2, x3, x4, ⟨b4, c4, hrl4⟩, x5⟩ := ln_t p2'
      have hco2 : cost G G2 z z1 := cost_tr (cost_tr hco p3) ⟨Nat.le_refl _, by rw [cg2.1]; exact Nat.le_refl _, by rw [cg2.2.1]; exact Nat.le_refl _⟩
      have hrm2 : rm X G2 z1 N := hr.st hco2 c2.1
      refine ⟨x1, a0' + 1, x2, hrl4.1, sp_send (r := L2.getD i dr) p2' rp2 hN (fun a ha => hs a (Nat.le_trans c2.1 ha)) hrm2 (fun G3 z3 d1 d2 d3 d4 => ⟨⟨rfl, rfl, i + 1, z3, _, _, _, by omega, nI_1 i, by rw [take_c (by omega)]; exact d1, to c2 d2, cost_tr hco2 d3, d4⟩, ?_⟩)⟩
      dsimp only
      rw [nI_1, n_cl (by omega), n_cl (by omega)]; omega
  | succ j =>
    have ej : nI (j + 1) - 1 = nI j := nI_pred j
    rw [ej]
    refine ⟨fun z => absurd z (n_neg (by omega)), fun _ => ⟨u1, a0 + 1, u2, hrl'.1, lp_rem hc (by omega) (fun G2 a1' a2' a3' a4' a5' => ?_)⟩⟩
    have hch2 : ch G G2 (fun a => sd a = s) := hch.tr (a3'.mono (fun a _ hh => hh.1))
    have hco2 : cost G G2 z zc := cost_tr hco ⟨Nat.le_refl _, by omega, by omega⟩
    have hrm2 : rm X G2 zc N := ⟨by rw [a4']; exact hrm.1, by rw [a5']; exact hrm.2.1, by rw [a4']; exact hrm.2.2⟩
    have hle : (rc.eraseIdx j).length = j := by rw [List.length_eraseIdx_of_lt (by omega)]; omega
    refine ⟨_, rfl, a2'.1, (ln_t a1').1, sp_rec a1' hN (fun a ha => hs' a (by omega)) hrm2 (fun G3 z3 b1 b2 b3 b4 => ⟨⟨rfl, rfl, z3, _, _, _, ?_, b1, to hch2 b2, cost_tr hco2 b3, b4⟩, ?_⟩)⟩
    · rw [hle]; exact (Int32.sub_eq_add_neg _ _).symm
    · dsimp only
      rw [show nI j + -1 + 1 = nI j by rw [Int32.add_assoc]; exact Int32.add_zero _, nI_1, n_cl (by omega), n_cl (by omega)]; omega
end LINE6
