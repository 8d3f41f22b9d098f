/-! ===== Core: what becomes of a group ===== -/
theorem plc_add {dv lo k : Nat} : plc dv (lo + k) = plc dv lo + k := by unfold plc; omega
theorem cfw_0 {f : Nat → Nat} {dv lo : Nat} {x : Nat → Nat} : cfw f dv lo 0 x = f := by
  funext p
  unfold cfw
  rw [if_neg (by omega)]
theorem cfw_y {f : Nat → Nat} {dv lo k : Nat} {x : Nat → Nat} (hd : 1 ≤ dv) (h : lo + k < 32) : cfw f dv lo (k + 1) x = up1 (cfw f dv lo k x) (plc dv (lo + k)) (x k) := by
  funext p
  have e1 : plc dv (lo + k) = plc dv lo + k := plc_add
  have e2 : plc dv (lo + k) = 32 * (dv - 1) + (lo + k) := rfl
  unfold cfw up1
  by_cases e : p = plc dv (lo + k)
  · rw [if_pos e, if_pos (by omega)]
    congr 1; omega
  · rw [if_neg e]
    dsimp only
    by_cases q : plc dv lo ≤ p ∧ p < plc dv lo + k ∧ p < 32 * dv
    · rw [if_pos q, if_pos (by omega)]
    · rw [if_neg q, if_neg (by omega)]
theorem cfw_n {f : Nat → Nat} {dv lo k : Nat} {x : Nat → Nat} (hd : 1 ≤ dv) (h : ¬ lo + k < 32) : cfw f dv lo (k + 1) x = cfw f dv lo k x := by
  funext p
  have e1 : plc dv (lo + k) = plc dv lo + k := plc_add
  have e2 : plc dv (lo + k) = 32 * (dv - 1) + (lo + k) := rfl
  unfold cfw
  by_cases q : plc dv lo ≤ p ∧ p < plc dv lo + k ∧ p < 32 * dv
  · rw [if_pos q, if_pos (by omega)]
  · rw [if_neg q, if_neg (by omega)]
theorem rqs_s {R : Nat → Nat → Nat} {M st cd n : Nat} (k : Nat) : rqs R M st cd (n + 1) k = if k = n ∧ mb M n = true then (fun j => if j = 5 then st else if j = 6 then cd else R n j) else rqs R M st cd n k := by
  funext j
  unfold rqs
  by_cases e : k = n
  · subst e
    by_cases h : mb M k = true
    · rw [if_pos (show mb M k = true ∧ k < k + 1 from ⟨h, by omega⟩), if_pos (show k = k ∧ mb M k = true from ⟨rfl, h⟩)]
    · rw [if_neg (show ¬ (mb M k = true ∧ k < k + 1) from fun z => h z.1), if_neg (show ¬ (k = k ∧ mb M k = true) from fun z => h z.2), if_neg (show ¬ (mb M k = true ∧ k < k) from fun z => h z.1)]
  · rw [if_neg (show ¬ (k = n ∧ mb M n = true) from fun z => e z.1)]
    by_cases h : mb M k = true ∧ k < n
    · rw [if_pos h, if_pos (show mb M k = true ∧ k < n + 1 from ⟨h.1, by omega⟩)]
    · rw [if_neg h, if_neg (show ¬ (mb M k = true ∧ k < n + 1) from fun z => h ⟨z.1, by omega⟩)]
theorem Ws_s {W : Nat → Int32} {M : Nat} {t : Int32} {n : Nat} (k : Nat) : Ws W M t (n + 1) k = if k = n ∧ mb M n = true then t else Ws W M t n k := by
  unfold Ws
  by_cases e : k = n
  · subst e
    by_cases h : mb M k = true
    · rw [if_pos (show mb M k = true ∧ k < k + 1 from ⟨h, by omega⟩), if_pos (show k = k ∧ mb M k = true from ⟨rfl, h⟩)]
    · rw [if_neg (show ¬ (mb M k = true ∧ k < k + 1) from fun z => h z.1), if_neg (show ¬ (k = k ∧ mb M k = true) from fun z => h z.2), if_neg (show ¬ (mb M k = true ∧ k < k) from fun z => h z.1)]
  · rw [if_neg (show ¬ (k = n ∧ mb M n = true) from fun z => e z.1)]
    by_cases h : mb M k = true ∧ k < n
    · rw [if_pos h, if_pos (show mb M k = true ∧ k < n + 1 from ⟨h.1, by omega⟩)]
    · rw [if_neg h, if_neg (show ¬ (mb M k = true ∧ k < n + 1) from fun z => h ⟨z.1, by omega⟩)]
theorem Vs_s {V R : Nat → Nat → Nat} {M n : Nat} {x : Nat → Nat → Nat} (k : Nat) : Vs V R M (n + 1) x k = if k = n ∧ mb M n = true then (fun j => if j < R n 3 then x n j else V n j) else Vs V R M n x k := by
  funext j
  unfold Vs
  by_cases e : k = n
  · subst e
    by_cases h : mb M k = true
    · rw [if_pos (show k = k ∧ mb M k = true from ⟨rfl, h⟩)]
      by_cases h3 : j < R k 3
      · rw [if_pos (show (mb M k = true ∧ k < k + 1) ∧ j < R k 3 from ⟨⟨h, by omega⟩, h3⟩), if_pos h3]
      · rw [if_neg (show ¬ ((mb M k = true ∧ k < k + 1) ∧ j < R k 3) from fun z => h3 z.2), if_neg h3]
    · rw [if_neg (show ¬ ((mb M k = true ∧ k < k + 1) ∧ j < R k 3) from fun z => h z.1.1), if_neg (show ¬ (k = k ∧ mb M k = true) from fun z => h z.2), if_neg (show ¬ ((mb M k = true ∧ k < k) ∧ j < R k 3) from fun z => h z.1.1)]
  · rw [if_neg (show ¬ (k = n ∧ mb M n = true) from fun z => e z.1)]
    by_cases h : (mb M k = true ∧ k < n) ∧ j < R k 3
    · rw [if_pos h, if_pos (show (mb M k = true ∧ k < n + 1) ∧ j < R k 3 from ⟨⟨h.1.1, by omega⟩, h.2⟩)]
    · rw [if_neg h, if_neg (show ¬ ((mb M k = true ∧ k < n + 1) ∧ j < R k 3) from fun z => h ⟨⟨z.1.1, by omega⟩, z.2⟩)]
section SETTLE
variable {X : Xt} {sd : Nat → Nat} {s : Nat} {G : Gt} {c u zq : Nat} {qs : List Nat} {fu : Bool} {R : Nat → Nat → Nat} {W : Nat → Int32} {V : Nat → Nat → Nat} {M q dv iw lo hi : Nat}
theorem q_settle {i st cd : Nat} {w' : Int32} {V' : Nat → Nat} {Pr : Gt → Prop} (h : QU X sd s G u zq qs R W V fu) (hi : i < qs.length) (hst : st ≤ 2) (hcd : cd < 256) (hV : fu = true → R i 4 = 0 → st = 1 → ∀ k, k < R i 3 → gA G (qs.getD i 0 + 1) k = nI (V' k))
    (k : ∀ G', QU X sd s G' u zq qs (va_up R i (fun j => if j = 5 then st else if j = 6 then cd else R i j)) (va_up W i w') (va_up V i V') fu → cg G G' (fun a => a = qs.getD i 0) → Pr G') : wX8_settle X G (qs.getD i 0) (nI st) (nI cd) w' Pr := by
  obtain ⟨e1, e2, e3, e4, ⟨w0, w1, w2, w3, w4, w5, w6, w7, w8, w9, w10⟩, e6⟩ := h.e hi
  refine sp_settle e4 (fun G' a1 a2 a3 => k G' (h.upd hi (a2.mono (fun a ha => Or.inl ha)) a1 ⟨w0, w1, w2, w3, w4, w5, w6, w7, hst, hcd, w10⟩ (fun f => ⟨?_, fun b1 b2 j hj => ?_⟩)) a2)
  · rw [a3 298 (by decide) (by decide) (by decide)]; exact (e6 f).1
  · have : gA G' (qs.getD i 0 + 1) = gA G (qs.getD i 0 + 1) := (a2.2.2.2.2.2 _ (by omega)).2.2.2.2.1
    rw [this]
    exact hV f b1 b2 j hj
/-- what settling a group may change -/
def pS (sd : Nat → Nat) (s c a : Nat) : Prop := (sd a = s + 1 ∧ a ≠ c + 19) ∨ a = c + 17 ∨ a = c + 18
theorem q_ne (h : QU X sd s G u zq qs R W V fu) {i : Nat} (hi : i < qs.length) : qs.getD i 0 ≠ u ∧ qs.getD i 0 + 1 ≠ u := by
  obtain ⟨t1, _⟩ := h.t
  obtain ⟨_, _, _, ⟨a1, _, a3, _⟩, _⟩ := h.e hi
  exact ⟨(fun e => by rw [e, t1] at a1; cases a1), (fun e => by rw [e, t1] at a3; cases a3)⟩
theorem q_pS (h : QU X sd (s + 1) G (c + 19) zq qs R W V fu) {i : Nat} (hi : i < qs.length) : ∀ a, (a = qs.getD i 0 ∨ a = qs.getD i 0 + 1) → pS sd s c a := by
  obtain ⟨n1, n2⟩ := q_ne h hi
  obtain ⟨_, e2, e3, _⟩ := h.e hi
  rintro a (e | e) <;> subst e
  · exact Or.inl ⟨e2, n1⟩
  · exact Or.inl ⟨e3, n2⟩
theorem QG.pS {G' : Gt} (h : QG G (c + 19) M q dv iw lo hi) (p : cg G G' (pS sd s c)) : QG G' (c + 19) M q dv iw lo hi := h.keep (p.2.2.2.2.2 _ (fun z => by
  rcases z with z | z | z
  · exact z.2 rfl
  · omega
  · omega))
theorem sp_failGroup {cd t tm : Nat} {x : Nat → Nat → Nat} {cf cv ct : Nat → Nat} {Pr : Gt → Prop} {Px : String → Gt → Prop} (hk : KT G c) (hs : KS sd s c) (hn : gI G 71 c = nI t) (hu : QU X sd (s + 1) G (c + 19) zq qs R W V fu) (hg : QG G (c + 19) M q dv iw lo hi) (hM : M < 2 ^ 40) (hq : q < qs.length) (hmq : ∀ i, mb M i = true → q ≤ i) (hcd : cd < 256) (hc : CC G (c + 16) cf cv ct tm) (hd : 1 ≤ dv ∧ dv ≤ 3) (hl : lo ≤ hi) (hh : hi ≤ 1016) (hiw : iw ≤ 1)
    (k : ∀ G', QU X sd (s + 1) G' (c + 19) zq qs (rqs R M 2 cd qs.length) (Ws W M (nI t) qs.length) (Vs V R M qs.length x) fu → CC G' (c + 16) (if iw = 1 then cfw cf dv lo (hi - lo) (fun _ => 0) else cf) cv ct tm → cg G G' (pS sd s c) → Pr G') : wX1_failGroup X G c (nI cd) Pr Px := by
  have hlen := hu.t.2.2.2.2.2.2.2
  have go : ∀ {g : Gt}, cg G g (pS sd s c) → gT g c = (1, 2) ∧ gR g 68 c = some (c + 19) ∧ gR g 67 c = some (c + 16) ∧ gT g (c + 19) = (1, 7) ∧ CT g (c + 16) ∧ gI g 71 c = nI t := fun p => by
    obtain ⟨k0, k1, ⟨r1, r2, r3, r4, r5, r6, r7⟩, _, _, _, _, hct, _, u1, _⟩ := hk.ch p.ch
    refine ⟨k1, r5, r4, u1, hct, ?_⟩
    have e := p.2.2.2.2.2 c (fun z => by
      rcases z with z | z | z
      · rw [hs.r (by omega) (by omega) (by omega)] at z; omega
      · omega
      · omega)
    rw [e.2.1]; exact hn
  obtain ⟨k1, r5, r4, u1, _, _⟩ := go cg.rf
  unfold wX1_failGroup
  refine ⟨k1, c + 19, r5, u1, ?_⟩
  rw [hg.2.1]
  refine ⟨fun g a0 x1 x2 => a0 = c ∧ x1 = nI cd ∧ cg G g (pS sd s c) ∧ CC g (c + 16) cf cv ct tm ∧ ∃ i, x2 = nI i ∧ q ≤ i ∧ i ≤ qs.length ∧ QU X sd (s + 1) g (c + 19) zq qs (rqs R M 2 cd i) (Ws W M (nI t) i) (Vs V R M i x) fu, fun _ _ _ x2 => qs.length - x2.toNatClampNeg, ⟨rfl, rfl, cg.rf, hc, q, rfl, Nat.le_refl _, by omega, hu.ext (fun j _ => ?_) (fun j _ => ?_) (fun j _ => ?_)⟩, ?_⟩
  · funext z; unfold rqs; rw [if_neg (fun e => by have := hmq j e.1; omega)]
  · unfold Ws; rw [if_neg (fun e => by have := hmq j e.1; omega)]
  · funext z; unfold Vs; rw [if_neg (fun e => by have := hmq j e.1.1; omega)]
  rintro g a0 x1 x2 ⟨rfl, rfl, cgg, hcc, i, rfl, hqi, hil, hui⟩
  obtain ⟨k1, r5, r4, u1, hct, hnn⟩ := go cgg
  obtain ⟨t1, t2, t3, t4, t5, _, t7, t8⟩ := hui.t
  have hgg := hg.pS cgg
  refine ⟨k1, a0 + 19, r5, u1, a0 + 19 + 1, t2, t7, q_size hui ⟨fun z => ⟨k1, a0 + 19, r5, u1, ?_⟩, fun z => ?_⟩⟩
  · have z' : qs.length ≤ i := (n_le (by omega) (by omega)).mp z
    have e : i = qs.length := by omega
    subst e
    rw [hgg.2.2.2.1]
    refine ⟨fun z2 => ?_, fun z2 => ⟨k1, a0 + 19, r5, u1, ?_⟩⟩
    · have e : iw = 0 := n_inj (b := 0) (by omega) (by decide) z2
      rw [if_neg (by omega)] at k
      exact k g hui hcc cgg
    · have e : iw = 1 := by
        rcases (show iw = 0 ∨ iw = 1 by omega) with e | e
        · exact absurd (by rw [e]; rfl) z2
        · exact e
      rw [if_pos e] at k
      rw [hgg.2.2.2.2.1]
      refine ⟨fun g' a0' x2 => a0' = a0 ∧ cg g g' (fun a => a = a0 + 17 ∨ a = a0 + 18) ∧ ∃ j, x2 = nI (lo + j) ∧ lo + j ≤ hi ∧ CC g' (a0 + 16) (cfw cf dv lo j (fun _ => 0)) cv ct tm, fun _ _ x2 => hi - x2.toNatClampNeg, ⟨rfl, cg.rf, 0, rfl, by omega, by rw [cfw_0]; exact hcc⟩, ?_⟩
      rintro g' a0' x2 ⟨rfl, cg2, j, rfl, hj, hcc2⟩
      have cgt : cg G g' (pS sd s a0') := cgg.tr (cg2.mono (fun a ha => Or.inr ha))
      obtain ⟨k1, r5, r4, u1, hct, hnn⟩ := go cgt
      have hg2 := hg.pS cgt
      refine ⟨k1, a0' + 19, r5, u1, ?_⟩
      rw [hg2.2.2.2.2.2]
      refine ⟨fun z3 => ?_, fun z3 => ⟨k1, a0' + 16, r4, k1, a0' + 19, r5, u1, hct.1, ?_⟩⟩
      · have z4 : hi ≤ lo + j := (n_le (by omega) (by omega)).mp z3
        have e2 : j = hi - lo := by omega
        rw [e2] at hcc2
        refine k g' (hui.keep cg2.ch (fun a ha _ z5 => ?_)) hcc2 cgt
        rcases z5 with e3 | e3
        · rw [e3, hs.r (by omega) (by omega) (by omega)] at ha; omega
        · rw [e3, hs.r (by omega) (by omega) (by omega)] at ha; omega
      · have z4 : lo + j < hi := Nat.lt_of_not_le (fun e => z3 ((n_le (by omega) (by omega)).mpr e))
        rw [hg2.2.2.1]
        refine sp_forget hct hcc2 hd (by omega) (fun G3 h32 hc3 cg3 => ⟨⟨rfl, cg2.tr cg3, j + 1, nI_1 _, by omega, ?_⟩, dec_up z4 (by omega)⟩) (fun h32 => ⟨⟨rfl, cg2, j + 1, nI_1 _, by omega, ?_⟩, dec_up z4 (by omega)⟩)
        · rw [cfw_y hd.1 h32]; exact hc3
        · rw [cfw_n hd.1 h32]; exact hcc2
  · have z' : i < qs.length := Nat.lt_of_not_le (fun e => z ((n_le (by omega) (by omega)).mpr e))
    have dec := dec_up (L := qs.length) z' (by omega)
    refine ⟨k1, a0 + 19, r5, u1, sp_isMember t1 hgg.1 hM (by omega) (fun hm => ⟨fun z2 => absurd z2 (by decide), fun _ => ⟨k1, a0 + 19, r5, u1, a0 + 19 + 1, t2, t7, q_get hui z' ⟨_, rfl, (hui.e z').2.2.2.1.1, k1, (hui.e z').2.2.2.1.1, ?_⟩⟩⟩) (fun hm => ⟨fun _ => ⟨⟨rfl, rfl, cgg, hcc, i + 1, nI_1 i, by omega, by omega, hui.ext (fun j _ => ?_) (fun j _ => ?_) (fun j _ => ?_)⟩, dec⟩, fun z2 => absurd rfl z2⟩)⟩
    · rw [hnn]
      refine q_settle (st := 2) (V' := fun j => if j < R i 3 then x i j else V i j) hui z' (by decide) hcd (fun _ _ e => absurd e (by decide)) (fun G2 hu2 c2 => ⟨⟨rfl, rfl, cgg.tr (c2.mono (fun a ha => q_pS hui z' a (Or.inl ha))), hcc.keep (c2.2.2.2.2.2 _ ?_) (c2.2.2.2.2.2 _ ?_), i + 1, nI_1 i, by omega, by omega, hu2.ext (fun j _ => ?_) (fun j _ => ?_) (fun j _ => ?_)⟩, dec⟩)
      · intro e
        have := (hui.e z').2.1
        rw [← e, hs.r (by omega) (by omega) (by omega)] at this; omega
      · intro e
        have := (hui.e z').2.1
        rw [← e, hs.r (by omega) (by omega) (by omega)] at this; omega
      · rw [rqs_s]
        by_cases e : j = i
        · subst e
          rw [va_up_self, if_pos ⟨rfl, hm⟩]
          funext y
          show _ = if y = 5 then 2 else if y = 6 then cd else rqs R M 2 cd j j y
          have : rqs R M 2 cd j j y = R j y := by unfold rqs; rw [if_neg (fun z => by omega)]
          rw [this]
        · rw [va_up_ne _ _ e, if_neg (fun z => e z.1)]
      · rw [Ws_s]
        by_cases e : j = i
        · subst e; rw [va_up_self, if_pos ⟨rfl, hm⟩]
        · rw [va_up_ne _ _ e, if_neg (fun z => e z.1)]
      · rw [Vs_s]
        by_cases e : j = i
        · subst e; rw [va_up_self, if_pos ⟨rfl, hm⟩]
        · rw [va_up_ne _ _ e, if_neg (fun z => e z.1)]
    · rw [rqs_s, if_neg (fun z => by rw [hm] at z; cases z.2)]
    · rw [Ws_s, if_neg (fun z => by rw [hm] at z; cases z.2)]
    · rw [Vs_s, if_neg (fun z => by rw [hm] at z; cases z.2)]
end SETTLE
