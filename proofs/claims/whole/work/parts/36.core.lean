theorem dec_up {L i : Nat} (h : i < L) (hL : L < 2 ^ 31) : L - (nI i + 1).toNatClampNeg < L - (nI i).toNatClampNeg := by
  rw [nI_1, n_cl (by omega), n_cl (by omega)]; omega
/-! ===== Core: its cells at their places; what it holds ===== -/
def KT (G : Gt) (c : Nat) : Prop := c + 25 < gH G ∧ gT G c = (1, 2) ∧ (gR G 64 c = some (c + 1) ∧ gR G 65 c = some (c + 2) ∧ gR G 66 c = some (c + 3) ∧ gR G 67 c = some (c + 16) ∧ gR G 68 c = some (c + 19) ∧ gR G 69 c = some (c + 21) ∧ gR G 70 c = some (c + 24)) ∧ (gT G (c + 1) = (2, 5) ∧ gT G (c + 2) = (2, 6) ∧ gT G (c + 3) = (4, 3) ∧ gB G (c + 3) 0 = some (c + 4) ∧ gB G (c + 3) 1 = some (c + 8) ∧ gB G (c + 3) 2 = some (c + 12)) ∧ DT G (c + 4) ∧ DT G (c + 8) ∧ DT G (c + 12) ∧ CT G (c + 16) ∧ (gT G (c + 24) = (1, 4) ∧ gR G 128 (c + 24) = some (c + 25) ∧ gT G (c + 25) = (2, 37)) ∧ gT G (c + 19) = (1, 7) ∧ gT G (c + 21) = (1, 5)
theorem KT.ch {G G' : Gt} {c : Nat} {P : Nat → Prop} (h : KT G c) (q : ch G G' P) : KT G' c := by
  obtain ⟨h0, h1, ⟨r1, r2, r3, r4, r5, r6, r7⟩, ⟨t1, t2, t3, b0, b1, b2⟩, d1, d2, d3, cc, ⟨f1, f2, f3⟩, u1, u2⟩ := h
  have gt : ∀ {x : Nat} {v : Nat × Nat}, x < gH G → gT G x = v → gT G' x = v := fun hx hv => (q.2.1 _ hx).trans hv
  have gr : ∀ {f x : Nat} {v : Option Nat}, x < gH G → f ≠ 1 → f ≠ 322 → gR G f x = v → gR G' f x = v := fun hx h1 h2 hv => (q.2.2.2.1 _ _ hx h1 h2).trans hv
  have hb : gB G' (c + 3) = gB G (c + 3) := q.2.2.2.2 _ (by omega) (by rw [t3])
  refine ⟨Nat.lt_of_lt_of_le h0 q.1, gt (by omega) h1, ⟨gr (by omega) (by decide) (by decide) r1, gr (by omega) (by decide) (by decide) r2, gr (by omega) (by decide) (by decide) r3, gr (by omega) (by decide) (by decide) r4, gr (by omega) (by decide) (by decide) r5, gr (by omega) (by decide) (by decide) r6, gr (by omega) (by decide) (by decide) r7⟩, ⟨gt (by omega) t1, gt (by omega) t2, gt (by omega) t3, ?_, ?_, ?_⟩, d1.ch (by omega) q, d2.ch (by omega) q, d3.ch (by omega) q, cc.ch (by omega) q, ⟨gt (by omega) f1, gr (by omega) (by decide) (by decide) f2, gt (by omega) f3⟩, gt (by omega) u1, gt (by omega) u2⟩
  · rw [hb]; exact b0
  · rw [hb]; exact b1
  · rw [hb]; exact b2
/-- the colours: line s, queue s + 1, the rest s + 2 -/
def KS (sd : Nat → Nat) (s c : Nat) : Prop := ∀ a, c ≤ a → a ≤ c + 25 → sd a = (if a < c + 19 then s + 2 else if a < c + 21 then s + 1 else if a < c + 24 then s else s + 2)
theorem KS.r {sd : Nat → Nat} {s c a : Nat} (h : KS sd s c) (h1 : c ≤ a) (h2 : a < c + 19 ∨ c + 24 ≤ a) (h3 : a ≤ c + 25) : sd a = s + 2 := by
  rw [h a h1 h3]
  rcases h2 with e | e
  · rw [if_pos e]
  · rw [if_neg (by omega), if_neg (by omega), if_neg (by omega)]
theorem KS.u {sd : Nat → Nat} {s c : Nat} (h : KS sd s c) : sd (c + 19) = s + 1 := by
  rw [h _ (by omega) (by omega), if_neg (by omega), if_pos (by omega)]
def KN (G : Gt) (c : Nat) (n : Nat → Nat) : Prop := gI G 71 c = nI (n 0) ∧ gI G 72 c = nI (n 7) ∧ gI G 73 c = nI (n 8) ∧ (∀ i, i < 5 → gA G (c + 1) i = nI (n (1 + i))) ∧ ∀ i, i < 6 → gA G (c + 2) i = nI (n (10 + i))
theorem KN.keep {G G' : Gt} {c : Nat} {n : Nat → Nat} (h : KN G c n) (e0 : eqAt G G' c) (e1 : eqAt G G' (c + 1)) (e2 : eqAt G G' (c + 2)) : KN G' c n := by
  unfold KN
  rw [e0.2.1, e0.2.1, e0.2.1, e1.2.2.2.2.1, e2.2.2.2.2.1]
  exact h
def KD (G : Gt) (c : Nat) (S : St) : Prop := ∀ d, 1 ≤ d → d ≤ 3 → DC G (c + 4 * d) (zrg S d) (zro S d) (ztp S d) (zdl S d) (zfl S d)
theorem KD.keep {G G' : Gt} {c : Nat} {S : St} (h : KD G c S) (e : ∀ a, c + 4 ≤ a → a ≤ c + 15 → eqAt G G' a) : KD G' c S := fun d h1 h2 => (h d h1 h2).keep (e _ (by omega) (by omega)) (e _ (by omega) (by omega)) (e _ (by omega) (by omega)) (e _ (by omega) (by omega))
theorem KT.d {G : Gt} {c d : Nat} (h : KT G c) (h1 : 1 ≤ d) (h2 : d ≤ 3) : DT G (c + 4 * d) ∧ gB G (c + 3) (d - 1) = some (c + 4 * d) := by
  obtain ⟨_, _, _, ⟨_, _, _, b0, b1, b2⟩, d1, d2, d3, _⟩ := h
  rcases (show d = 1 ∨ d = 2 ∨ d = 3 by omega) with e | e | e <;> subst e
  · exact ⟨d1, b0⟩
  · exact ⟨d2, b1⟩
  · exact ⟨d3, b2⟩
def CP (X : Xt) (sd : Nat → Nat) (s : Nat) (G : Gt) (c N zl zq : Nat) (qs rs sp hd pool : List Nat) (S : St) (fu : Bool) : Prop :=
  KT G c ∧ KS sd s c ∧ KN G c (zn S) ∧ KD G c S ∧ CC G (c + 16) (zcf S) (zcv S) (zct S) (zn S 0) ∧ QU X sd (s + 1) G (c + 19) zq qs (zrq S) (zW S) (zV S) fu ∧ qs.length = zn S 6 ∧ LN X sd s G (c + 21) N zl rs sp hd pool (zL S)
section CORE
variable {X : Xt} {sd : Nat → Nat} {s : Nat} {G : Gt} {c N zl zq : Nat} {qs rs sp hd pool : List Nat} {S : St} {fu : Bool}
theorem CP.keep {G' : Gt} {P : Nat → Prop} (h : CP X sd s G c N zl zq qs rs sp hd pool S fu) (q : ch G G' P) (hP : ∀ a, P a → (a = c + 19 ∨ a = c + 24 ∨ a = c + 25) ∨ (sd a ≠ s ∧ sd a ≠ s + 1 ∧ sd a ≠ s + 2)) : CP X sd s G' c N zl zq qs rs sp hd pool S fu := by
  obtain ⟨h1, h2, h3, h4, h5, h6, h7, h8⟩ := h
  have hc := h1.1
  have ne : ∀ a, c ≤ a → a ≤ c + 18 → eqAt G G' a := fun a ha hb => q.2.2.1 a (by omega) (fun z => by
    rcases hP a z with e | e
    · omega
    · exact e.2.2 (h2.r ha (by omega) (by omega)))
  refine ⟨h1.ch q, h2, h3.keep (ne _ (by omega) (by omega)) (ne _ (by omega) (by omega)) (ne _ (by omega) (by omega)), h4.keep (fun a ha hb => ne a (by omega) (by omega)), h5.keep (ne _ (by omega) (by omega)) (ne _ (by omega) (by omega)), h6.keep q (fun a ha hn z => ?_), h7, h8.keep q (fun a ha z => ?_)⟩
  · rcases hP a z with e | e
    · rcases e with e | e | e
      · exact hn e
      · rw [e, h2.r (by omega) (by omega) (by omega)] at ha; omega
      · rw [e, h2.r (by omega) (by omega) (by omega)] at ha; omega
    · exact e.2.1 ha
  · rcases hP a z with e | e
    · rcases e with e | e | e
      · rw [e, h2.u] at ha; omega
      · rw [e, h2.r (by omega) (by omega) (by omega)] at ha; omega
      · rw [e, h2.r (by omega) (by omega) (by omega)] at ha; omega
    · exact e.1 ha
theorem sp_cacheAnswers {i : Nat} {Pr : Int32 → Gt → Prop} (h : CP X sd s G c N zl zq qs rs sp hd pool S fu) (hi : i < qs.length) (hn : zn S 0 < 2 ^ 30) (hlf : zn S 1 < 2 ^ 30) (y : isC S i → Pr 1 G) (n : ¬ isC S i → Pr 0 G) : wX1_cacheAnswers X G c (qs.getD i 0) Pr := by
  obtain ⟨h1, h2, h3, h4, h5, h6, h7, h8⟩ := h
  obtain ⟨_, _, _, ⟨a1, a2, a3, b0, b1, b2, b3, b4, b5, b6, b7, b8, b9⟩, ⟨w0, w1, w2, w3, w4, w5, w6, w7, w8, _⟩, _⟩ := h6.e hi
  unfold isC at y n
  unfold wX1_cacheAnswers
  rw [b5, b2]
  refine ⟨a1, fun zz => ⟨a1, ?_⟩, fun zz => n (fun e => zz (by rw [e.1]; rfl))⟩
  have e4 : zrq S i 4 = 0 := n_inj (b := 0) (by omega) (by decide) zz
  refine ⟨fun g a0 a1 x2 => g = G ∧ a0 = c ∧ a1 = qs.getD i 0 ∧ ∃ k, x2 = nI (zrq S i 2 + k) ∧ k ≤ zrq S i 3 ∧ ∀ j, j < k → frsh S (zrq S i 1) (zrq S i 2 + j), fun _ _ _ x2 => zrq S i 2 + zrq S i 3 - x2.toNatClampNeg, ⟨rfl, rfl, rfl, 0, rfl, by omega, fun j hj => absurd hj (by omega)⟩, ?_⟩
  rintro g a0 a1' x2 ⟨rfl, rfl, rfl, k, rfl, hk, hj⟩
  unfold wX1_cacheAnswers_14
  rw [b4, b1]
  refine ⟨a1, fun q => ?_, fun q => ?_⟩
  · have q' : zrq S i 2 + zrq S i 3 ≤ zrq S i 2 + k := (n_le (by omega) (by omega)).mp q
    exact y ⟨e4, fun j hj2 => hj j (by omega)⟩
  · have q' : k < zrq S i 3 := by
      have := Nat.lt_of_not_le (fun e => q ((n_le (a := zrq S i 2 + zrq S i 3) (b := zrq S i 2 + k) (by omega) (by omega)).mpr e))
      omega
    obtain ⟨k0, k1, ⟨r1, r2, r3, r4, r5, r6, r7⟩, ⟨t1, _⟩, _, _, _, hCT, _⟩ := h1
    refine ⟨k1, a0 + 16, r4, a1, k1, k1, a0 + 1, r1, by rw [t1], by rw [t1]; exact n_in (i := 0) (by decide) (by decide), hCT.1, ?_⟩
    rw [h3.1, show gA g (a0 + 1) (0 : Int32).toNatClampNeg = nI (zn S 1) from h3.2.2.2.1 0 (by decide)]
    refine sp_isFresh hCT h5 ⟨by omega, by omega⟩ (by omega) hn hlf (fun f1 f2 f3 => ⟨fun _ => ⟨⟨rfl, rfl, rfl, k + 1, by rw [nI_1]; rfl, by omega, fun j hj2 => ?_⟩, ?_⟩, fun z => absurd z (by decide)⟩) (fun f => ⟨fun z => absurd rfl z, fun _ => n (fun e => f (e.2 k q'))⟩)
    · by_cases e : j = k
      · rw [e]; exact ⟨f1, f2, f3⟩
      · exact hj j (by omega)
    · exact dec_up (by omega) (by omega)
end CORE
