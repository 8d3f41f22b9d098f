/-! ===== the facade: read, write, request, value, requests, requestsOf ===== -/
theorem i_natlt {x : Int32} {n : Nat} (hn : n < 2 ^ 31) (h1 : 0 ≤ x) (h2 : x < nI n) : ∃ i, x = nI i ∧ i < n := by
  cases n with
  | zero => exact absurd h1 (Int32.not_le.mpr h2)
  | succ n =>
    obtain ⟨i, e, _, hi⟩ := i_nat (lo := 0) (hi := n) (by decide) (by omega) h1 ((i_lt hn).mp h2)
    exact ⟨i, e, by omega⟩
def sumC (R : Nat → Nat → Nat) (s n : Nat) : Nat → Nat
  | 0 => 0
  | j + 1 => sumC R s n j + cntR R j s n
theorem sumC_4 {R : Nat → Nat → Nat} {s : Nat} : ∀ n, (∀ i, i < n → R i 0 < 4) → sumC R s n 4 = cntP (fun i => decide (R i 5 = s)) n
  | 0, _ => rfl
  | n + 1, h => by
    have ih := sumC_4 (R := R) (s := s) n (fun i hi => h i (by omega))
    have h4 := h n (by omega)
    have e : ∀ j, cntR R j s (n + 1) = cntR R j s n + if R n 0 = j ∧ R n 5 = s then 1 else 0 := fun _ => rfl
    have ep : cntP (fun i => decide (R i 5 = s)) (n + 1) = cntP (fun i => decide (R i 5 = s)) n + if decide (R n 5 = s) then 1 else 0 := rfl
    rw [ep, ← ih]
    simp only [sumC, e]
    by_cases e5 : R n 5 = s
    · rcases (show R n 0 = 0 ∨ R n 0 = 1 ∨ R n 0 = 2 ∨ R n 0 = 3 by omega) with q | q | q | q <;> simp [q, e5] <;> omega
    · simp [e5]
section FREQ
variable {X : Xt} {sd : Nat → Nat} {G G' : Gt} {g c a z : Nat} {S S' : St} {L : Hr} {Pr : Int32 → Gt → Prop} {Px : String → Gt → Prop}
theorem FX.q (h : FX X sd G g c a S L z) : ∃ zq qs, QU X sd 2 G (c + 19) zq qs (zrq S) (zW S) (zV S) true ∧ qs.length = zn S 6 ∧ gT G g = (1, 10) ∧ gR G 320 g = some c ∧ gT G c = (1, 2) ∧ gR G 68 c = some (c + 19) ∧ gT G (c + 19) = (1, 7) ∧ gR G 224 (c + 19) = some (c + 19 + 1) ∧ gT G (c + 19 + 1) = (1, 0) := by
  obtain ⟨⟨g1, g2, _⟩, _, zl, zq, zt, qs, rs, sp, pool, h, _, _⟩ := h
  obtain ⟨t0, t1, ⟨r1, r2, r3, r4, r5, r6, r7⟩, _, _, _, _, _, _, u1', u2⟩ := id h.1
  have hq := h.2.2.2.2.2.1
  obtain ⟨v1, v2, _, _, _, _, v7, _⟩ := hq.t
  exact ⟨zq, qs, hq, h.2.2.2.2.2.2.1, g1, g2, t1, r5, u1', v2, v7⟩
theorem fx_nreq {x1 : Int32} {Po : Option Nat → Gt → Prop} (h : FX X sd G g c a S L z) (hr : rX X G z)
    (n : ¬ (0 ≤ x1 ∧ x1 < nI (zn S 6)) → ∀ G', FO X sd G g c a z S L G' → Px "java/lang/IndexOutOfBoundsException" G')
    (y : ∀ i q, x1 = nI i → i < zn S 6 → QE sd 2 G q (zrq S i) (zW S i) (zV S i) true → Po (some q) G) : wX9_neededRequest X G g x1 Po Px := by
  obtain ⟨zq, qs, hq, hl, g1, g2, t1, r5, u1', u2, u3⟩ := h.q
  have h40 : qs.length ≤ 40 := hq.t.2.2.2.2.2.2.2
  refine ⟨fun q => fx_ex h hr (n (fun e => absurd e.1 (Int32.not_le.mpr q))), fun q => ⟨g1, c, g2, t1, c + 19, r5, u1', c + 19 + 1, u2, u3, q_size hq ⟨fun q2 => ?_, fun q2 => fx_ex h hr (n (fun e => q2 (by rw [hl]; exact e.2)))⟩⟩⟩
  obtain ⟨i, rfl, hi⟩ := i_natlt (by omega) (Int32.not_lt.mp q) q2
  exact ⟨g1, c, g2, t1, c + 19, r5, u1', c + 19 + 1, u2, u3, q_get hq hi ⟨_, rfl, (hq.e hi).2.2.2.1.1, y i _ rfl (by omega) (hq.e hi)⟩⟩
theorem fx_request {x1 x2 : Int32} (h : FX X sd G g c a S L z) (hr : rX X G z) (hw : WF S) (h8 : ∀ i, zrq S i 8 ≤ 1)
    (k1 : ¬ ((0 ≤ x1 ∧ x1 < nI (zn S 6)) ∧ 0 ≤ x2 ∧ x2 ≤ 8) → ∀ G', FO X sd G g c a z S L G' → Px "java/lang/IndexOutOfBoundsException" G')
    (k3 : ∀ i f, x1 = nI i → i < zn S 6 → x2 = nI f → f ≤ 8 → FO X sd G g c a z S L G → Pr (rqV S i f) G) : wX9_request X G g x1 x2 Pr Px := by
  obtain ⟨⟨g1, g2, _⟩, _⟩ := id h
  refine ⟨g1, fx_nreq h hr (fun q => k1 (fun e => q e.1)) (fun i q e1 hi hq => ⟨q, rfl, fun zz => fx_ex h hr (k1 (fun e => ?_)), ?_⟩)⟩
  · have e1 := Int32.le_iff_toInt_le.mp e.2.1
    have e2 := Int32.le_iff_toInt_le.mp e.2.2
    have e3 : (0 : Int32).toInt = 0 := by decide
    have e4 : (8 : Int32).toInt = 8 := by decide
    omega
  · obtain ⟨_, _, _, ⟨a1, a2, a3, b0, b1, b2, b3, b4, b5, b6, b7, b8, b9⟩, ⟨w0, w1, w2, w3, w4, w5, w6, w7, w8, _⟩, hv⟩ := hq
    obtain ⟨v1, v2⟩ := hv rfl
    have h8i := h8 i
    have fin : ∀ f, x2 = nI f → f ≤ 8 → Pr (rqV S i f) G := fun f e2 hf => k3 i f e1 hi e2 hf h.f0
    have bl : ∀ (x : Int32) (v f : Nat), x = nI v → v ≤ 1 → (x2 = nI f) → f ≤ 8 → f ≠ 7 → zrq S i f = v → (x = 0 → Pr 0 G) ∧ (¬ x = 0 → Pr 1 G) := by
      rintro x v f rfl hv1 e2 hf hf7 ef
      have := fin f e2 hf
      unfold rqV at this
      rw [if_neg hf7, ef] at this
      rw [z0 (by omega)]
      refine ⟨fun z => ?_, fun z => ?_⟩
      · rw [z] at this; exact this
      · rw [show v = 1 by omega] at this; exact this
    refine ⟨fun e => ⟨a1, ?_⟩, fun e => ⟨a1, ?_⟩, fun e => ⟨a1, ?_⟩, fun e => ⟨a1, ?_⟩, fun e => ⟨a1, ?_⟩, fun e => ⟨a1, ?_⟩, fun e => ⟨a1, ?_⟩, fun e => ⟨a1, ?_⟩, fun e => ⟨a1, ?_⟩⟩
    · rw [b0]; exact fin 0 e (by decide)
    · rw [b1]; exact fin 1 e (by decide)
    · rw [b2]; exact fin 2 e (by decide)
    · rw [b3]; exact fin 3 e (by decide)
    · exact bl _ _ 4 b5 w6 e (by decide) (by decide) rfl
    · rw [b6]; exact fin 5 e (by decide)
    · rw [b7]; exact fin 6 e (by decide)
    · rw [b8]; exact fin 7 e (by decide)
    · exact bl _ _ 8 v1 h8i e (by decide) (by decide) rfl
theorem fx_value {x1 x2 : Int32} (h : FX X sd G g c a S L z) (hr : rX X G z) (hw : WF S)
    (k1 : ¬ (0 ≤ x1 ∧ x1 < nI (zn S 6)) → ∀ G', FO X sd G g c a z S L G' → Px "java/lang/IndexOutOfBoundsException" G')
    (k2 : ∀ i, x1 = nI i → i < zn S 6 → ¬ (0 ≤ x2 ∧ x2 < nI (zrq S i 3)) → ∀ G', FO X sd G g c a z S L G' → Px "java/lang/IndexOutOfBoundsException" G')
    (k3 : ∀ i j, x1 = nI i → i < zn S 6 → x2 = nI j → j < zrq S i 3 → ¬ (zrq S i 4 = 0 ∧ zrq S i 5 = 1) → ∀ G', FO X sd G g c a z S L G' → Px "java/lang/IllegalStateException" G')
    (k4 : ∀ i j, x1 = nI i → i < zn S 6 → x2 = nI j → j < zrq S i 3 → zrq S i 4 = 0 → zrq S i 5 = 1 → FO X sd G g c a z S L G → Pr (nI (zV S i j)) G) : wX9_value X G g x1 x2 Pr Px := by
  obtain ⟨⟨g1, g2, _⟩, _⟩ := id h
  refine ⟨g1, fx_nreq h hr k1 (fun i q e1 hi hq => ⟨q, rfl, fun zz => fx_ex h hr (k2 i e1 hi (fun e => absurd e.1 (Int32.not_le.mpr zz))), fun zz => ?_⟩)⟩
  obtain ⟨_, _, _, ⟨a1, a2, a3, b0, b1, b2, b3, b4, b5, b6, b7, b8, b9⟩, ⟨w0, w1, w2, w3, w4, w5, w6, w7, w8, _⟩, hv⟩ := hq
  obtain ⟨v1, v2⟩ := hv rfl
  refine ⟨a1, fun z3 => ⟨a1, ?_⟩, fun z3 => fx_ex h hr (k2 i e1 hi (fun e => z3 (by rw [b3]; exact e.2)))⟩
  rw [b3] at z3
  obtain ⟨j, rfl, hj⟩ := i_natlt (by omega) (Int32.not_lt.mp zz) z3
  refine ⟨a1, fun z4 => ⟨fun z => absurd rfl z, fun _ => fx_ex h hr (k3 i j e1 hi rfl hj (fun e => z4 (by rw [b5, e.1]; rfl)))⟩, fun z4 => ⟨a1, fun z5 => ⟨fun z => absurd rfl z, fun _ => fx_ex h hr (k3 i j e1 hi rfl hj (fun e => z5 (by rw [b6, e.2]; rfl)))⟩, fun z5 => ⟨fun _ => ⟨a1, q + 1, a2, by rw [a3], by rw [a3]; exact n_in hj (by omega), ?_⟩, fun z => absurd z (by decide)⟩⟩⟩
  rw [b5, z0 (by omega)] at z4
  rw [b6] at z5
  have z5' : zrq S i 5 = 1 := n_inj (b := 1) (by omega) (by decide) z5
  rw [n_cl (by omega), v2 z4 z5' j hj]
  exact k4 i j e1 hi rfl hj z4 z5' h.f0
theorem fx_requestsOf {x1 x2 : Int32} (h : FX X sd G g c a S L z) (hr : rX X G z)
    (k1 : ¬ ((0 ≤ x1 ∧ x1 ≤ 3) ∧ 0 ≤ x2 ∧ x2 ≤ 2) → ∀ G', FO X sd G g c a z S L G' → Px "java/lang/IndexOutOfBoundsException" G')
    (k3 : ∀ cl s, x1 = nI cl → cl ≤ 3 → x2 = nI s → s ≤ 2 → FO X sd G g c a z S L G → Pr (nI (cntR (zrq S) cl s (zn S 6))) G) : wX9_requestsOf X G g x1 x2 Pr Px := by
  obtain ⟨zq, qs, hq, hl, g1, g2, t1, r5, u1', u2, u3⟩ := h.q
  refine fx_cli h hr (fun q => k1 (fun e => q e.1)) (fun cl e1 h1 => fx_sta h hr (fun q => k1 (fun e => q e.2)) (fun s e2 h2 => ⟨g1, c, g2, t1, c + 19, r5, u1', ?_⟩))
  subst e1 e2
  refine sp_countOf hq (by omega) (by omega) ?_
  rw [hl]
  exact k3 cl s rfl h1 rfl h2 h.f0
theorem fx_requests {x1 : Int32} (h : FX X sd G g c a S L z) (hr : rX X G z) (hw : WF S)
    (k1 : ¬ (0 ≤ x1 ∧ x1 ≤ 2) → ∀ G', FO X sd G g c a z S L G' → Px "java/lang/IndexOutOfBoundsException" G')
    (k3 : ∀ s, x1 = nI s → s ≤ 2 → FO X sd G g c a z S L G → Pr (nI (cntP (fun i => decide (zrq S i 5 = s)) (zn S 6))) G) : wX9_requests X G g x1 Pr Px := by
  obtain ⟨zq, qs, hq, hl, g1, g2, t1, r5, u1', u2, u3⟩ := h.q
  refine fx_sta h hr k1 (fun s e1 h1 => ?_)
  subst e1
  refine ⟨fun K a0 y1 y2 y3 => K = G ∧ a0 = g ∧ y1 = nI s ∧ ∃ j, y3 = nI j ∧ j ≤ 4 ∧ y2 = nI (sumC (zrq S) s (zn S 6) j), fun _ _ _ _ y3 => 4 - y3.toNatClampNeg, ⟨rfl, rfl, rfl, 0, rfl, by decide, rfl⟩, ?_⟩
  rintro K a0 y1 y2 y3 ⟨rfl, rfl, rfl, j, rfl, hj, rfl⟩
  refine ⟨fun q => ?_, fun q => ⟨g1, c, g2, t1, c + 19, r5, u1', ?_⟩⟩
  · have : j = 4 := by have := (n_le (a := 4) (by decide) (by omega)).mp q; omega
    subst this
    rw [sumC_4 _ (fun i hi => (hw.2.2.1.1 i hi).1)]
    exact k3 s rfl h1 h.f0
  · have hj4 : j < 4 := Nat.lt_of_not_le (fun e => q ((n_le (a := 4) (by decide) (by omega)).mpr e))
    refine sp_countOf hq (by omega) (by omega) ?_
    rw [hl, n_add]
    exact ⟨⟨rfl, rfl, rfl, j + 1, nI_1 j, by omega, rfl⟩, dec_up (L := 4) hj4 (by decide)⟩
/-- a made request goes into the queue -/
theorem fx_app {G1 : Gt} {cl d st w iw v : Nat} {R : Nat → Nat} (h : FX X sd G g c a S L z) (hr : rX X G z) (hw : WF S) (hn : zn S 6 < 40) (hR : R 0 = cl ∧ R 1 = d ∧ R 2 = st ∧ R 3 = w ∧ R 4 = iw ∧ R 5 = 0 ∧ R 6 = 0 ∧ R 9 = v) (hwf : wfR R) (c1 : ch G G1 (fun _ => False)) (hH : gH G1 = gH G + 2) (hU : gU G1 ≤ gU G + 27) (hq : RQ G1 (gH G) R (-1)) (h298 : gI G1 298 (gH G) = 0)
    (k : ∀ G2, FO X sd G g c a z (addS S cl d st w iw v) L G2 → Pr (nI (zn S 6)) G2) : wX6_append X G1 (c + 19) (gH G) Pr := by
  have hz := h.zle
  have e0 : ∀ x, x < gH G → (fun x => if x < gH G then sd x else 2) x = sd x := fun x hx => if_pos hx
  have e2 : ∀ x, gH G ≤ x → (fun x => if x < gH G then sd x else 2) x = 2 := fun x hx => if_neg (by omega)
  have h' := h.rc e0
  revert e0 e2 h'
  generalize (fun x => if x < gH G then sd x else 2) = sd'
  intro e0 e2 h'
  obtain ⟨hg0, hl0, zl, zq, zt, qs, rs, sp, pool, hcp0, ht0, ez⟩ := h'
  have no : ∀ x, (fun _ : Nat => False) x → sd' x ≠ 8 := fun _ z => z.elim
  have hg := hg0.keep c1 no
  have hl := hl0.kp hg0 c1 no
  have hcp := hcp0.keep c1 (fun _ z => z.elim)
  have ht := ht0.keep hg0.2.2.2.1 c1 (fun z => z) (fun _ z => z.elim)
  obtain ⟨p1, p2, p3, p4, p5, p6, p7, p8⟩ := id hcp
  have hx : xde X < gH G1 := hg.2.2.2.2.2.2.2.2.2.1
  have hzq := qu_z p6
  have hzl := lnz_le p8
  have hzt := ht.zle
  obtain ⟨r1, r2⟩ := hr
  obtain ⟨R0, R1, R2, R3, R4, R5, R6, R9⟩ := hR
  have hS5 := hw.2.2.1.2 (zn S 6) (Nat.le_refl _)
  have eqs : ∀ k, k < qs.length → k ≠ zn S 6 := fun k hk => by omega
  have hq1 : QU X sd' 2 G1 (c + 19) zq qs (zrq (addS S cl d st w iw v)) (zW (addS S cl d st w iw v)) (zV S) true := p6.ext (fun k hk => va_up_ne _ _ (eqs k hk)) (fun k hk => va_up_ne _ _ (eqs k hk)) (fun _ _ => rfl)
  have er : zrq (addS S cl d st w iw v) qs.length = rqN (zrq S (zn S 6)) cl d st w iw v := by rw [p7]; exact va_up_self _ _ _
  have ew : zW (addS S cl d st w iw v) qs.length = -1 := by rw [p7]; exact va_up_self _ _ _
  have hny : gH G ∉ qs := fun hm => by
    obtain ⟨k, hk, e⟩ := List.getElem_of_mem hm
    have q := (hcp0.2.2.2.2.2.1.e hk).1
    have e' : qs.getD k 0 = qs[k] := by simp [List.getD, hk]
    rw [e', e] at q
    omega
  have hy : QE sd' 2 G1 (gH G) (zrq (addS S cl d st w iw v) qs.length) (zW (addS S cl d st w iw v) qs.length) (zV S qs.length) true := by
    rw [er, ew]
    obtain ⟨w0, w1, w2, w3, w4, w5, w6, w7, w8, w9, w10⟩ := hwf
    refine ⟨by omega, e2 _ (Nat.le_refl _), e2 _ (by omega), hq.y ⟨R0.symm, R1.symm, R2.symm, R3.symm, R4.symm, hS5.1.trans R5.symm, hS5.2.1.trans R6.symm⟩ (fun e => ?_), ?_, fun _ => ⟨?_, fun _ e => ?_⟩⟩
    · have := hq.2.2.2.2.2.2.2.2.2.2.2.2 e
      rw [R9] at this; exact this
    · rw [R0] at w0; rw [R1] at w1 w2; rw [R2] at w3; rw [R3] at w4 w5 w7; rw [R4] at w6 w7; rw [R9] at w10
      exact ⟨w0, w1, w2, w3, w4, w5, w6, w7, by show zrq S (zn S 6) 5 ≤ 2; rw [hS5.1]; decide, by show zrq S (zn S 6) 6 < 256; rw [hS5.2.1]; decide, w10⟩
    · show gI G1 298 (gH G) = nI (zrq S (zn S 6) 8)
      rw [hS5.2.2]; exact h298
    · have e' : zrq S (zn S 6) 5 = 1 := e
      rw [hS5.1] at e'; exact absurd e' (by decide)
  refine sp_append hq1 (by omega) hy hny hx (fun x hx => e2 x (by omega)) (by omega) (by omega) (fun G2 z' u2 c2 z1 z2 z3 z4 => ?_)
  rw [p7]
  refine k G2 ⟨sd', zl + z' + zt, e0, ⟨hg.keep c2 (fun x hx => by rw [hx]; decide), hl.kp hg c2 (fun x hx => by rw [hx]; decide), zl, z', zt, qs ++ [gH G], rs, sp, pool, ?_, ?_, rfl⟩, ?_, by omega, by omega, by omega⟩
  · have col : ∀ x, c ≤ x → x ≤ c + 25 → (x < c + 19 ∨ c + 24 ≤ x) → eqAt G1 G2 x := fun x q1 q2 q3 => c2.2.2.1 x (by have := p1.1; omega) (fun hx => by
      have := p2.r q1 q3 q2
      have hx' : sd' x = 2 := hx
      omega)
    have kn : KN G1 c (zn (addS S cl d st w iw v)) := by
      obtain ⟨k1, k2, k3, k4, k5⟩ := p3
      refine ⟨k1, k2, k3, fun i hi => ?_, fun i hi => ?_⟩
      · show _ = nI (va_up (zn S) 6 (zn S 6 + 1) (1 + i))
        rw [va_up_ne _ _ (by omega)]; exact k4 i hi
      · show _ = nI (va_up (zn S) 6 (zn S 6 + 1) (10 + i))
        rw [va_up_ne _ _ (by omega)]; exact k5 i hi
    refine ⟨p1.ch c2, p2, kn.keep (col _ (by omega) (by omega) (by omega)) (col _ (by omega) (by omega) (by omega)) (col _ (by omega) (by omega) (by omega)), KD.keep (S := addS S cl d st w iw v) p4 (fun x q1 q2 => col x (by omega) (by omega) (by omega)), CC.keep p5 (col _ (by omega) (by omega) (by omega)) (col _ (by omega) (by omega) (by omega)), u2, ?_, p8.keep c2 (fun x hx hx' => by
      have hx2 : sd' x = 2 := hx'
      omega)⟩
    show (qs ++ [gH G]).length = va_up (zn S) 6 (zn S 6 + 1) 6
    rw [va_up_self, List.length_append, p7]; rfl
  · have tk := ht.keep hg.2.2.2.1 c2 (fun hx => by have h8 := hg.2.2.2.2.2.1; have hx2 : sd' g = 2 := hx; omega) (fun x hx => by rw [show sd' x = 2 from hx]; decide)
    rcases tk with tk | ⟨d2, zl2, zq2, qs2, rs2, sp2, pool2, T, t1, t2, t3, t4, t5⟩
    · exact Or.inl tk
    · refine Or.inr ⟨d2, zl2, zq2, qs2, rs2, sp2, pool2, T, t1, t2, ?_, fun k hk => ?_, t5⟩
      · show qs2.length ≤ va_up (zn S) 6 (zn S 6 + 1) 6
        rw [va_up_self]; omega
      · have := t4 k hk
        rw [show zrq (addS S cl d st w iw v) k = zrq S k from va_up_ne _ _ (by omega)]
        exact this
  · refine (c1.mono (fun x _ z => z.elim)).tq c2 (fun x hx z => ?_)
    have z2 : sd' x = 2 := z
    rw [e0 x hx] at z2
    show sd x ≠ 7
    rw [z2]; decide
theorem fx_room {Pq : Gt → Prop} (h : FX X sd G g c a S L z) (hr : rX X G z) (hw : WF S) (n : zn S 6 = 40 → ∀ G', FO X sd G g c a z S L G' → Px "java/lang/IllegalStateException" G') (y : zn S 6 < 40 → Pq G) : wX9_needRoomForRequest X G g Pq Px := by
  obtain ⟨zq, qs, hq, hl, g1, g2, t1, r5, u1', u2, u3⟩ := h.q
  have h40 : qs.length ≤ 40 := hq.t.2.2.2.2.2.2.2
  refine ⟨g1, c, g2, t1, c + 19, r5, u1', c + 19 + 1, u2, u3, q_size hq ?_⟩
  rw [show nI qs.length < 40 ↔ qs.length < 40 from n_lt (b := 40) (by omega) (by decide)]
  exact ⟨fun q => y (by omega), fun q => fx_ex h hr (n (by omega))⟩
theorem fx_read {x1 x2 x3 x4 : Int32} (h : FX X sd G g c a S L z) (hr : rX X G z) (hw : WF S)
    (k1 : ¬ ((0 ≤ x1 ∧ x1 ≤ 3) ∧ 1 ≤ x2 ∧ x2 ≤ 3) → ∀ G', FO X sd G g c a z S L G' → Px "java/lang/IndexOutOfBoundsException" G')
    (k2 : ∀ cl d, x1 = nI cl → cl ≤ 3 → x2 = nI d → 1 ≤ d → d ≤ 3 → ¬ ((0 ≤ x3 ∧ x3 ≤ 1000) ∧ 1 ≤ x4 ∧ x4 ≤ 16) → ∀ G', FO X sd G g c a z S L G' → Px "java/lang/IllegalArgumentException" G')
    (k3 : ∀ cl d s w, x1 = nI cl → cl ≤ 3 → x2 = nI d → 1 ≤ d → d ≤ 3 → x3 = nI s → s ≤ 1000 → x4 = nI w → 1 ≤ w → w ≤ 16 → zn S 6 = 40 → ∀ G', FO X sd G g c a z S L G' → Px "java/lang/IllegalStateException" G')
    (k4 : ∀ cl d s w G', x1 = nI cl → cl ≤ 3 → x2 = nI d → 1 ≤ d → d ≤ 3 → x3 = nI s → s ≤ 1000 → x4 = nI w → 1 ≤ w → w ≤ 16 → zn S 6 < 40 → FO X sd G g c a z (addS S cl d s w 0 0) L G' → Pr (nI (zn S 6)) G') : wX9_read X G g x1 x2 x3 x4 Pr Px := by
  obtain ⟨zq, qs, hq, hl, g1, g2, t1, r5, u1', u2, u3⟩ := h.q
  have hz := h.zle
  refine fx_cli h hr (fun q => k1 (fun e => q e.1)) (fun cl e1 c3 => fx_dev h hr (fun q => k1 (fun e => q e.2)) (fun d e2 d1 d2 => fx_rng h hr (fun q => k2 cl d e1 c3 e2 d1 d2 (fun e => q e.1)) (fun s1 s2 => fx_rng h hr (fun q => k2 cl d e1 c3 e2 d1 d2 (fun e => q e.2)) (fun w1 w2 => ⟨g1, ?_⟩))))
  subst e1 e2
  obtain ⟨s, rfl, _, s3⟩ := i_nat (lo := 0) (hi := 1000) (by decide) (by decide) s1 s2
  obtain ⟨w, rfl, w3, w4⟩ := i_nat (lo := 1) (hi := 16) (by decide) (by decide) w1 w2
  refine fx_room h hr hw (k3 cl d s w rfl c3 rfl d1 d2 rfl s3 rfl w3 w4) (fun hn => ⟨g1, c, g2, t1, c + 19, r5, by have := hr.1; omega, by have := hr.2; omega, ?_⟩)
  rintro G1 rfl
  refine sp_newReq (w := 0) ⟨w3, w4⟩ (by decide) (by have := hr.1; omega) (by have := hr.2; omega) (fun G2 R hR rq i298 hH hU c1 => ⟨(c1.2.1 _ (by have := h.k.1.1; omega)).trans u1', ?_⟩)
  obtain ⟨R0, R1, R2, R3, R4, R5, R6, R8, R9⟩ := hR
  exact fx_app h hr hw hn ⟨R0, R1, R2, R3, R4, R5, R6, R9⟩ ⟨by omega, by omega, by omega, by omega, by omega, by omega, by omega, fun e => by omega, by omega, by omega, by omega⟩ c1 hH hU rq i298 (fun G3 f => k4 cl d s w G3 rfl c3 rfl d1 d2 rfl s3 rfl w3 w4 hn f)
theorem fx_write {x1 x2 x3 x4 : Int32} (h : FX X sd G g c a S L z) (hr : rX X G z) (hw : WF S)
    (k1 : ¬ ((0 ≤ x1 ∧ x1 ≤ 3) ∧ 1 ≤ x2 ∧ x2 ≤ 3) → ∀ G', FO X sd G g c a z S L G' → Px "java/lang/IndexOutOfBoundsException" G')
    (k2 : ∀ cl d, x1 = nI cl → cl ≤ 3 → x2 = nI d → 1 ≤ d → d ≤ 3 → ¬ ((0 ≤ x3 ∧ x3 ≤ 1000) ∧ 0 ≤ x4 ∧ x4 ≤ 65535) → ∀ G', FO X sd G g c a z S L G' → Px "java/lang/IllegalArgumentException" G')
    (k3 : ∀ cl d s v, x1 = nI cl → cl ≤ 3 → x2 = nI d → 1 ≤ d → d ≤ 3 → x3 = nI s → s ≤ 1000 → x4 = nI v → v ≤ 65535 → zn S 6 = 40 → ∀ G', FO X sd G g c a z S L G' → Px "java/lang/IllegalStateException" G')
    (k4 : ∀ cl d s v G', x1 = nI cl → cl ≤ 3 → x2 = nI d → 1 ≤ d → d ≤ 3 → x3 = nI s → s ≤ 1000 → x4 = nI v → v ≤ 65535 → zn S 6 < 40 → FO X sd G g c a z (addS S cl d s 1 1 v) L G' → Pr (nI (zn S 6)) G') : wX9_write X G g x1 x2 x3 x4 Pr Px := by
  obtain ⟨zq, qs, hq, hl, g1, g2, t1, r5, u1', u2, u3⟩ := h.q
  have hz := h.zle
  refine fx_cli h hr (fun q => k1 (fun e => q e.1)) (fun cl e1 c3 => fx_dev h hr (fun q => k1 (fun e => q e.2)) (fun d e2 d1 d2 => fx_rng h hr (fun q => k2 cl d e1 c3 e2 d1 d2 (fun e => q e.1)) (fun s1 s2 => fx_rng h hr (fun q => k2 cl d e1 c3 e2 d1 d2 (fun e => q e.2)) (fun w1 w2 => ⟨g1, ?_⟩))))
  subst e1 e2
  obtain ⟨s, rfl, _, s3⟩ := i_nat (lo := 0) (hi := 1000) (by decide) (by decide) s1 s2
  obtain ⟨v, rfl, _, v4⟩ := i_nat (lo := 0) (hi := 65535) (by decide) (by decide) w1 w2
  refine fx_room h hr hw (k3 cl d s v rfl c3 rfl d1 d2 rfl s3 rfl v4) (fun hn => ⟨by have := hr.1; omega, by have := hr.2; omega, ?_⟩)
  rintro G1 rfl
  refine sp_newReq (n := 1) (w := 1) ⟨by decide, by decide⟩ (by decide) (by have := hr.1; omega) (by have := hr.2; omega) (fun G2 R hR rq i298 hH hU c1 => ?_)
  obtain ⟨R0, R1, R2, R3, R4, R5, R6, R8, R9⟩ := hR
  obtain ⟨a1, a2, a3, b0, b1, b2, b3, b4, b5, b6, b7, b8, b9⟩ := rq
  rw [R3] at a3
  refine ⟨a1, gH G + 1, a2, by rw [a3], by rw [a3]; exact n_in (i := 0) (by decide) (by decide), ?_⟩
  rintro G3 rfl
  have cg3 : ch G (sA G2 (gH G + 1) (upd (gA G2 (gH G + 1)) (0 : Int32).toNatClampNeg (nI v))) (fun _ => False) := cn_sA c1 (by omega)
  have e1 := cg3.2.2.1 g (by have := h.1.2.2.2.1; omega) (fun z => z)
  have e2 := cg3.2.2.1 c (by have := h.k.1.1; omega) (fun z => z)
  have e3 := cg3.2.2.1 (c + 19) (by have := h.k.1.1; omega) (fun z => z)
  refine ⟨e1.1.trans g1, c, (e1.2.2.2.1 _).trans g2, e2.1.trans t1, c + 19, (e2.2.2.2.1 _).trans r5, e3.1.trans u1', ?_⟩
  refine fx_app (R := va_up R 9 v) h hr hw hn ⟨R0, R1, R2, R3, R4, R5, R6, va_up_self _ _ _⟩ ?_ cg3 hH hU ⟨a1, a2, by show _ = (2, R 3); rw [R3]; exact a3, b0, b1, b2, b3, b4, b5, b6, b7, b8, fun _ => ?_⟩ i298 (fun G4 f => k4 cl d s v G4 rfl c3 rfl d1 d2 rfl s3 rfl v4 hn f)
  · have w9 : va_up R 9 v 9 = v := va_up_self _ _ _
    refine ⟨?_, ?_, ?_, ?_, ?_, ?_, ?_, fun _ => R3, ?_, ?_, by rw [w9]; omega⟩
    · show R 0 < 4; omega
    · show 1 ≤ R 1; omega
    · show R 1 ≤ 3; omega
    · show R 2 ≤ 1000; omega
    · show 1 ≤ R 3; omega
    · show R 3 ≤ 16; omega
    · show R 4 ≤ 1; omega
    · show R 5 ≤ 2; omega
    · show R 6 < 256; omega
  · show (if gH G + 1 = gH G + 1 then upd (gA G2 (gH G + 1)) 0 (nI v) else _) 0 = nI (va_up R 9 v 9)
    rw [if_pos rfl, pk_us, va_up_self]
end FREQ
