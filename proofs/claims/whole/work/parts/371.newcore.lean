/-! ===== a new Core ===== -/
theorem DT.eq {G G' : Gt} {d : Nat} (h : DT G d) (e : ∀ a, d ≤ a → a ≤ d + 3 → eqAt G G' a) : DT G' d := by
  have e0 := e d (by omega) (by omega)
  unfold DT
  rw [e0.1, e0.2.2.2.1, e0.2.2.2.1, e0.2.2.2.1, (e (d + 1) (by omega) (by omega)).1, (e (d + 2) (by omega) (by omega)).1, (e (d + 3) (by omega) (by omega)).1]
  exact h
theorem CT.eq {G G' : Gt} {d : Nat} (h : CT G d) (e : ∀ a, d ≤ a → a ≤ d + 2 → eqAt G G' a) : CT G' d := by
  have e0 := e d (by omega) (by omega)
  unfold CT
  rw [e0.1, e0.2.2.2.1, e0.2.2.2.1, (e (d + 1) (by omega) (by omega)).1, (e (d + 2) (by omega) (by omega)).1]
  exact h
theorem gA_sR {G : Gt} {f a b : Nat} {x : Option Nat} : gA (sR G f a x) b = gA G b := rfl
theorem al0 {X : Xt} {G G' : Gt} {a : Nat} (h : AL X G a (xde X) 0 []) (ea : eqAt G G' a) (ex : eqAt G G' (xde X)) (hh : gH G ≤ gH G') : AL X G' a (xde X) 0 [] := by
  obtain ⟨h1, h2, h3, h4, h5, h6, h7, h8, h9⟩ := h
  refine ⟨ea.1.trans h1, by omega, by omega, (ea.2.2.2.1 _).trans h4, (ea.2.1 _).trans h5, h6, h7, fun y hy => absurd hy (by simp), Or.inl ⟨rfl, rfl, ?_⟩⟩
  rcases h9 with ⟨_, _, q⟩ | ⟨q, _⟩
  · exact ex.1.trans q
  · omega
/-- the first state -/
def n0 (j : Nat) : Nat := if j = 1 then 50 else if j = 2 then 30 else if j = 3 then 1 else if j = 5 then 1 else 0
def S0 : St := mkS n0 (fun _ _ => 0) (fun _ _ => 0) (fun _ => 65535) (fun _ => 5) (fun _ => []) (fun _ _ => 0) (fun _ => 0) (fun _ _ => 0) (fun _ => 0) (fun _ => 0) (fun _ => 0) []
theorem S0_wf : WF S0 := by
  refine ⟨⟨by decide, by decide, by decide, by decide, by decide, by decide, by decide, by decide⟩, fun d => ⟨fun _ => (show (0 : Nat) < 65536 by decide), fun _ => (show (0 : Nat) ≤ 1 by decide), (show (65535 : Nat) < 65536 by decide), (show (5 : Nat) ≤ 1000 by decide), (show (0 : Nat) ≤ 6 by decide), fun p hp => by cases hp⟩, ⟨fun i hi => absurd (show i < 0 from hi) (by omega), fun i _ => ⟨rfl, rfl, rfl⟩⟩, fun p => ⟨(show (0 : Nat) ≤ 1 by decide), fun e => absurd (show (0 : Nat) = 1 from e) (by decide)⟩, fun r hr => by cases hr⟩
section NEWCORE
variable {X : Xt} {G : Gt}
/-- the stages of a new core: nothing old is changed, nothing made before but the core itself and the row of devices -/
def stg (G A B : Gt) (m m' : Nat) (rw : Bool) : Prop := gH A = gH G + m ∧ gH B = gH G + m' ∧ m ≤ m' ∧ (∀ a, a < gH A → a ≠ gH G → (rw = false ∨ a ≠ gH G + 3) → eqAt A B a) ∧ gT B (gH G) = gT A (gH G)
set_option maxHeartbeats 8000000 in
theorem sp_newCore {Pr : Gt → Prop} (hx : xde X < gH G) (hxt : gT G (xde X) = (6, 0)) (r1 : gH G + 26 ≤ xC X) (r2 : gU G + 429 ≤ xS X)
    (k : ∀ G', KT G' (gH G) → KN G' (gH G) n0 → KD G' (gH G) S0 → CC G' (gH G + 16) (fun _ => 0) (fun _ => 0) (fun _ => 0) 0 → gR G' 224 (gH G + 19) = some (gH G + 19 + 1) → AL X G' (gH G + 19 + 1) (xde X) 0 [] → gR G' 160 (gH G + 21) = some (gH G + 21 + 1) → gR G' 161 (gH G + 21) = some (gH G + 21 + 2) → AL X G' (gH G + 21 + 1) (xde X) 0 [] → AL X G' (gH G + 21 + 2) (xde X) 0 [] → gI G' 74 (gH G) = 0 → gH G' = gH G + 26 → gU G' = gU G + 429 → ch G G' (fun _ => False) → Pr G') : wX1_init X (nO G 2 11) (gH G) Pr := by
  generalize hc : gH G = c at *
  have hx' : xde X ≠ c := by omega
  refine ⟨by show gH G + 1 + 1 ≤ _; omega, by show gU G + 11 + 5 ≤ _; omega, ?_⟩
  rintro G1 rfl
  have h1 : gH (nO G 2 11) = c + 1 := by show gH G + 1 = _; omega
  rw [h1]
  have s0 : gT (nA (nO G 2 11) 5) (c + 1) = (2, 5) := by rw [← h1]; exact nA_t
  refine ⟨by rw [s0], by rw [s0]; exact n_in (i := 0) (by decide) (by decide), ?_⟩
  rintro G2 rfl
  refine ⟨by show (gT (nA (nO G 2 11) 5) (c + 1)).1 = 2; rw [s0], by show vp_in 1 (gT (nA (nO G 2 11) 5) (c + 1)).2; rw [s0]; exact n_in (i := 1) (by decide) (by decide), ?_⟩
  rintro G3 rfl
  refine ⟨by show (gT (nA (nO G 2 11) 5) (c + 1)).1 = 2; rw [s0], by show vp_in 2 (gT (nA (nO G 2 11) 5) (c + 1)).2; rw [s0]; exact n_in (i := 2) (by decide) (by decide), ?_⟩
  rintro G4 rfl
  refine ⟨by show (gT (nA (nO G 2 11) 5) (c + 1)).1 = 2; rw [s0], by show vp_in 3 (gT (nA (nO G 2 11) 5) (c + 1)).2; rw [s0]; exact n_in (i := 3) (by decide) (by decide), ?_⟩
  rintro G5 rfl
  refine ⟨by show (gT (nA (nO G 2 11) 5) (c + 1)).1 = 2; rw [s0], by show vp_in 4 (gT (nA (nO G 2 11) 5) (c + 1)).2; rw [s0]; exact n_in (i := 4) (by decide) (by decide), ?_⟩
  rintro G6 rfl
  have kc0 : gT (nA (nO G 2 11) 5) c = (1, 2) := by
    rw [(nA_o (g := nO G 2 11) (n := 5) (show c ≠ gH (nO G 2 11) by omega)).1, ← hc]; exact nO_t
  refine ⟨kc0, ?_⟩
  rintro G7 rfl
  -- behind the settings
  generalize hA : sR (sA (sA (sA (sA (sA (nA (nO G 2 11) 5) (c + 1) _) (c + 1) _) (c + 1) _) (c + 1) _) (c + 1) _) 64 c (some (c + 1)) = A
  have A1 : gT A c = (1, 2) := by rw [← hA]; exact kc0
  have A2 : gT A (c + 1) = (2, 5) := by rw [← hA]; exact s0
  have A3 : ∀ i, i < 5 → gA A (c + 1) i = nI (n0 (1 + i)) := by
    intro i hi
    rw [← hA]
    simp only [gA_sR, gA_sA', if_true]
    rcases (show i = 0 ∨ i = 1 ∨ i = 2 ∨ i = 3 ∨ i = 4 by omega) with e | e | e | e | e <;> subst e <;> rfl
  have A4 : gR A 64 c = some (c + 1) := by rw [← hA, gR_sR, if_pos ⟨rfl, rfl⟩]
  have A5 : gH A = c + 2 := by rw [← hA]; show gH G + 1 + 1 = _; omega
  have A6 : gU A = gU G + 16 := by rw [← hA]; show gU G + 11 + 5 = _; omega
  have A7 : ch G A (fun _ => False) := by
    rw [← hA]
    exact cn_sR (cn_sA (cn_sA (cn_sA (cn_sA (cn_sA (ch.nO.tr ch.nA) (by omega)) (by omega)) (by omega)) (by omega)) (by omega)) (by omega)
  have A8 : gT A (xde X) = (6, 0) := (A7.2.1 _ (by omega)).trans hxt
  clear hA
  refine ⟨by omega, by omega, ?_⟩
  rintro G8 rfl
  have qB : ∀ {a : Nat}, a < gH A → eqAt A (nA A 6) a := fun h => nA_o (by omega)
  refine ⟨by rw [(qB (by omega)).1]; exact A1, ?_⟩
  rintro G9 rfl
  rw [A5]
  generalize hB : sR (nA A 6) 65 c (some (c + 2)) = B
  have oB : ∀ a, a < gH A → a ≠ c → eqAt A B a := fun a h1 h2 => by rw [← hB]; exact (qB h1).tr (eqAt.sR h2)
  have B1 : gT B c = (1, 2) := by rw [← hB]; show gT (nA A 6) c = _; rw [(qB (by omega)).1]; exact A1
  have B2 : gT B (c + 2) = (2, 6) := by rw [← hB]; show gT (nA A 6) (c + 2) = _; rw [← A5]; exact nA_t
  have B3 : gA B (c + 2) = fun _ => 0 := by rw [← hB]; show gA (nA A 6) (c + 2) = _; rw [← A5]; exact nA_a (n := 6)
  have B4 : gR B 64 c = some (c + 1) := by rw [← hB, gR_sR, if_neg (fun z => absurd z.1 (by decide))]; show gR (nA A 6) 64 c = _; rw [(qB (by omega)).2.2.2.1]; exact A4
  have B5 : gR B 65 c = some (c + 2) := by rw [← hB, gR_sR, if_pos ⟨rfl, rfl⟩]
  have B6 : gH B = c + 3 := by rw [← hB]; show gH A + 1 = _; omega
  have B7 : gU B = gU G + 22 := by rw [← hB]; show gU A + 6 = _; omega
  have B8 : ch G B (fun _ => False) := by rw [← hB]; exact cn_sR (A7.tr ch.nA) (by omega)
  clear hB
  refine ⟨by omega, by omega, ?_⟩
  rintro G10 rfl
  generalize hD : nB B 4 3 = D
  have oD : ∀ a, a < gH B → eqAt B D a := fun a h1 => by rw [← hD]; exact eqAt.nB (by omega)
  have D1 : gT D (c + 3) = (4, 3) := by rw [← hD, ← B6]; exact va_up_self _ _ _
  have D6 : gH D = c + 4 := by rw [← hD]; show gH B + 1 = _; omega
  have D7 : gU D = gU G + 25 := by rw [← hD]; show gU B + 3 = _; omega
  have D8 : ch G D (fun _ => False) := by rw [← hD]; exact B8.tr ch.nB
  clear hD
  rw [B6]
  -- the devices
  have dev : ∀ (E : Gt) (i : Nat) (m : Nat), i < 3 → gH E = c + m → 4 ≤ m → gU E + 51 ≤ xS X → gH E + 4 ≤ xC X → gT E (c + 3) = (4, 3) → ch G E (fun _ => False) → ∀ (Q : Gt → Prop), (∀ F, DT F (c + m) → DC F (c + m) (fun _ => 0) (fun _ => 0) 65535 5 [] → gH F = c + (m + 4) → gU F = gU E + 51 → ch G F (fun _ => False) → (∀ a, a < gH E → a ≠ c + 3 → eqAt E F a) → gT F (c + 3) = (4, 3) → gB F (c + 3) = va_up (gB E (c + 3)) i (some (c + m)) → Q F) → wX2_init X (nO E 3 7) (gH E) (fun G12 => (gT G12 (c + 3)).1 = 4 ∧ vp_in (nI i) (gT G12 (c + 3)).2 ∧ gT G12 (gH E) = (1, 3) ∧ ∀ G13, G13 = sB G12 (c + 3) (va_up (gB G12 (c + 3)) (nI i).toNatClampNeg (some (gH E))) → Q G13) := by
    intro E i m hi hE hm hu hh hr hch Q kQ
    refine sp_newDevice (by omega) (by omega) (fun F f1 f2 f3 f4 f5 => ?_)
    have e3 := f5.2.2.1 (c + 3) (by omega) (fun z => z)
    have t3 : gT F (c + 3) = (4, 3) := e3.1.trans hr
    refine ⟨by rw [t3], by rw [t3]; exact n_in (show i < 3 from hi) (by decide), f1.1, ?_⟩
    rintro G13 rfl
    rw [n_cl (by omega)]
    rw [hE] at f1 f2 ⊢
    have eo : ∀ a, a ≠ c + 3 → eqAt F (sB F (c + 3) (va_up (gB F (c + 3)) i (some (c + m)))) a := fun a h => eqAt.sB h
    refine kQ _ (f1.eq (fun a q1 q2 => eo a (by omega))) (f2.keep (eo _ (by omega)) (eo _ (by omega)) (eo _ (by omega)) (eo _ (by omega))) (by show gH F = _; omega) (by show gU F = _; omega) ?_ (fun a q1 q2 => (f5.2.2.1 a q1 (fun z => z)).tr (eo a q2)) t3 ?_
    · exact cn_sB (hch.tr f5) (by omega)
    · rw [gB_sB, e3.2.2.2.2.2.1]
  refine ⟨by omega, by omega, ?_⟩
  rintro G11 rfl
  refine dev D 0 4 (by decide) D6 (by omega) (by omega) (by omega) D1 D8 _ (fun E E1 E2 E3 E4 E5 E6 E7 E8 => ?_)
  refine ⟨by omega, by omega, ?_⟩
  rintro G14 rfl
  refine dev E 1 8 (by decide) E3 (by omega) (by omega) (by omega) E7 E5 _ (fun F F1 F2 F3 F4 F5 F6 F7 F8 => ?_)
  refine ⟨by omega, by omega, ?_⟩
  rintro G17 rfl
  refine dev F 2 12 (by decide) F3 (by omega) (by omega) (by omega) F7 F5 _ (fun H H1 H2 H3 H4 H5 H6 H7 H8 => ?_)
  have oH : ∀ a, a < c + 3 → eqAt B H a := fun a q => ((oD a (by omega)).tr (E6 a (by omega) (by omega))).tr ((F6 a (by omega) (by omega)).tr (H6 a (by omega) (by omega)))
  have Hd1 : DT H (c + 4) := E1.eq (fun a q1 q2 => (F6 a (by omega) (by omega)).tr (H6 a (by omega) (by omega)))
  have Hd2 : DT H (c + 8) := F1.eq (fun a q1 q2 => H6 a (by omega) (by omega))
  have keepE : ∀ a, c + 4 ≤ a → a ≤ c + 7 → eqAt E H a := fun a q1 q2 => (F6 a (by omega) (by omega)).tr (H6 a (by omega) (by omega))
  have Hc1 := E2.keep (keepE _ (by omega) (by omega)) (keepE _ (by omega) (by omega)) (keepE _ (by omega) (by omega)) (keepE _ (by omega) (by omega))
  have keepF : ∀ a, c + 8 ≤ a → a ≤ c + 11 → eqAt F H a := fun a q1 q2 => H6 a (by omega) (by omega)
  have Hc2 := F2.keep (keepF _ (by omega) (by omega)) (keepF _ (by omega) (by omega)) (keepF _ (by omega) (by omega)) (keepF _ (by omega) (by omega))
  have HB : gB H (c + 3) = va_up (va_up (va_up (gB D (c + 3)) 0 (some (c + 4))) 1 (some (c + 8))) 2 (some (c + 12)) := by rw [H8, F8, E8]
  have Hk : gT H c = (1, 2) := (oH c (by omega)).1.trans B1
  have Hr4 : gR H 64 c = some (c + 1) := ((oH c (by omega)).2.2.2.1 _).trans B4
  have Hr5 : gR H 65 c = some (c + 2) := ((oH c (by omega)).2.2.2.1 _).trans B5
  have Ha1 : gT H (c + 1) = (2, 5) := ((oB (c + 1) (by omega) (by omega)).tr (oH (c + 1) (by omega))).1.trans A2
  have Ha2 : gA H (c + 1) = gA A (c + 1) := ((oB (c + 1) (by omega) (by omega)).tr (oH (c + 1) (by omega))).2.2.2.2.1
  have Ha3 : gT H (c + 2) = (2, 6) := (oH (c + 2) (by omega)).1.trans B2
  have Ha4 : gA H (c + 2) = fun _ => 0 := (oH (c + 2) (by omega)).2.2.2.2.1.trans B3
  refine ⟨Hk, ?_⟩
  rintro G20 rfl
  -- cache, queue, line, frame
  have oI : ∀ a, a ≠ c → eqAt H (sR H 66 c (some (c + 3))) a := fun a h => eqAt.sR h
  have I3 : gH (sR H 66 c (some (c + 3))) = c + 16 := H3
  refine ⟨by rw [I3]; omega, by show gU H + 2 ≤ _; omega, ?_⟩
  rintro G21 rfl
  refine sp_newCache (by rw [I3]; omega) (by show gU H + 194 ≤ _; omega) (fun J J1 J2 J3 J4 J5 => ?_)
  rw [I3] at J1 J2 J3 ⊢
  have oJ : ∀ a, a < c + 16 → a ≠ c → eqAt H J a := fun a h1 h2 => (oI a h2).tr (J5.2.2.1 a (by rw [I3]; exact h1) (fun z => z))
  have cJ : eqAt (sR H 66 c (some (c + 3))) J c := J5.2.2.1 c (by rw [I3]; omega) (fun z => z)
  have kJ : gT J c = (1, 2) := cJ.1.trans Hk
  refine ⟨kJ, ?_⟩
  rintro G23 rfl
  have K3 : gH (sR J 67 c (some (c + 16))) = c + 19 := J3
  have gU_J : gU J = gU G + 372 := by rw [J4]; show gU H + 194 = _; omega
  have chJ : ch G (sR J 67 c (some (c + 16))) (fun _ => False) := by
    refine cn_sR (ch.tr (cn_sR H5 (by omega)) J5) (by omega)
  refine ⟨by rw [K3]; omega, by show gU J + 7 ≤ _; omega, ?_⟩
  rintro G24 rfl
  refine sp_newQueue (by rw [K3]; omega) ((chJ.2.1 _ (by omega)).trans hxt) (by rw [K3]; omega) (by show gU J + 10 ≤ _; omega) (fun L L1 L2 L3 L4 L5 L6 => ?_)
  rw [K3] at L1 L2 L3 L4 ⊢
  have oL : ∀ a, a < c + 19 → a ≠ c → eqAt J L a := fun a h1 h2 => (eqAt.sR h2).tr (L6.2.2.1 a (by rw [K3]; exact h1) (fun z => z))
  have cL : eqAt (sR J 67 c (some (c + 16))) L c := L6.2.2.1 c (by rw [K3]; omega) (fun z => z)
  have kL : gT L c = (1, 2) := cL.1.trans kJ
  refine ⟨kL, ?_⟩
  rintro G26 rfl
  have M3 : gH (sR L 68 c (some (c + 19))) = c + 21 := L4
  have gU_L : gU L = gU G + 382 := by rw [L5]; show gU J + 10 = _; omega
  have chL : ch G (sR L 68 c (some (c + 19))) (fun _ => False) := cn_sR (chJ.tr L6) (by omega)
  refine ⟨by rw [M3]; omega, by show gU L + 2 ≤ _; omega, ?_⟩
  rintro G27 rfl
  refine sp_newLine (by rw [M3]; omega) ((chL.2.1 _ (by omega)).trans hxt) (by rw [M3]; omega) (by show gU L + 8 ≤ _; omega) (fun N N1 N2 N2' N3 N3' N4 N5 N6 => ?_)
  rw [M3] at N1 N2 N2' N3 N3' N4 ⊢
  have oN : ∀ a, a < c + 21 → a ≠ c → eqAt L N a := fun a h1 h2 => (eqAt.sR h2).tr (N6.2.2.1 a (by rw [M3]; exact h1) (fun z => z))
  have cN : eqAt (sR L 68 c (some (c + 19))) N c := N6.2.2.1 c (by rw [M3]; omega) (fun z => z)
  have kN : gT N c = (1, 2) := cN.1.trans kL
  refine ⟨kN, ?_⟩
  rintro G29 rfl
  have O3 : gH (sR N 69 c (some (c + 21))) = c + 24 := N4
  have gU_N : gU N = gU G + 390 := by rw [N5]; show gU L + 8 = _; omega
  have chN : ch G (sR N 69 c (some (c + 21))) (fun _ => False) := cn_sR (chL.tr N6) (by omega)
  refine ⟨by rw [O3]; omega, by show gU N + 2 ≤ _; omega, ?_⟩
  rintro G30 rfl
  refine sp_newFrame (by rw [O3]; omega) (by show gU N + 39 ≤ _; omega) (fun Q Q1 Q2 Q3 Q4 Q5 Q6 => ?_)
  rw [O3] at Q1 Q2 Q3 Q4 ⊢
  have oQ : ∀ a, a < c + 24 → a ≠ c → eqAt N Q a := fun a h1 h2 => (eqAt.sR h2).tr (Q6.2.2.1 a (by rw [O3]; exact h1) (fun z => z))
  have cQ : eqAt (sR N 69 c (some (c + 21))) Q c := Q6.2.2.1 c (by rw [O3]; omega) (fun z => z)
  have kQ : gT Q c = (1, 2) := cQ.1.trans kN
  refine ⟨kQ, ?_⟩
  rintro G32 rfl
  refine ⟨kQ, ?_⟩
  rintro G33 rfl
  refine ⟨kQ, ?_⟩
  rintro G34 rfl
  refine ⟨kQ, ?_⟩
  rintro G35 rfl
  refine ⟨kQ, ?_⟩
  rintro G36 rfl
  -- all of it
  have fR : ∀ f, gR (sI (sI (sI (sI (sR Q 70 c (some (c + 24))) 71 c 0) 72 c 0) 73 c 0) 74 c 0) f c = if f = 70 then some (c + 24) else gR Q f c := fun f => by
    show gR (sR Q 70 c (some (c + 24))) f c = _
    rw [gR_sR]
    by_cases e : f = 70
    · rw [if_pos ⟨e, rfl⟩, if_pos e]
    · rw [if_neg (fun z => e z.1), if_neg e]
  have rQ : ∀ f, gR Q f c = if f = 69 then some (c + 21) else gR N f c := fun f => by
    rw [cQ.2.2.2.1, gR_sR]
    by_cases e : f = 69
    · rw [if_pos ⟨e, rfl⟩, if_pos e]
    · rw [if_neg (fun z => e z.1), if_neg e]
  have rN : ∀ f, gR N f c = if f = 68 then some (c + 19) else gR L f c := fun f => by
    rw [cN.2.2.2.1, gR_sR]
    by_cases e : f = 68
    · rw [if_pos ⟨e, rfl⟩, if_pos e]
    · rw [if_neg (fun z => e z.1), if_neg e]
  have rL : ∀ f, gR L f c = if f = 67 then some (c + 16) else gR J f c := fun f => by
    rw [cL.2.2.2.1, gR_sR]
    by_cases e : f = 67
    · rw [if_pos ⟨e, rfl⟩, if_pos e]
    · rw [if_neg (fun z => e z.1), if_neg e]
  have rJ : ∀ f, gR J f c = if f = 66 then some (c + 3) else gR H f c := fun f => by
    rw [cJ.2.2.2.1, gR_sR]
    by_cases e : f = 66
    · rw [if_pos ⟨e, rfl⟩, if_pos e]
    · rw [if_neg (fun z => e z.1), if_neg e]
  have fo : ∀ a, a ≠ c → eqAt Q (sI (sI (sI (sI (sR Q 70 c (some (c + 24))) 71 c 0) 72 c 0) 73 c 0) 74 c 0) a := fun a h => (eqAt.sR h).tr ((eqAt.sI h).tr ((eqAt.sI h).tr ((eqAt.sI h).tr (eqAt.sI h))))
  have o16 : ∀ a, a < c + 16 → a ≠ c → eqAt H (sI (sI (sI (sI (sR Q 70 c (some (c + 24))) 71 c 0) 72 c 0) 73 c 0) 74 c 0) a := fun a h1 h2 => (oJ a h1 h2).tr ((oL a (by omega) h2).tr ((oN a (by omega) h2).tr ((oQ a (by omega) h2).tr (fo a h2))))
  have o19 : ∀ a, a < c + 19 → a ≠ c → eqAt J (sI (sI (sI (sI (sR Q 70 c (some (c + 24))) 71 c 0) 72 c 0) 73 c 0) 74 c 0) a := fun a h1 h2 => (oL a h1 h2).tr ((oN a (by omega) h2).tr ((oQ a (by omega) h2).tr (fo a h2)))
  have o21 : ∀ a, a < c + 21 → a ≠ c → eqAt L (sI (sI (sI (sI (sR Q 70 c (some (c + 24))) 71 c 0) 72 c 0) 73 c 0) 74 c 0) a := fun a h1 h2 => (oN a h1 h2).tr ((oQ a (by omega) h2).tr (fo a h2))
  have o24 : ∀ a, a < c + 24 → a ≠ c → eqAt N (sI (sI (sI (sI (sR Q 70 c (some (c + 24))) 71 c 0) 72 c 0) 73 c 0) 74 c 0) a := fun a h1 h2 => (oQ a h1 h2).tr (fo a h2)
  have bF : gB (sI (sI (sI (sI (sR Q 70 c (some (c + 24))) 71 c 0) 72 c 0) 73 c 0) 74 c 0) (c + 3) = gB H (c + 3) := (o16 (c + 3) (by omega) (by omega)).2.2.2.2.2.1
  have hF : gH (sI (sI (sI (sI (sR Q 70 c (some (c + 24))) 71 c 0) 72 c 0) 73 c 0) 74 c 0) = c + 26 := Q4
  refine k _ ⟨by rw [hF]; omega, kQ, ⟨?_, ?_, ?_, ?_, ?_, ?_, ?_⟩, ⟨(o16 _ (by omega) (by omega)).1.trans Ha1, (o16 _ (by omega) (by omega)).1.trans Ha3, (o16 _ (by omega) (by omega)).1.trans H7, ?_, ?_, ?_⟩, Hd1.eq (fun a q1 q2 => o16 a (by omega) (by omega)), Hd2.eq (fun a q1 q2 => o16 a (by omega) (by omega)), H1.eq (fun a q1 q2 => o16 a (by omega) (by omega)), J1.eq (fun a q1 q2 => o19 a (by omega) (by omega)), ⟨(fo _ (by omega)).1.trans Q1, ((fo _ (by omega)).2.2.2.1 _).trans Q2, (fo _ (by omega)).1.trans Q3⟩, (o21 _ (by omega) (by omega)).1.trans L1, (o24 _ (by omega) (by omega)).1.trans N1⟩ ⟨?_, ?_, ?_, fun i hi => ?_, fun i hi => ?_⟩ (fun d q1 q2 => ?_) (J2.keep (o19 _ (by omega) (by omega)) (o19 _ (by omega) (by omega))) (((o21 _ (by omega) (by omega)).2.2.2.1 _).trans L2) (al0 L3 (o21 _ (by omega) (by omega)) (o21 _ (by omega) hx') (by omega)) (((o24 _ (by omega) (by omega)).2.2.2.1 _).trans N2) (((o24 _ (by omega) (by omega)).2.2.2.1 _).trans N2') (al0 N3 (o24 _ (by omega) (by omega)) (o24 _ (by omega) hx') (by omega)) (al0 N3' (o24 _ (by omega) (by omega)) (o24 _ (by omega) hx') (by omega)) ?_ hF ?_ ?_
  · rw [fR, if_neg (by decide), rQ, if_neg (by decide), rN, if_neg (by decide), rL, if_neg (by decide), rJ, if_neg (by decide)]; exact Hr4
  · rw [fR, if_neg (by decide), rQ, if_neg (by decide), rN, if_neg (by decide), rL, if_neg (by decide), rJ, if_neg (by decide)]; exact Hr5
  · rw [fR, if_neg (by decide), rQ, if_neg (by decide), rN, if_neg (by decide), rL, if_neg (by decide), rJ, if_pos rfl]
  · rw [fR, if_neg (by decide), rQ, if_neg (by decide), rN, if_neg (by decide), rL, if_pos rfl]
  · rw [fR, if_neg (by decide), rQ, if_neg (by decide), rN, if_pos rfl]
  · rw [fR, if_neg (by decide), rQ, if_pos rfl]
  · rw [fR, if_pos rfl]
  · rw [bF, HB]; rfl
  · rw [bF, HB]; rfl
  · rw [bF, HB]; rfl
  · simp [gI_sI]; rfl
  · simp [gI_sI]; rfl
  · simp [gI_sI]; rfl
  · rw [(o16 (c + 1) (by omega) (by omega)).2.2.2.2.1, Ha2]; exact A3 i hi
  · rw [(o16 (c + 2) (by omega) (by omega)).2.2.2.2.1, Ha4]
    rcases (show i = 0 ∨ i = 1 ∨ i = 2 ∨ i = 3 ∨ i = 4 ∨ i = 5 by omega) with e | e | e | e | e | e <;> subst e <;> rfl
  · have kd : ∀ x, c + 4 * d ≤ x → x ≤ c + 4 * d + 3 → eqAt H (sI (sI (sI (sI (sR Q 70 c (some (c + 24))) 71 c 0) 72 c 0) 73 c 0) 74 c 0) x := fun x h1 h2 => o16 x (by omega) (by omega)
    rcases (show d = 1 ∨ d = 2 ∨ d = 3 by omega) with e | e | e <;> subst e
    · exact Hc1.keep (kd _ (by omega) (by omega)) (kd _ (by omega) (by omega)) (kd _ (by omega) (by omega)) (kd _ (by omega) (by omega))
    · exact Hc2.keep (kd _ (by omega) (by omega)) (kd _ (by omega) (by omega)) (kd _ (by omega) (by omega)) (kd _ (by omega) (by omega))
    · exact H2.keep (kd _ (by omega) (by omega)) (kd _ (by omega) (by omega)) (kd _ (by omega) (by omega)) (kd _ (by omega) (by omega))
  · rw [gI_sI, if_pos ⟨rfl, rfl⟩]
  · show gU Q = _
    rw [Q5]; show gU N + 39 = _; omega
  · refine cn_sI (cn_sI (cn_sI (cn_sI (cn_sR (chN.tr Q6) ?_) ?_) ?_) ?_) ?_
    all_goals omega
end NEWCORE
