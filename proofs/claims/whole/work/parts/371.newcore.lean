/-! ===== a new Core ===== -/
theorem DT.eq {G G' : Gt} {d : Nat} (h : DT G d) (e : ∀ a, d ≤ a → a ≤ d + 3 → eqAt G G' a) : DT G' d := by
  have e0 := e d (by omega) (by omega)
  unfold DT
  rw [e0.1, e0.2.2.2.1, e0.2.2.2.1, e0.2.2.2.1, (e (d + 1) (by omega) (by omega)).1, (e (d + 2) (by omega) (by omega)).1, (e (d + 3) (by omega) (by omega)).1]
  exact h
theorem CT.eq {G G' : Gt} {d : Nat} (h : CT G d) (e : ∀ a, d ≤ a → a ≤ d + 2 → eqAt G G' a) : CT G' d := by
  have e0 := e d (by omega) (by omega)
  unfold CT
  rw [e0.1, e0.2.2.2.1, e0.2.2.2.1, (e (d + 1) (by omega) (by omega)).1, (e (d + 2) (by omega) (by omega)).1]
  exact h
theorem gT_sR {G : Gt} {f a b : Nat} {x : Option Nat} : gT (sR G f a x) b = gT G b := rfl
theorem gT_sI {G : Gt} {f a b : Nat} {x : Int32} : gT (sI G f a x) b = gT G b := rfl
theorem gH_sR {G : Gt} {f a : Nat} {x : Option Nat} : gH (sR G f a x) = gH G := rfl
theorem gU_sR {G : Gt} {f a : Nat} {x : Option Nat} : gU (sR G f a x) = gU G := rfl
theorem gH_sI {G : Gt} {f a : Nat} {x : Int32} : gH (sI G f a x) = gH G := rfl
theorem gU_sI {G : Gt} {f a : Nat} {x : Int32} : gU (sI G f a x) = gU G := rfl
theorem gR_sI {G : Gt} {f f' a b : Nat} {x : Int32} : gR (sI G f a x) f' b = gR G f' b := rfl
theorem gH_nA {G : Gt} {n : Nat} : gH (nA G n) = gH G + 1 := rfl
theorem gU_nA {G : Gt} {n : Nat} : gU (nA G n) = gU G + n := rfl
theorem gH_sB {G : Gt} {a : Nat} {g : Nat → Option Nat} : gH (sB G a g) = gH G := rfl
theorem gU_sB {G : Gt} {a : Nat} {g : Nat → Option Nat} : gU (sB G a g) = gU G := rfl
theorem gT_sB {G : Gt} {a b : Nat} {g : Nat → Option Nat} : gT (sB G a g) b = gT G b := rfl
theorem gA_sR {G : Gt} {f a b : Nat} {x : Option Nat} : gA (sR G f a x) b = gA G b := rfl
theorem al0 {X : Xt} {G G' : Gt} {a : Nat} (h : AL X G a (xde X) 0 []) (ea : eqAt G G' a) (ex : eqAt G G' (xde X)) (hh : gH G ≤ gH G') : AL X G' a (xde X) 0 [] := by
  obtain ⟨h1, h2, h3, h4, h5, h6, h7, h8, h9⟩ := h
  refine ⟨ea.1.trans h1, by omega, by omega, (ea.2.2.2.1 _).trans h4, (ea.2.1 _).trans h5, h6, h7, fun y hy => absurd hy (by simp), Or.inl ⟨rfl, rfl, ?_⟩⟩
  rcases h9 with ⟨_, _, q⟩ | ⟨q, _⟩
  · exact ex.1.trans q
  · omega
/-- the first state -/
def n0 (j : Nat) : Nat := if j = 1 then 50 else if j = 2 then 30 else if j = 3 then 1 else if j = 5 then 1 else 0
def S0 : St := mkS n0 (fun _ _ => 0) (fun _ _ => 0) (fun _ => 65535) (fun _ => 5) (fun _ => []) (fun _ _ => 0) (fun _ => 0) (fun _ _ => 0) (fun _ => 0) (fun _ => 0) (fun _ => 0) []
theorem S0_wf : WF S0 := by
  refine ⟨⟨by decide, by decide, by decide, by decide, by decide, by decide, by decide, by decide⟩, fun d => ⟨fun _ => (show (0 : Nat) < 65536 by decide), fun _ => (show (0 : Nat) ≤ 1 by decide), (show (65535 : Nat) < 65536 by decide), (show (5 : Nat) ≤ 1000 by decide), (show (0 : Nat) ≤ 6 by decide), fun p hp => by cases hp⟩, ⟨fun i hi => absurd (show i < 0 from hi) (by omega), fun i _ => ⟨rfl, rfl, rfl⟩⟩, fun p => ⟨(show (0 : Nat) ≤ 1 by decide), fun e => absurd (show (0 : Nat) = 1 from e) (by decide)⟩, fun r hr => by cases hr⟩
section NEWCORE
variable {X : Xt} {G : Gt}
/-- a reference written into the object at c -/
theorem nc_f {J K : Gt} {f c : Nat} {x : Option Nat} (e : K = sR J f c x) : gH K = gH J ∧ gU K = gU J ∧ (∀ a, gT K a = gT J a) ∧ (∀ a, a ≠ c → eqAt J K a) ∧ (∀ f', gR K f' c = if f' = f then x else gR J f' c) ∧ ∀ G, ch G J (fun _ => False) → gH G ≤ c → ch G K (fun _ => False) := by
  subst e
  refine ⟨rfl, rfl, fun _ => rfl, fun a h => eqAt.sR h, fun f' => ?_, fun G h1 h2 => cn_sR h1 h2⟩
  rw [gR_sR]
  by_cases e : f' = f
  · rw [if_pos ⟨e, rfl⟩, if_pos e]
  · rw [if_neg (fun z => e z.1), if_neg e]
theorem nc_i {J K : Gt} {f c : Nat} {x : Int32} (e : K = sI J f c x) : gH K = gH J ∧ gU K = gU J ∧ (∀ a, gT K a = gT J a) ∧ (∀ a, a ≠ c → eqAt J K a) ∧ (∀ f', gR K f' c = gR J f' c) ∧ (∀ G, ch G J (fun _ => False) → gH G ≤ c → ch G K (fun _ => False)) ∧ ∀ f', gI K f' c = if f' = f then x else gI J f' c := by
  subst e
  refine ⟨rfl, rfl, fun _ => rfl, fun a h => eqAt.sI h, fun f' => rfl, fun G h1 h2 => cn_sI h1 h2, fun f' => ?_⟩
  rw [gI_sI]
  by_cases e : f' = f
  · rw [if_pos ⟨e, rfl⟩, if_pos e]
  · rw [if_neg (fun z => e z.1), if_neg e]
theorem nc_tail {c : Nat} {H : Gt} {Pr : Gt → Prop} (hc : gH G ≤ c) (hx : xde X < gH G) (hxt : gT G (xde X) = (6, 0)) (Hk : gT H c = (1, 2)) (H3 : gH H = c + 16) (H5 : ch G H (fun _ => False)) (r1 : c + 26 ≤ xC X) (r2 : gU H + 251 ≤ xS X)
    (k : ∀ F, gT F c = (1, 2) → (gR F 64 c = gR H 64 c ∧ gR F 65 c = gR H 65 c ∧ gR F 66 c = some (c + 3) ∧ gR F 67 c = some (c + 16) ∧ gR F 68 c = some (c + 19) ∧ gR F 69 c = some (c + 21) ∧ gR F 70 c = some (c + 24)) → (∀ a, a < c + 16 → a ≠ c → eqAt H F a) → CT F (c + 16) → CC F (c + 16) (fun _ => 0) (fun _ => 0) (fun _ => 0) 0 → (gT F (c + 19) = (1, 7) ∧ gR F 224 (c + 19) = some (c + 19 + 1) ∧ AL X F (c + 19 + 1) (xde X) 0 []) → (gT F (c + 21) = (1, 5) ∧ gR F 160 (c + 21) = some (c + 21 + 1) ∧ gR F 161 (c + 21) = some (c + 21 + 2) ∧ AL X F (c + 21 + 1) (xde X) 0 [] ∧ AL X F (c + 21 + 2) (xde X) 0 []) → (gT F (c + 24) = (1, 4) ∧ gR F 128 (c + 24) = some (c + 25) ∧ gT F (c + 25) = (2, 37)) → (gI F 71 c = 0 ∧ gI F 72 c = 0 ∧ gI F 73 c = 0 ∧ gI F 74 c = 0) → gH F = c + 26 → gU F = gU H + 251 → ch G F (fun _ => False) → Pr F) : gT H c = (1, 2) ∧ ∀ G20, G20 = sR H 66 c (some (c + 3)) → gH G20 + 1 ≤ xC X ∧ gU G20 + 2 ≤ xS X ∧ ∀ G21, G21 = nO G20 1 2 → wX0_init X G21 (gH G20) (fun G22 => gT G22 c = (1, 2) ∧ ∀ G23, G23 = sR G22 67 c (some (gH G20)) → gH G23 + 1 ≤ xC X ∧ gU G23 + 7 ≤ xS X ∧ ∀ G24, G24 = nO G23 7 7 → wX6_init X G24 (gH G23) (fun G25 => gT G25 c = (1, 2) ∧ ∀ G26, G26 = sR G25 68 c (some (gH G23)) → gH G26 + 1 ≤ xC X ∧ gU G26 + 2 ≤ xS X ∧ ∀ G27, G27 = nO G26 5 2 → wX4_init X G27 (gH G26) (fun G28 => gT G28 c = (1, 2) ∧ ∀ G29, G29 = sR G28 69 c (some (gH G26)) → gH G29 + 1 ≤ xC X ∧ gU G29 + 2 ≤ xS X ∧ ∀ G30, G30 = nO G29 4 2 → wX3_init X G30 (gH G29) (fun G31 => gT G31 c = (1, 2) ∧ ∀ G32, G32 = sR G31 70 c (some (gH G29)) → gT G32 c = (1, 2) ∧ ∀ G33, G33 = sI G32 71 c 0 → gT G33 c = (1, 2) ∧ ∀ G34, G34 = sI G33 72 c 0 → gT G34 c = (1, 2) ∧ ∀ G35, G35 = sI G34 73 c 0 → gT G35 c = (1, 2) ∧ ∀ G36, G36 = sI G35 74 c 0 → Pr G36)))) := by
  have hx' : xde X ≠ c := by omega
  refine ⟨Hk, fun I eI => ?_⟩
  obtain ⟨I1, I2, I3, I4, I5, I6⟩ := nc_f eI
  have I7 := I6 G H5 hc
  clear eI I6
  rw [H3] at I1
  refine ⟨by omega, by omega, ?_⟩
  rintro G21 rfl
  refine sp_newCache (by omega) (by omega) (fun J J1 J2 J3 J4 J5 => ?_)
  rw [I1] at J1 J2 J3 ⊢
  have oJ : ∀ a, a < c + 16 → eqAt I J a := fun a h1 => J5.2.2.1 a (by omega) (fun z => z)
  have kJ : gT J c = (1, 2) := (oJ c (by omega)).1.trans ((I3 c).trans Hk)
  have rJ : ∀ f, gR J f c = gR I f c := fun f => (oJ c (by omega)).2.2.2.1 f
  have cJ := I7.tr J5
  refine ⟨kJ, fun K eK => ?_⟩
  obtain ⟨K1, K2, K3, K4, K5, K6⟩ := nc_f eK
  have K7 := K6 G cJ hc
  clear eK K6 J5
  rw [J3] at K1
  rw [J4, I2] at K2
  refine ⟨by omega, by omega, ?_⟩
  rintro G24 rfl
  refine sp_newQueue (by omega) ((K7.2.1 _ (by omega)).trans hxt) (by omega) (by omega) (fun L L1 L2 L3 L4 L5 L6 => ?_)
  rw [K1] at L1 L2 L3 L4 ⊢
  have oL : ∀ a, a < c + 19 → eqAt K L a := fun a h1 => L6.2.2.1 a (by omega) (fun z => z)
  have kL : gT L c = (1, 2) := (oL c (by omega)).1.trans ((K3 c).trans kJ)
  have rL : ∀ f, gR L f c = gR K f c := fun f => (oL c (by omega)).2.2.2.1 f
  have cL := K7.tr L6
  refine ⟨kL, fun M eM => ?_⟩
  obtain ⟨M1, M2, M3, M4, M5, M6⟩ := nc_f eM
  have M7 := M6 G cL hc
  clear eM M6 L6
  rw [L4] at M1
  rw [L5, K2] at M2
  refine ⟨by omega, by omega, ?_⟩
  rintro G27 rfl
  refine sp_newLine (by omega) ((M7.2.1 _ (by omega)).trans hxt) (by omega) (by omega) (fun N N1 N2 N2' N3 N3' N4 N5 N6 => ?_)
  rw [M1] at N1 N2 N2' N3 N3' N4 ⊢
  have oN : ∀ a, a < c + 21 → eqAt M N a := fun a h1 => N6.2.2.1 a (by omega) (fun z => z)
  have kN : gT N c = (1, 2) := (oN c (by omega)).1.trans ((M3 c).trans kL)
  have rN : ∀ f, gR N f c = gR M f c := fun f => (oN c (by omega)).2.2.2.1 f
  have cN := M7.tr N6
  refine ⟨kN, fun O eO => ?_⟩
  obtain ⟨O1, O2, O3, O4, O5, O6⟩ := nc_f eO
  have O7 := O6 G cN hc
  clear eO O6 N6
  rw [N4] at O1
  rw [N5, M2] at O2
  refine ⟨by omega, by omega, ?_⟩
  rintro G30 rfl
  refine sp_newFrame (by omega) (by omega) (fun Q Q1 Q2 Q3 Q4 Q5 Q6 => ?_)
  rw [O1] at Q1 Q2 Q3 Q4 ⊢
  have oQ : ∀ a, a < c + 24 → eqAt O Q a := fun a h1 => Q6.2.2.1 a (by omega) (fun z => z)
  have kQ : gT Q c = (1, 2) := (oQ c (by omega)).1.trans ((O3 c).trans kN)
  have rQ : ∀ f, gR Q f c = gR O f c := fun f => (oQ c (by omega)).2.2.2.1 f
  have cQ := O7.tr Q6
  refine ⟨kQ, fun P eP => ?_⟩
  obtain ⟨P1, P2, P3, P4, P5, P6⟩ := nc_f eP
  have P7 := P6 G cQ hc
  clear eP P6 Q6
  refine ⟨(P3 c).trans kQ, fun A eA => ?_⟩
  obtain ⟨A1, A2, A3, A4, A5, A6, A7⟩ := nc_i eA
  have A8 := A6 G P7 hc
  clear eA A6
  refine ⟨(A3 c).trans ((P3 c).trans kQ), fun B eB => ?_⟩
  obtain ⟨B1, B2, B3, B4, B5, B6, B7⟩ := nc_i eB
  have B8 := B6 G A8 hc
  clear eB B6
  refine ⟨(B3 c).trans ((A3 c).trans ((P3 c).trans kQ)), fun C eC => ?_⟩
  obtain ⟨C1, C2, C3, C4, C5, C6, C7⟩ := nc_i eC
  have C8 := C6 G B8 hc
  clear eC C6
  refine ⟨(C3 c).trans ((B3 c).trans ((A3 c).trans ((P3 c).trans kQ))), fun D eD => ?_⟩
  obtain ⟨D1, D2, D3, D4, D5, D6, D7⟩ := nc_i eD
  have D8 := D6 G C8 hc
  clear eD D6
  have hD : gH D = c + 26 := by rw [D1, C1, B1, A1, P1, Q4]
  have fo : ∀ a, a ≠ c → eqAt Q D a := fun a h => (P4 a h).tr ((A4 a h).tr ((B4 a h).tr ((C4 a h).tr (D4 a h))))
  have o24 : ∀ a, a < c + 24 → a ≠ c → eqAt N D a := fun a h1 h2 => (O4 a h2).tr ((oQ a h1).tr (fo a h2))
  have o21 : ∀ a, a < c + 21 → a ≠ c → eqAt L D a := fun a h1 h2 => (M4 a h2).tr ((oN a h1).tr (o24 a (by omega) h2))
  have o19 : ∀ a, a < c + 19 → a ≠ c → eqAt J D a := fun a h1 h2 => (K4 a h2).tr ((oL a h1).tr (o21 a (by omega) h2))
  have o16 : ∀ a, a < c + 16 → a ≠ c → eqAt H D a := fun a h1 h2 => (I4 a h2).tr ((oJ a h1).tr (o19 a (by omega) h2))
  have rD : ∀ f, gR D f c = gR P f c := fun f => by rw [D5, C5, B5, A5]
  refine k D ((D3 c).trans ((C3 c).trans ((B3 c).trans ((A3 c).trans ((P3 c).trans kQ))))) ⟨?_, ?_, ?_, ?_, ?_, ?_, ?_⟩ o16 (J1.eq (fun a q1 q2 => o19 a (by omega) (by omega))) (J2.keep (o19 _ (by omega) (by omega)) (o19 _ (by omega) (by omega))) ⟨(o21 _ (by omega) (by omega)).1.trans L1, ((o21 _ (by omega) (by omega)).2.2.2.1 _).trans L2, al0 L3 (o21 _ (by omega) (by omega)) (o21 _ (by omega) hx') (by omega)⟩ ⟨(o24 _ (by omega) (by omega)).1.trans N1, ((o24 _ (by omega) (by omega)).2.2.2.1 _).trans N2, ((o24 _ (by omega) (by omega)).2.2.2.1 _).trans N2', al0 N3 (o24 _ (by omega) (by omega)) (o24 _ (by omega) hx') (by omega), al0 N3' (o24 _ (by omega) (by omega)) (o24 _ (by omega) hx') (by omega)⟩ ⟨(fo _ (by omega)).1.trans Q1, ((fo _ (by omega)).2.2.2.1 _).trans Q2, (fo _ (by omega)).1.trans Q3⟩ ⟨?_, ?_, ?_, ?_⟩ hD ?_ D8
  · rw [rD, P5, if_neg (by decide), rQ, O5, if_neg (by decide), rN, M5, if_neg (by decide), rL, K5, if_neg (by decide), rJ, I5, if_neg (by decide)]
  · rw [rD, P5, if_neg (by decide), rQ, O5, if_neg (by decide), rN, M5, if_neg (by decide), rL, K5, if_neg (by decide), rJ, I5, if_neg (by decide)]
  · rw [rD, P5, if_neg (by decide), rQ, O5, if_neg (by decide), rN, M5, if_neg (by decide), rL, K5, if_neg (by decide), rJ, I5, if_pos rfl]
  · rw [rD, P5, if_neg (by decide), rQ, O5, if_neg (by decide), rN, M5, if_neg (by decide), rL, K5, if_pos rfl]
  · rw [rD, P5, if_neg (by decide), rQ, O5, if_neg (by decide), rN, M5, if_pos rfl]
  · rw [rD, P5, if_neg (by decide), rQ, O5, if_pos rfl]
  · rw [rD, P5, if_pos rfl]
  · rw [D7, if_neg (by decide), C7, if_neg (by decide), B7, if_neg (by decide), A7, if_pos rfl]
  · rw [D7, if_neg (by decide), C7, if_neg (by decide), B7, if_pos rfl]
  · rw [D7, if_neg (by decide), C7, if_pos rfl]
  · rw [D7, if_pos rfl]
  · rw [D2, C2, B2, A2, P2, Q5]; omega
set_option maxHeartbeats 2000000 in
theorem sp_newCore {Pr : Gt → Prop} (hx : xde X < gH G) (hxt : gT G (xde X) = (6, 0)) (r1 : gH G + 26 ≤ xC X) (r2 : gU G + 429 ≤ xS X)
    (k : ∀ G', KT G' (gH G) → KN G' (gH G) n0 → KD G' (gH G) S0 → CC G' (gH G + 16) (fun _ => 0) (fun _ => 0) (fun _ => 0) 0 → gR G' 224 (gH G + 19) = some (gH G + 19 + 1) → AL X G' (gH G + 19 + 1) (xde X) 0 [] → gR G' 160 (gH G + 21) = some (gH G + 21 + 1) → gR G' 161 (gH G + 21) = some (gH G + 21 + 2) → AL X G' (gH G + 21 + 1) (xde X) 0 [] → AL X G' (gH G + 21 + 2) (xde X) 0 [] → gI G' 74 (gH G) = 0 → gH G' = gH G + 26 → gU G' = gU G + 429 → ch G G' (fun _ => False) → Pr G') : wX1_init X (nO G 2 11) (gH G) Pr := by
  generalize hc : gH G = c at *
  have hx' : xde X ≠ c := by omega
  refine ⟨by show gH G + 1 + 1 ≤ _; omega, by show gU G + 11 + 5 ≤ _; omega, ?_⟩
  rintro G1 rfl
  have h1 : gH (nO G 2 11) = c + 1 := by show gH G + 1 = _; omega
  rw [h1]
  have s0 : gT (nA (nO G 2 11) 5) (c + 1) = (2, 5) := by rw [← h1]; exact nA_t
  refine ⟨by rw [s0], by rw [s0]; exact n_in (i := 0) (by decide) (by decide), ?_⟩
  rintro G2 rfl
  refine ⟨by show (gT (nA (nO G 2 11) 5) (c + 1)).1 = 2; rw [s0], by show vp_in 1 (gT (nA (nO G 2 11) 5) (c + 1)).2; rw [s0]; exact n_in (i := 1) (by decide) (by decide), ?_⟩
  rintro G3 rfl
  refine ⟨by show (gT (nA (nO G 2 11) 5) (c + 1)).1 = 2; rw [s0], by show vp_in 2 (gT (nA (nO G 2 11) 5) (c + 1)).2; rw [s0]; exact n_in (i := 2) (by decide) (by decide), ?_⟩
  rintro G4 rfl
  refine ⟨by show (gT (nA (nO G 2 11) 5) (c + 1)).1 = 2; rw [s0], by show vp_in 3 (gT (nA (nO G 2 11) 5) (c + 1)).2; rw [s0]; exact n_in (i := 3) (by decide) (by decide), ?_⟩
  rintro G5 rfl
  refine ⟨by show (gT (nA (nO G 2 11) 5) (c + 1)).1 = 2; rw [s0], by show vp_in 4 (gT (nA (nO G 2 11) 5) (c + 1)).2; rw [s0]; exact n_in (i := 4) (by decide) (by decide), ?_⟩
  rintro G6 rfl
  have kc0 : gT (nA (nO G 2 11) 5) c = (1, 2) := by
    rw [(nA_o (g := nO G 2 11) (n := 5) (show c ≠ gH (nO G 2 11) by omega)).1, ← hc]; exact nO_t
  refine ⟨kc0, ?_⟩
  rintro G7 rfl
  -- behind the settings
  generalize hA : sR (sA (sA (sA (sA (sA (nA (nO G 2 11) 5) (c + 1) _) (c + 1) _) (c + 1) _) (c + 1) _) (c + 1) _) 64 c (some (c + 1)) = A
  have A1 : gT A c = (1, 2) := by rw [← hA]; exact kc0
  have A2 : gT A (c + 1) = (2, 5) := by rw [← hA]; exact s0
  have A3 : ∀ i, i < 5 → gA A (c + 1) i = nI (n0 (1 + i)) := by
    intro i hi
    rw [← hA]
    simp only [gA_sR, gA_sA', if_true]
    rcases (show i = 0 ∨ i = 1 ∨ i = 2 ∨ i = 3 ∨ i = 4 by omega) with e | e | e | e | e <;> subst e <;> rfl
  have A4 : gR A 64 c = some (c + 1) := by rw [← hA, gR_sR, if_pos ⟨rfl, rfl⟩]
  have A5 : gH A = c + 2 := by rw [← hA]; show gH G + 1 + 1 = _; omega
  have A6 : gU A = gU G + 16 := by rw [← hA]; show gU G + 11 + 5 = _; omega
  have A7 : ch G A (fun _ => False) := by
    rw [← hA]
    exact cn_sR (cn_sA (cn_sA (cn_sA (cn_sA (cn_sA (ch.nO.tr ch.nA) (by omega)) (by omega)) (by omega)) (by omega)) (by omega)) (by omega)
  have A8 : gT A (xde X) = (6, 0) := (A7.2.1 _ (by omega)).trans hxt
  clear hA
  refine ⟨by omega, by omega, ?_⟩
  rintro G8 rfl
  have qB : ∀ {a : Nat}, a < gH A → eqAt A (nA A 6) a := fun h => nA_o (by omega)
  refine ⟨by rw [(qB (by omega)).1]; exact A1, ?_⟩
  rintro G9 rfl
  rw [A5]
  generalize hB : sR (nA A 6) 65 c (some (c + 2)) = B
  have oB : ∀ a, a < gH A → a ≠ c → eqAt A B a := fun a h1 h2 => by rw [← hB]; exact (qB h1).tr (eqAt.sR h2)
  have B1 : gT B c = (1, 2) := by rw [← hB, gT_sR, (qB (a := c) (by omega)).1]; exact A1
  have B2 : gT B (c + 2) = (2, 6) := by rw [← hB, gT_sR, ← A5]; exact nA_t
  have B3 : gA B (c + 2) = fun _ => 0 := by rw [← hB, gA_sR, ← A5]; exact nA_a (n := 6)
  have B4 : gR B 64 c = some (c + 1) := by rw [← hB, gR_sR, if_neg (fun z => absurd z.1 (by decide)), (qB (a := c) (by omega)).2.2.2.1]; exact A4
  have B5 : gR B 65 c = some (c + 2) := by rw [← hB, gR_sR, if_pos ⟨rfl, rfl⟩]
  have B6 : gH B = c + 3 := by rw [← hB, gH_sR, gH_nA]; omega
  have B7 : gU B = gU G + 22 := by rw [← hB, gU_sR, gU_nA]; omega
  have B8 : ch G B (fun _ => False) := by rw [← hB]; exact cn_sR (A7.tr ch.nA) (by omega)
  clear hB
  refine ⟨by omega, by omega, ?_⟩
  rintro G10 rfl
  generalize hD : nB B 4 3 = D
  have oD : ∀ a, a < gH B → eqAt B D a := fun a h1 => by rw [← hD]; exact eqAt.nB (by omega)
  have D1 : gT D (c + 3) = (4, 3) := by rw [← hD, ← B6]; exact va_up_self _ _ _
  have D6 : gH D = c + 4 := by rw [← hD]; show gH B + 1 = _; omega
  have D7 : gU D = gU G + 25 := by rw [← hD]; show gU B + 3 = _; omega
  have D8 : ch G D (fun _ => False) := by rw [← hD]; exact B8.tr ch.nB
  clear hD
  rw [B6]
  -- the devices
  have dev : ∀ (E : Gt) (i : Nat) (m : Nat), i < 3 → gH E = c + m → 4 ≤ m → gU E + 51 ≤ xS X → gH E + 4 ≤ xC X → gT E (c + 3) = (4, 3) → ch G E (fun _ => False) → ∀ (Q : Gt → Prop), (∀ F, DT F (c + m) → DC F (c + m) (fun _ => 0) (fun _ => 0) 65535 5 [] → gH F = c + (m + 4) → gU F = gU E + 51 → ch G F (fun _ => False) → (∀ a, a < gH E → a ≠ c + 3 → eqAt E F a) → gT F (c + 3) = (4, 3) → gB F (c + 3) = va_up (gB E (c + 3)) i (some (c + m)) → Q F) → wX2_init X (nO E 3 7) (gH E) (fun G12 => (gT G12 (c + 3)).1 = 4 ∧ vp_in (nI i) (gT G12 (c + 3)).2 ∧ gT G12 (gH E) = (1, 3) ∧ ∀ G13, G13 = sB G12 (c + 3) (va_up (gB G12 (c + 3)) (nI i).toNatClampNeg (some (gH E))) → Q G13) := by
    intro E i m hi hE hm hu hh hr hch Q kQ
    refine sp_newDevice (by omega) (by omega) (fun F f1 f2 f3 f4 f5 => ?_)
    have e3 := f5.2.2.1 (c + 3) (by omega) (fun z => z)
    have t3 : gT F (c + 3) = (4, 3) := e3.1.trans hr
    refine ⟨by rw [t3], by rw [t3]; exact n_in (show i < 3 from hi) (by decide), f1.1, ?_⟩
    rintro G13 rfl
    rw [n_cl (by omega)]
    rw [hE] at f1 f2 ⊢
    have eo : ∀ a, a ≠ c + 3 → eqAt F (sB F (c + 3) (va_up (gB F (c + 3)) i (some (c + m)))) a := fun a h => eqAt.sB h
    refine kQ _ (f1.eq (fun a q1 q2 => eo a (by omega))) (f2.keep (eo _ (by omega)) (eo _ (by omega)) (eo _ (by omega)) (eo _ (by omega))) (by rw [gH_sB]; omega) (by rw [gU_sB]; omega) ?_ (fun a q1 q2 => (f5.2.2.1 a q1 (fun z => z)).tr (eo a q2)) (gT_sB.trans t3) ?_
    · exact cn_sB (hch.tr f5) (by omega)
    · rw [gB_sB, e3.2.2.2.2.2.1]
  refine ⟨by omega, by omega, ?_⟩
  rintro G11 rfl
  refine dev D 0 4 (by decide) D6 (by omega) (by omega) (by omega) D1 D8 _ (fun E E1 E2 E3 E4 E5 E6 E7 E8 => ?_)
  refine ⟨by omega, by omega, ?_⟩
  rintro G14 rfl
  refine dev E 1 8 (by decide) E3 (by omega) (by omega) (by omega) E7 E5 _ (fun F F1 F2 F3 F4 F5 F6 F7 F8 => ?_)
  refine ⟨by omega, by omega, ?_⟩
  rintro G17 rfl
  refine dev F 2 12 (by decide) F3 (by omega) (by omega) (by omega) F7 F5 _ (fun H H1 H2 H3 H4 H5 H6 H7 H8 => ?_)
  have oH : ∀ a, a < c + 3 → eqAt B H a := fun a q => ((oD a (by omega)).tr (E6 a (by omega) (by omega))).tr ((F6 a (by omega) (by omega)).tr (H6 a (by omega) (by omega)))
  have Hd1 : DT H (c + 4) := E1.eq (fun a q1 q2 => (F6 a (by omega) (by omega)).tr (H6 a (by omega) (by omega)))
  have Hd2 : DT H (c + 8) := F1.eq (fun a q1 q2 => H6 a (by omega) (by omega))
  have keepE : ∀ a, c + 4 ≤ a → a ≤ c + 7 → eqAt E H a := fun a q1 q2 => (F6 a (by omega) (by omega)).tr (H6 a (by omega) (by omega))
  have Hc1 := E2.keep (keepE _ (by omega) (by omega)) (keepE _ (by omega) (by omega)) (keepE _ (by omega) (by omega)) (keepE _ (by omega) (by omega))
  have keepF : ∀ a, c + 8 ≤ a → a ≤ c + 11 → eqAt F H a := fun a q1 q2 => H6 a (by omega) (by omega)
  have Hc2 := F2.keep (keepF _ (by omega) (by omega)) (keepF _ (by omega) (by omega)) (keepF _ (by omega) (by omega)) (keepF _ (by omega) (by omega))
  have HB : gB H (c + 3) = va_up (va_up (va_up (gB D (c + 3)) 0 (some (c + 4))) 1 (some (c + 8))) 2 (some (c + 12)) := by rw [H8, F8, E8]
  have Hk : gT H c = (1, 2) := (oH c (by omega)).1.trans B1
  have Hr4 : gR H 64 c = some (c + 1) := ((oH c (by omega)).2.2.2.1 _).trans B4
  have Hr5 : gR H 65 c = some (c + 2) := ((oH c (by omega)).2.2.2.1 _).trans B5
  have Ha1 : gT H (c + 1) = (2, 5) := ((oB (c + 1) (by omega) (by omega)).tr (oH (c + 1) (by omega))).1.trans A2
  have Ha2 : gA H (c + 1) = gA A (c + 1) := ((oB (c + 1) (by omega) (by omega)).tr (oH (c + 1) (by omega))).2.2.2.2.1
  have Ha3 : gT H (c + 2) = (2, 6) := (oH (c + 2) (by omega)).1.trans B2
  have Ha4 : gA H (c + 2) = fun _ => 0 := (oH (c + 2) (by omega)).2.2.2.2.1.trans B3
  have hU : gU H = gU G + 178 := by omega
  clear oB oD dev keepE keepF oH E6 F6 H6 E4 F4 E3 F3 D6 D7 B6 B7 A5 A6
  refine nc_tail (G := G) (by omega) (by omega) hxt Hk H3 H5 (by omega) (by omega) (fun F k1 k2 k3 k4 k5 k6 k7 k8 k9 k10 k11 k12 => ?_)
  obtain ⟨q1, q2, q3, q4, q5, q6, q7⟩ := k2
  have bF : gB F (c + 3) = gB H (c + 3) := (k3 (c + 3) (by omega) (by omega)).2.2.2.2.2.1
  have kd : ∀ x, c + 4 ≤ x → x ≤ c + 15 → eqAt H F x := fun x h1 h2 => k3 x (by omega) (by omega)
  refine k F ⟨by omega, k1, ⟨q1.trans Hr4, q2.trans Hr5, q3, q4, q5, q6, q7⟩, ⟨(k3 _ (by omega) (by omega)).1.trans Ha1, (k3 _ (by omega) (by omega)).1.trans Ha3, (k3 _ (by omega) (by omega)).1.trans H7, ?_, ?_, ?_⟩, Hd1.eq (fun a z1 z2 => kd a (by omega) (by omega)), Hd2.eq (fun a z1 z2 => kd a (by omega) (by omega)), H1.eq (fun a z1 z2 => kd a (by omega) (by omega)), k4, k8, k6.1, k7.1⟩ ⟨k9.1, k9.2.1, k9.2.2.1, fun i hi => ?_, fun i hi => ?_⟩ (fun d z1 z2 => ?_) k5 k6.2.1 k6.2.2 k7.2.1 k7.2.2.1 k7.2.2.2.1 k7.2.2.2.2 k9.2.2.2 k10 (by omega) k12
  · rw [bF, HB]; rfl
  · rw [bF, HB]; rfl
  · rw [bF, HB]; rfl
  · rw [(k3 (c + 1) (by omega) (by omega)).2.2.2.2.1, Ha2]; exact A3 i hi
  · rw [(k3 (c + 2) (by omega) (by omega)).2.2.2.2.1, Ha4]
    rcases (show i = 0 ∨ i = 1 ∨ i = 2 ∨ i = 3 ∨ i = 4 ∨ i = 5 by omega) with e | e | e | e | e | e <;> subst e <;> rfl
  · rcases (show d = 1 ∨ d = 2 ∨ d = 3 by omega) with e | e | e <;> subst e
    · exact Hc1.keep (kd _ (by omega) (by omega)) (kd _ (by omega) (by omega)) (kd _ (by omega) (by omega)) (kd _ (by omega) (by omega))
    · exact Hc2.keep (kd _ (by omega) (by omega)) (kd _ (by omega) (by omega)) (kd _ (by omega) (by omega)) (kd _ (by omega) (by omega))
    · exact H2.keep (kd _ (by omega) (by omega)) (kd _ (by omega) (by omega)) (kd _ (by omega) (by omega)) (kd _ (by omega) (by omega))
end NEWCORE
