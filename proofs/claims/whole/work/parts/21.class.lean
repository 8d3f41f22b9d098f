def wJ7_fill_53178_5 (X : Xt) (Pr : Gt → Prop) (k5 : Gt → Nat → Int32 → Int32 → Int32 → Prop) (G : Gt) (a0 : Nat) (x1 : Int32) (x2 : Int32) (x3 : Int32) : Prop := (x3 ≤ x2 → Pr G) ∧ (¬ (x3 ≤ x2) → (gT G a0).1 = 2 ∧ vp_in x2 (gT G a0).2 ∧ ∀ G41, G41 = sA G a0 (upd (gA G a0) x2.toNatClampNeg x1) → k5 G41 a0 x1 (x2 + 1) x3)
set_option maxRecDepth 20000 in
theorem bJ7_fill_53178_5 {X : Xt} {K : Kt} {l : Launch} {G0 : Gt} {Pr : Gt → Prop} (B : BX X K l cJ7_fill_53178 4 RJ7 0 0 G0 none "fill") {k5 : Gt → Nat → Int32 → Int32 → Int32 → Prop} (hk5 : ∀ (G : Gt) (a0 : Nat) (x1 : Int32) (x2 : Int32) (x3 : Int32), k5 G a0 x1 x2 x3 → WM X K (QM X K G0 (rV Pr) noX) G 5 [some (.ref a0), some (.int x1), some (.int x2), some (.int x3)] []) {G : Gt} {a0 : Nat} {x1 : Int32} {x2 : Int32} {x3 : Int32} (h : wJ7_fill_53178_5 X Pr k5 G a0 x1 x2 x3) : WM X K (QM X K G0 (rV Pr) noX) G 5 [some (.ref a0), some (.int x1), some (.int x2), some (.int x3)] [] := by
  obtain ⟨hL, C, E0, hr, hnm, hex, hfl⟩ := id B
  unfold wJ7_fill_53178_5 at h
  refine r_iload_n C 2 dJ7_fill_53178_5 rfl rfl ?_
  refine r_iload_n C 3 dJ7_fill_53178_6 rfl rfl ?_
  refine r_icmp_ge C 20 dJ7_fill_53178_7 (by decide) (fun c => ?_) (fun c => ?_)
  · replace h := h.1 c
    exact r_vret C E0 hr ⟨rfl, h⟩ dJ7_fill_53178_20
  · replace h := h.2 c
    refine r_aloadR_n C 0 dJ7_fill_53178_10 rfl rfl ?_
    refine r_iload_n C 2 dJ7_fill_53178_11 rfl rfl ?_
    refine r_iload_n C 1 dJ7_fill_53178_12 rfl rfl ?_
    obtain ⟨ht, hi, h⟩ := h
    refine r_iastP C ht hi dJ7_fill_53178_13 ?_
    refine r_nm (fun G41 hG41 => ?_)
    replace h := h G41 hG41
    refine r_iinc C 1 (lv' := [some (.ref a0), some (.int x1), some (.int (x2 + 1)), some (.int x3)]) dJ7_fill_53178_14 rfl (by decide) rfl rfl ?_
    refine r_goto C 5 dJ7_fill_53178_17 (by decide) ?_
    exact hk5 _ _ _ _ _ h
theorem lJ7_fill_53178_5 {X : Xt} {K : Kt} {l : Launch} {G0 : Gt} {Pr : Gt → Prop} (B : BX X K l cJ7_fill_53178 4 RJ7 0 0 G0 none "fill") (I : Gt → Nat → Int32 → Int32 → Int32 → Prop) (μ : Gt → Nat → Int32 → Int32 → Int32 → Nat) (hS : ∀ (G : Gt) (a0 : Nat) (x1 : Int32) (x2 : Int32) (x3 : Int32), I G a0 x1 x2 x3 → wJ7_fill_53178_5 X Pr (fun G' a0' x1' x2' x3' => I G' a0' x1' x2' x3' ∧ μ G' a0' x1' x2' x3' < μ G a0 x1 x2 x3) G a0 x1 x2 x3) : ∀ (n : Nat) (G : Gt) (a0 : Nat) (x1 : Int32) (x2 : Int32) (x3 : Int32), μ G a0 x1 x2 x3 < n → I G a0 x1 x2 x3 → WM X K (QM X K G0 (rV Pr) noX) G 5 [some (.ref a0), some (.int x1), some (.int x2), some (.int x3)] [] := by
  intro n
  induction n with
  | zero => intro G a0 x1 x2 x3 hm; exact absurd hm (Nat.not_lt_zero _)
  | succ n ih =>
    intro G a0 x1 x2 x3 hm hi
    exact bJ7_fill_53178_5 B (fun G' a0' x1' x2' x3' hk => ih G' a0' x1' x2' x3' (Nat.lt_of_lt_of_le hk.2 (Nat.le_of_lt_succ hm)) hk.1) (hS G a0 x1 x2 x3 hi)
def wJ7_fill_53178 (X : Xt) (G : Gt) (a0 : Nat) (x1 : Int32) (Pr : Gt → Prop) : Prop := (gT G a0).1 = 2 ∧ ∃ (I : Gt → Nat → Int32 → Int32 → Int32 → Prop) (μ : Gt → Nat → Int32 → Int32 → Int32 → Nat), I G a0 x1 (0 : Int32) (nI (gT G a0).2) ∧ ∀ (G : Gt) (a0 : Nat) (x1 : Int32) (x2 : Int32) (x3 : Int32), I G a0 x1 x2 x3 → wJ7_fill_53178_5 X Pr (fun G' a0' x1' x2' x3' => I G' a0' x1' x2' x3' ∧ μ G' a0' x1' x2' x3' < μ G a0 x1 x2 x3) G a0 x1 x2 x3
set_option maxRecDepth 20000 in
theorem mJ7_fill_53178 {X : Xt} {l : Launch} (hfl : l.stackTraces = false) {G : Gt} {a0 : Nat} {x1 : Int32} {Pr : Gt → Prop} (h : wJ7_fill_53178 X G a0 x1 Pr) : Mc X l yJ7_fill_53178 (.code yJ7_fill_53178 cJ7_fill_53178 4 none) 0 0 [.ref a0, .int x1] G (rV Pr) noX := by
  refine Mc.of (by decide +kernel) hfl [some (.ref a0), some (.int x1), none, none] rfl (Nat.le_of_ble_eq_true rfl) rfl ?_
  intro K hL C E0 hr hnm hex
  have B : BX X K l cJ7_fill_53178 4 RJ7 0 0 G none "fill" := ⟨hL, C, E0, hr, hnm, hex, hfl⟩
  have C : Cx X K cJ7_fill_53178 4 RJ7 0 0 := C
  unfold wJ7_fill_53178 at h
  refine r_iconst C 0 dJ7_fill_53178_0 (by decide) ?_
  refine r_istore_n C 2 (lv' := [some (.ref a0), some (.int x1), some (.int 0), none]) dJ7_fill_53178_1 rfl (Nat.le_of_ble_eq_true rfl) rfl rfl ?_
  refine r_aloadR_n C 0 dJ7_fill_53178_2 rfl rfl ?_
  obtain ⟨ht, h⟩ := h
  refine r_alen2P C ht dJ7_fill_53178_3 ?_
  refine r_istore_n C 3 (lv' := [some (.ref a0), some (.int x1), some (.int 0), some (.int (nI (gT G a0).2))]) dJ7_fill_53178_4 rfl (Nat.le_of_ble_eq_true rfl) rfl rfl ?_
  obtain ⟨I, μ, hI, hS⟩ := h
  exact lJ7_fill_53178_5 B I μ hS _ _ _ _ _ _ (Nat.lt_succ_self _) hI
def wX0_init (X : Xt) (G : Gt) (a0 : Nat) (Pr : Gt → Prop) : Prop := gH G + 1 ≤ xC X ∧ gU G + 96 ≤ xS X ∧ ∀ G1, G1 = nA G 96 → gT G1 a0 = (1, 1) ∧ ∀ G2, G2 = sR G1 32 a0 (some (gH G)) → gH G2 + 1 ≤ xC X ∧ gU G2 + 96 ≤ xS X ∧ ∀ G3, G3 = nA G2 96 → gT G3 a0 = (1, 1) ∧ ∀ G4, G4 = sR G3 33 a0 (some (gH G2)) → gT G4 a0 = (1, 1) ∧ ∃ b5, gR G4 32 a0 = some b5 ∧ wJ7_fill_53178 X G4 b5 (-1) (fun G6 => Pr G6)
set_option maxRecDepth 20000 in
theorem mX0_init {X : Xt} {l : Launch} (hfl : l.stackTraces = false) {G : Gt} {a0 : Nat} {Pr : Gt → Prop} (h : wX0_init X G a0 Pr) : Mc X l yX0_init (.code yX0_init cX0_init 1 none) 1 23 [.ref a0] G (rV Pr) noX := by
  refine Mc.of (by decide +kernel) hfl [some (.ref a0)] rfl (Nat.le_of_ble_eq_true rfl) rfl ?_
  intro K hL C E0 hr hnm hex
  have B : BX X K l cX0_init 1 RX0 1 23 G none "<init>" := ⟨hL, C, E0, hr, hnm, hex, hfl⟩
  have C : Cx X K cX0_init 1 RX0 1 23 := C
  unfold wX0_init at h
  refine r_aloadR_n C 0 dX0_init_0 rfl rfl ?_
  refine r_objInit C oi_RX0_3 oi_inst oi_code rfl (Nat.le_of_ble_eq_true rfl) (Nat.le_of_ble_eq_true rfl) dX0_init_1 ?_
  refine r_aloadR_n C 0 dX0_init_4 rfl rfl ?_
  refine r_bipush C 96 dX0_init_5 (by decide) ?_
  obtain ⟨hr1, hr2, h⟩ := h
  refine r_newa C 96 (by decide) (by decide) (by decide) ac_int hr1 hr2 dX0_init_7 ?_
  refine r_nm (fun G1 hG1 => ?_)
  replace h := h G1 hG1
  obtain ⟨ht, h⟩ := h
  refine r_putRF C hnm cw_1 fp_RX0_9 rfl ht rfl rfl dX0_init_9 ?_
  refine r_nm (fun G2 hG2 => ?_)
  replace h := h G2 hG2
  refine r_aloadR_n C 0 dX0_init_12 rfl rfl ?_
  refine r_bipush C 96 dX0_init_13 (by decide) ?_
  obtain ⟨hr1, hr2, h⟩ := h
  refine r_newa C 96 (by decide) (by decide) (by decide) ac_int hr1 hr2 dX0_init_15 ?_
  refine r_nm (fun G3 hG3 => ?_)
  replace h := h G3 hG3
  obtain ⟨ht, h⟩ := h
  refine r_putRF C hnm cw_1 fp_RX0_15 rfl ht rfl rfl dX0_init_17 ?_
  refine r_nm (fun G4 hG4 => ?_)
  replace h := h G4 hG4
  refine r_aloadR_n C 0 dX0_init_20 rfl rfl ?_
  obtain ⟨ht, h⟩ := h
  obtain ⟨b5, hb, h⟩ := h
  refine r_getR C fw_RX0_9 rfl ht hb dX0_init_21 ?_
  refine r_iconst C (-1) dX0_init_24 (by decide) ?_
  refine r_callS C hL yw_J7_fill_53178 sw_RX0_18 rfl rfl (Nat.le_of_ble_eq_true rfl) ⟨(Nat.le_of_ble_eq_true rfl), (Nat.le_of_ble_eq_true rfl)⟩ (mJ7_fill_53178 hfl h) rfl dX0_init_25 (kV' (fun G6 h => ?_)) kN
  exact r_vret C E0 hr ⟨rfl, h⟩ dX0_init_28
def wX0_copyFrom (X : Xt) (G : Gt) (a0 : Nat) (a1 : Nat) (Pr : Gt → Prop) : Prop := gT G a1 = (1, 1) ∧ ∃ b1, gR G 32 a1 = some b1 ∧ gT G a0 = (1, 1) ∧ ∃ b2, gR G 32 a0 = some b2 ∧ (gT G b1).1 = 2 ∧ (gT G b2).1 = 2 ∧ ¬ (0 : Int32) < 0 ∧ ¬ (0 : Int32) < 0 ∧ ¬ (96 : Int32) < 0 ∧ (0 : Int32).toNatClampNeg + (96 : Int32).toNatClampNeg ≤ (gT G b1).2 ∧ (0 : Int32).toNatClampNeg + (96 : Int32).toNatClampNeg ≤ (gT G b2).2 ∧ ∀ G3, G3 = sA G b2 (va_cpy (gA G b1) (gA G b2) (0 : Int32).toNatClampNeg (0 : Int32).toNatClampNeg (96 : Int32).toNatClampNeg) → gT G3 a1 = (1, 1) ∧ ∃ b4, gR G3 33 a1 = some b4 ∧ gT G3 a0 = (1, 1) ∧ ∃ b5, gR G3 33 a0 = some b5 ∧ (gT G3 b4).1 = 2 ∧ (gT G3 b5).1 = 2 ∧ ¬ (0 : Int32) < 0 ∧ ¬ (0 : Int32) < 0 ∧ ¬ (96 : Int32) < 0 ∧ (0 : Int32).toNatClampNeg + (96 : Int32).toNatClampNeg ≤ (gT G3 b4).2 ∧ (0 : Int32).toNatClampNeg + (96 : Int32).toNatClampNeg ≤ (gT G3 b5).2 ∧ ∀ G6, G6 = sA G3 b5 (va_cpy (gA G3 b4) (gA G3 b5) (0 : Int32).toNatClampNeg (0 : Int32).toNatClampNeg (96 : Int32).toNatClampNeg) → Pr G6
set_option maxRecDepth 20000 in
theorem mX0_copyFrom {X : Xt} {l : Launch} (hfl : l.stackTraces = false) {G : Gt} {a0 : Nat} {a1 : Nat} {Pr : Gt → Prop} (h : wX0_copyFrom X G a0 a1 Pr) : Mc X l yX0_copyFrom (.code yX0_copyFrom cX0_copyFrom 2 none) 1 40 [.ref a0, .ref a1] G (rV Pr) noX := by
  refine Mc.of (by decide +kernel) hfl [some (.ref a0), some (.ref a1)] rfl (Nat.le_of_ble_eq_true rfl) rfl ?_
  intro K hL C E0 hr hnm hex
  have B : BX X K l cX0_copyFrom 2 RX0 1 40 G none "copyFrom" := ⟨hL, C, E0, hr, hnm, hex, hfl⟩
  have C : Cx X K cX0_copyFrom 2 RX0 1 40 := C
  unfold wX0_copyFrom at h
  refine r_aloadR_n C 1 dX0_copyFrom_0 rfl rfl ?_
  obtain ⟨ht, h⟩ := h
  obtain ⟨b1, hb, h⟩ := h
  refine r_getR C fw_RX0_9 rfl ht hb dX0_copyFrom_1 ?_
  refine r_iconst C 0 dX0_copyFrom_4 (by decide) ?_
  refine r_aloadR_n C 0 dX0_copyFrom_5 rfl rfl ?_
  obtain ⟨ht, h⟩ := h
  obtain ⟨b2, hb, h⟩ := h
  refine r_getR C fw_RX0_9 rfl ht hb dX0_copyFrom_6 ?_
  refine r_iconst C 0 dX0_copyFrom_9 (by decide) ?_
  refine r_bipush C 96 dX0_copyFrom_10 (by decide) ?_
  obtain ⟨q1, q2, q3, q4, q5, q6, q7, h⟩ := h
  refine r_copyI C ac_RX0_24 q1 q2 q3 q4 q5 q6 q7 rfl (Nat.le_of_ble_eq_true rfl) (Nat.le_of_ble_eq_true rfl) dX0_copyFrom_12 ?_
  refine r_nm (fun G3 hG3 => ?_)
  replace h := h G3 hG3
  refine r_aloadR_n C 1 dX0_copyFrom_15 rfl rfl ?_
  obtain ⟨ht, h⟩ := h
  obtain ⟨b4, hb, h⟩ := h
  refine r_getR C fw_RX0_15 rfl ht hb dX0_copyFrom_16 ?_
  refine r_iconst C 0 dX0_copyFrom_19 (by decide) ?_
  refine r_aloadR_n C 0 dX0_copyFrom_20 rfl rfl ?_
  obtain ⟨ht, h⟩ := h
  obtain ⟨b5, hb, h⟩ := h
  refine r_getR C fw_RX0_15 rfl ht hb dX0_copyFrom_21 ?_
  refine r_iconst C 0 dX0_copyFrom_24 (by decide) ?_
  refine r_bipush C 96 dX0_copyFrom_25 (by decide) ?_
  obtain ⟨q1, q2, q3, q4, q5, q6, q7, h⟩ := h
  refine r_copyI C ac_RX0_24 q1 q2 q3 q4 q5 q6 q7 rfl (Nat.le_of_ble_eq_true rfl) (Nat.le_of_ble_eq_true rfl) dX0_copyFrom_27 ?_
  refine r_nm (fun G6 hG6 => ?_)
  replace h := h G6 hG6
  exact r_vret C E0 hr ⟨rfl, h⟩ dX0_copyFrom_30
def wX0_placeOf (X : Xt) (G : Gt) (x0 : Int32) (x1 : Int32) (Pr : Int32 → Gt → Prop) : Prop := (x0 < 1 → Pr (-1) G) ∧ (¬ (x0 < 1) → (3 < x0 → Pr (-1) G) ∧ (¬ (3 < x0) → (x1 < 0 → Pr (-1) G) ∧ (¬ (x1 < 0) → (x1 < 32 → Pr (((x0 - 1) * 32) + x1) G) ∧ (¬ (x1 < 32) → Pr (-1) G))))
set_option maxRecDepth 20000 in
theorem mX0_placeOf {X : Xt} {l : Launch} (hfl : l.stackTraces = false) {G : Gt} {x0 : Int32} {x1 : Int32} {Pr : Int32 → Gt → Prop} (h : wX0_placeOf X G x0 x1 Pr) : Mc X l yX0_placeOf (.code yX0_placeOf cX0_placeOf 2 (some (.int))) 0 0 [.int x0, .int x1] G (rI Pr) noX := by
  refine Mc.of (by decide +kernel) hfl [some (.int x0), some (.int x1)] rfl (Nat.le_of_ble_eq_true rfl) rfl ?_
  intro K hL C E0 hr hnm hex
  have B : BX X K l cX0_placeOf 2 RX0 0 0 G (some (.int)) "placeOf" := ⟨hL, C, E0, hr, hnm, hex, hfl⟩
  have C : Cx X K cX0_placeOf 2 RX0 0 0 := C
  unfold wX0_placeOf at h
  refine r_iload_n C 0 dX0_placeOf_0 rfl rfl ?_
  refine r_iconst C 1 dX0_placeOf_1 (by decide) ?_
  refine r_icmp_lt C 20 dX0_placeOf_2 (by decide) (fun c => ?_) (fun c => ?_)
  · replace h := h.1 c
    refine r_iconst C (-1) dX0_placeOf_20 (by decide) ?_
    exact r_iret C E0 hr ⟨_, rfl, h⟩ dX0_placeOf_21
  · replace h := h.2 c
    refine r_iload_n C 0 dX0_placeOf_5 rfl rfl ?_
    refine r_iconst C 3 dX0_placeOf_6 (by decide) ?_
    refine r_icmp_gt C 20 dX0_placeOf_7 (by decide) (fun c => ?_) (fun c => ?_)
    · replace h := h.1 c
      refine r_iconst C (-1) dX0_placeOf_20 (by decide) ?_
      exact r_iret C E0 hr ⟨_, rfl, h⟩ dX0_placeOf_21
    · replace h := h.2 c
      refine r_iload_n C 1 dX0_placeOf_10 rfl rfl ?_
      refine r_if_lt C 20 dX0_placeOf_11 (by decide) (fun c => ?_) (fun c => ?_)
      · replace h := h.1 c
        refine r_iconst C (-1) dX0_placeOf_20 (by decide) ?_
        exact r_iret C E0 hr ⟨_, rfl, h⟩ dX0_placeOf_21
      · replace h := h.2 c
        refine r_iload_n C 1 dX0_placeOf_14 rfl rfl ?_
        refine r_bipush C 32 dX0_placeOf_15 (by decide) ?_
        refine r_icmp_lt C 22 dX0_placeOf_17 (by decide) (fun c => ?_) (fun c => ?_)
        · replace h := h.1 c
          refine r_iload_n C 0 dX0_placeOf_22 rfl rfl ?_
          refine r_iconst C 1 dX0_placeOf_23 (by decide) ?_
          refine r_isub C dX0_placeOf_24 ?_
          refine r_bipush C 32 dX0_placeOf_25 (by decide) ?_
          refine r_imul C dX0_placeOf_27 ?_
          refine r_iload_n C 1 dX0_placeOf_28 rfl rfl ?_
          refine r_iadd C dX0_placeOf_29 ?_
          exact r_iret C E0 hr ⟨_, rfl, h⟩ dX0_placeOf_30
        · replace h := h.2 c
          refine r_iconst C (-1) dX0_placeOf_20 (by decide) ?_
          exact r_iret C E0 hr ⟨_, rfl, h⟩ dX0_placeOf_21
def wX0_valueOf (X : Xt) (G : Gt) (a0 : Nat) (x1 : Int32) (x2 : Int32) (Pr : Int32 → Gt → Prop) : Prop := wX0_placeOf X G x1 x2 (fun r1 G2 => (0 ≤ r1 → gT G2 a0 = (1, 1) ∧ ∃ b23, gR G2 32 a0 = some b23 ∧ (gT G2 b23).1 = 2 ∧ vp_in r1 (gT G2 b23).2 ∧ Pr (gA G2 b23 r1.toNatClampNeg) G2) ∧ (¬ (0 ≤ r1) → Pr (-1) G2))
set_option maxRecDepth 20000 in
theorem mX0_valueOf {X : Xt} {l : Launch} (hfl : l.stackTraces = false) {G : Gt} {a0 : Nat} {x1 : Int32} {x2 : Int32} {Pr : Int32 → Gt → Prop} (h : wX0_valueOf X G a0 x1 x2 Pr) : Mc X l yX0_valueOf (.code yX0_valueOf cX0_valueOf 4 (some (.int))) 1 21 [.ref a0, .int x1, .int x2] G (rI Pr) noX := by
  refine Mc.of (by decide +kernel) hfl [some (.ref a0), some (.int x1), some (.int x2), none] rfl (Nat.le_of_ble_eq_true rfl) rfl ?_
  intro K hL C E0 hr hnm hex
  have B : BX X K l cX0_valueOf 4 RX0 1 21 G (some (.int)) "valueOf" := ⟨hL, C, E0, hr, hnm, hex, hfl⟩
  have C : Cx X K cX0_valueOf 4 RX0 1 21 := C
  unfold wX0_valueOf at h
  refine r_iload_n C 1 dX0_valueOf_0 rfl rfl ?_
  refine r_iload_n C 2 dX0_valueOf_1 rfl rfl ?_
  refine r_callS C hL yw_X0_placeOf sw_RX0_30 rfl rfl (Nat.le_of_ble_eq_true rfl) ⟨(Nat.le_of_ble_eq_true rfl), (Nat.le_of_ble_eq_true rfl)⟩ (mX0_placeOf hfl h) rfl dX0_valueOf_2 (kI (fun r1 G2 h => ?_)) kN
  refine r_istore_n C 3 (lv' := [some (.ref a0), some (.int x1), some (.int x2), some (.int r1)]) dX0_valueOf_5 rfl (Nat.le_of_ble_eq_true rfl) rfl rfl ?_
  refine r_iload_n C 3 dX0_valueOf_6 rfl rfl ?_
  refine r_if_ge C 14 dX0_valueOf_7 (by decide) (fun c => ?_) (fun c => ?_)
  · replace h := h.1 c
    refine r_aloadR_n C 0 dX0_valueOf_14 rfl rfl ?_
    obtain ⟨ht, h⟩ := h
    obtain ⟨b23, hb, h⟩ := h
    refine r_getR C fw_RX0_9 rfl ht hb dX0_valueOf_15 ?_
    refine r_iload_n C 3 dX0_valueOf_18 rfl rfl ?_
    obtain ⟨ht, hi, h⟩ := h
    refine r_ialdP C ht hi dX0_valueOf_19 ?_
    exact r_iret C E0 hr ⟨_, rfl, h⟩ dX0_valueOf_20
  · replace h := h.2 c
    refine r_iconst C (-1) dX0_valueOf_10 (by decide) ?_
    refine r_goto C 20 dX0_valueOf_11 (by decide) ?_
    exact r_iret C E0 hr ⟨_, rfl, h⟩ dX0_valueOf_20
def wX0_ageOf (X : Xt) (G : Gt) (a0 : Nat) (x1 : Int32) (x2 : Int32) (x3 : Int32) (Pr : Int32 → Gt → Prop) : Prop := wX0_placeOf X G x1 x2 (fun r1 G2 => (r1 < 0 → Pr (-1) G2) ∧ (¬ (r1 < 0) → gT G2 a0 = (1, 1) ∧ ∃ b43, gR G2 32 a0 = some b43 ∧ (gT G2 b43).1 = 2 ∧ vp_in r1 (gT G2 b43).2 ∧ (0 ≤ (gA G2 b43 r1.toNatClampNeg) → gT G2 a0 = (1, 1) ∧ ∃ b64, gR G2 33 a0 = some b64 ∧ (gT G2 b64).1 = 2 ∧ vp_in r1 (gT G2 b64).2 ∧ Pr (x3 - (gA G2 b64 r1.toNatClampNeg)) G2) ∧ (¬ (0 ≤ (gA G2 b43 r1.toNatClampNeg)) → Pr (-1) G2)))
set_option maxRecDepth 20000 in
theorem mX0_ageOf {X : Xt} {l : Launch} (hfl : l.stackTraces = false) {G : Gt} {a0 : Nat} {x1 : Int32} {x2 : Int32} {x3 : Int32} {Pr : Int32 → Gt → Prop} (h : wX0_ageOf X G a0 x1 x2 x3 Pr) : Mc X l yX0_ageOf (.code yX0_ageOf cX0_ageOf 5 (some (.int))) 1 21 [.ref a0, .int x1, .int x2, .int x3] G (rI Pr) noX := by
  refine Mc.of (by decide +kernel) hfl [some (.ref a0), some (.int x1), some (.int x2), some (.int x3), none] rfl (Nat.le_of_ble_eq_true rfl) rfl ?_
  intro K hL C E0 hr hnm hex
  have B : BX X K l cX0_ageOf 5 RX0 1 21 G (some (.int)) "ageOf" := ⟨hL, C, E0, hr, hnm, hex, hfl⟩
  have C : Cx X K cX0_ageOf 5 RX0 1 21 := C
  unfold wX0_ageOf at h
  refine r_iload_n C 1 dX0_ageOf_0 rfl rfl ?_
  refine r_iload_n C 2 dX0_ageOf_1 rfl rfl ?_
  refine r_callS C hL yw_X0_placeOf sw_RX0_30 rfl rfl (Nat.le_of_ble_eq_true rfl) ⟨(Nat.le_of_ble_eq_true rfl), (Nat.le_of_ble_eq_true rfl)⟩ (mX0_placeOf hfl h) rfl dX0_ageOf_2 (kI (fun r1 G2 h => ?_)) kN
  refine r_istore C (lv' := [some (.ref a0), some (.int x1), some (.int x2), some (.int x3), some (.int r1)]) dX0_ageOf_5 (Nat.le_of_ble_eq_true rfl) rfl rfl ?_
  refine r_iload C dX0_ageOf_7 rfl ?_
  refine r_if_lt C 22 dX0_ageOf_9 (by decide) (fun c => ?_) (fun c => ?_)
  · replace h := h.1 c
    refine r_iconst C (-1) dX0_ageOf_22 (by decide) ?_
    refine r_goto C 35 dX0_ageOf_23 (by decide) ?_
    exact r_iret C E0 hr ⟨_, rfl, h⟩ dX0_ageOf_35
  · replace h := h.2 c
    refine r_aloadR_n C 0 dX0_ageOf_12 rfl rfl ?_
    obtain ⟨ht, h⟩ := h
    obtain ⟨b43, hb, h⟩ := h
    refine r_getR C fw_RX0_9 rfl ht hb dX0_ageOf_13 ?_
    refine r_iload C dX0_ageOf_16 rfl ?_
    obtain ⟨ht, hi, h⟩ := h
    refine r_ialdP C ht hi dX0_ageOf_18 ?_
    refine r_if_ge C 26 dX0_ageOf_19 (by decide) (fun c => ?_) (fun c => ?_)
    · replace h := h.1 c
      refine r_iload_n C 3 dX0_ageOf_26 rfl rfl ?_
      refine r_aloadR_n C 0 dX0_ageOf_27 rfl rfl ?_
      obtain ⟨ht, h⟩ := h
      obtain ⟨b64, hb, h⟩ := h
      refine r_getR C fw_RX0_15 rfl ht hb dX0_ageOf_28 ?_
      refine r_iload C dX0_ageOf_31 rfl ?_
      obtain ⟨ht, hi, h⟩ := h
      refine r_ialdP C ht hi dX0_ageOf_33 ?_
      refine r_isub C dX0_ageOf_34 ?_
      exact r_iret C E0 hr ⟨_, rfl, h⟩ dX0_ageOf_35
    · replace h := h.2 c
      refine r_iconst C (-1) dX0_ageOf_22 (by decide) ?_
      refine r_goto C 35 dX0_ageOf_23 (by decide) ?_
      exact r_iret C E0 hr ⟨_, rfl, h⟩ dX0_ageOf_35
def wX0_isFresh (X : Xt) (G : Gt) (a0 : Nat) (x1 : Int32) (x2 : Int32) (x3 : Int32) (x4 : Int32) (Pr : Int32 → Gt → Prop) : Prop := gT G a0 = (1, 1) ∧ wX0_ageOf X G a0 x1 x2 x3 (fun r1 G2 => (r1 < 0 → Pr 0 G2) ∧ (¬ (r1 < 0) → (x4 < r1 → Pr 0 G2) ∧ (¬ (x4 < r1) → Pr 1 G2)))
set_option maxRecDepth 20000 in
theorem mX0_isFresh {X : Xt} {l : Launch} (hfl : l.stackTraces = false) {G : Gt} {a0 : Nat} {x1 : Int32} {x2 : Int32} {x3 : Int32} {x4 : Int32} {Pr : Int32 → Gt → Prop} (h : wX0_isFresh X G a0 x1 x2 x3 x4 Pr) : Mc X l yX0_isFresh (.code yX0_isFresh cX0_isFresh 6 (some (.boolean))) 2 45 [.ref a0, .int x1, .int x2, .int x3, .int x4] G (rI Pr) noX := by
  refine Mc.of (by decide +kernel) hfl [some (.ref a0), some (.int x1), some (.int x2), some (.int x3), some (.int x4), none] rfl (Nat.le_of_ble_eq_true rfl) rfl ?_
  intro K hL C E0 hr hnm hex
  have B : BX X K l cX0_isFresh 6 RX0 2 45 G (some (.boolean)) "isFresh" := ⟨hL, C, E0, hr, hnm, hex, hfl⟩
  have C : Cx X K cX0_isFresh 6 RX0 2 45 := C
  unfold wX0_isFresh at h
  refine r_aloadR_n C 0 dX0_isFresh_0 rfl rfl ?_
  refine r_iload_n C 1 dX0_isFresh_1 rfl rfl ?_
  refine r_iload_n C 2 dX0_isFresh_2 rfl rfl ?_
  refine r_iload_n C 3 dX0_isFresh_3 rfl rfl ?_
  obtain ⟨ht, h⟩ := h
  refine r_callV C (r := (RX0, TX0, 2)) hL yw_X0_ageOf vw_RX0_34 rfl rfl ht rfl rfl (Nat.le_of_ble_eq_true rfl) ⟨(Nat.le_of_ble_eq_true rfl), (Nat.le_of_ble_eq_true rfl)⟩ (mX0_ageOf hfl h) rfl dX0_isFresh_4 (kI (fun r1 G2 h => ?_)) kN
  refine r_istore C (lv' := [some (.ref a0), some (.int x1), some (.int x2), some (.int x3), some (.int x4), some (.int r1)]) dX0_isFresh_7 (Nat.le_of_ble_eq_true rfl) rfl rfl ?_
  refine r_iload C dX0_isFresh_9 rfl ?_
  refine r_if_lt C 25 dX0_isFresh_11 (by decide) (fun c => ?_) (fun c => ?_)
  · replace h := h.1 c
    refine r_iconst C 0 dX0_isFresh_25 (by decide) ?_
    exact r_zret C E0 hr (Or.inl rfl) ⟨_, rfl, h⟩ dX0_isFresh_26
  · replace h := h.2 c
    refine r_iload C dX0_isFresh_14 rfl ?_
    refine r_iload C dX0_isFresh_16 rfl ?_
    refine r_icmp_gt C 25 dX0_isFresh_18 (by decide) (fun c => ?_) (fun c => ?_)
    · replace h := h.1 c
      refine r_iconst C 0 dX0_isFresh_25 (by decide) ?_
      exact r_zret C E0 hr (Or.inl rfl) ⟨_, rfl, h⟩ dX0_isFresh_26
    · replace h := h.2 c
      refine r_iconst C 1 dX0_isFresh_21 (by decide) ?_
      refine r_goto C 26 dX0_isFresh_22 (by decide) ?_
      exact r_zret C E0 hr (Or.inr rfl) ⟨_, rfl, h⟩ dX0_isFresh_26
def wX0_put (X : Xt) (G : Gt) (a0 : Nat) (x1 : Int32) (x2 : Int32) (x3 : Int32) (x4 : Int32) (Pr : Gt → Prop) : Prop := wX0_placeOf X G x1 x2 (fun r1 G2 => (r1 < 0 → Pr G2) ∧ (¬ (r1 < 0) → gT G2 a0 = (1, 1) ∧ ∃ b43, gR G2 32 a0 = some b43 ∧ (gT G2 b43).1 = 2 ∧ vp_in r1 (gT G2 b43).2 ∧ ∀ G44, G44 = sA G2 b43 (upd (gA G2 b43) r1.toNatClampNeg x3) → gT G44 a0 = (1, 1) ∧ ∃ b45, gR G44 33 a0 = some b45 ∧ (gT G44 b45).1 = 2 ∧ vp_in r1 (gT G44 b45).2 ∧ ∀ G46, G46 = sA G44 b45 (upd (gA G44 b45) r1.toNatClampNeg x4) → Pr G46))
set_option maxRecDepth 20000 in
theorem mX0_put {X : Xt} {l : Launch} (hfl : l.stackTraces = false) {G : Gt} {a0 : Nat} {x1 : Int32} {x2 : Int32} {x3 : Int32} {x4 : Int32} {Pr : Gt → Prop} (h : wX0_put X G a0 x1 x2 x3 x4 Pr) : Mc X l yX0_put (.code yX0_put cX0_put 6 none) 1 21 [.ref a0, .int x1, .int x2, .int x3, .int x4] G (rV Pr) noX := by
  refine Mc.of (by decide +kernel) hfl [some (.ref a0), some (.int x1), some (.int x2), some (.int x3), some (.int x4), none] rfl (Nat.le_of_ble_eq_true rfl) rfl ?_
  intro K hL C E0 hr hnm hex
  have B : BX X K l cX0_put 6 RX0 1 21 G none "put" := ⟨hL, C, E0, hr, hnm, hex, hfl⟩
  have C : Cx X K cX0_put 6 RX0 1 21 := C
  unfold wX0_put at h
  refine r_iload_n C 1 dX0_put_0 rfl rfl ?_
  refine r_iload_n C 2 dX0_put_1 rfl rfl ?_
  refine r_callS C hL yw_X0_placeOf sw_RX0_30 rfl rfl (Nat.le_of_ble_eq_true rfl) ⟨(Nat.le_of_ble_eq_true rfl), (Nat.le_of_ble_eq_true rfl)⟩ (mX0_placeOf hfl h) rfl dX0_put_2 (kI (fun r1 G2 h => ?_)) kN
  refine r_istore C (lv' := [some (.ref a0), some (.int x1), some (.int x2), some (.int x3), some (.int x4), some (.int r1)]) dX0_put_5 (Nat.le_of_ble_eq_true rfl) rfl rfl ?_
  refine r_iload C dX0_put_7 rfl ?_
  refine r_if_lt C 29 dX0_put_9 (by decide) (fun c => ?_) (fun c => ?_)
  · replace h := h.1 c
    exact r_vret C E0 hr ⟨rfl, h⟩ dX0_put_29
  · replace h := h.2 c
    refine r_aloadR_n C 0 dX0_put_12 rfl rfl ?_
    obtain ⟨ht, h⟩ := h
    obtain ⟨b43, hb, h⟩ := h
    refine r_getR C fw_RX0_9 rfl ht hb dX0_put_13 ?_
    refine r_iload C dX0_put_16 rfl ?_
    refine r_iload_n C 3 dX0_put_18 rfl rfl ?_
    obtain ⟨ht, hi, h⟩ := h
    refine r_iastP C ht hi dX0_put_19 ?_
    refine r_nm (fun G44 hG44 => ?_)
    replace h := h G44 hG44
    refine r_aloadR_n C 0 dX0_put_20 rfl rfl ?_
    obtain ⟨ht, h⟩ := h
    obtain ⟨b45, hb, h⟩ := h
    refine r_getR C fw_RX0_15 rfl ht hb dX0_put_21 ?_
    refine r_iload C dX0_put_24 rfl ?_
    refine r_iload C dX0_put_26 rfl ?_
    obtain ⟨ht, hi, h⟩ := h
    refine r_iastP C ht hi dX0_put_28 ?_
    refine r_nm (fun G46 hG46 => ?_)
    replace h := h G46 hG46
    exact r_vret C E0 hr ⟨rfl, h⟩ dX0_put_29
def wX0_forget (X : Xt) (G : Gt) (a0 : Nat) (x1 : Int32) (x2 : Int32) (Pr : Gt → Prop) : Prop := gT G a0 = (1, 1) ∧ wX0_put X G a0 x1 x2 (-1) 0 (fun G1 => Pr G1)
set_option maxRecDepth 20000 in
theorem mX0_forget {X : Xt} {l : Launch} (hfl : l.stackTraces = false) {G : Gt} {a0 : Nat} {x1 : Int32} {x2 : Int32} {Pr : Gt → Prop} (h : wX0_forget X G a0 x1 x2 Pr) : Mc X l yX0_forget (.code yX0_forget cX0_forget 3 none) 2 46 [.ref a0, .int x1, .int x2] G (rV Pr) noX := by
  refine Mc.of (by decide +kernel) hfl [some (.ref a0), some (.int x1), some (.int x2)] rfl (Nat.le_of_ble_eq_true rfl) rfl ?_
  intro K hL C E0 hr hnm hex
  have B : BX X K l cX0_forget 3 RX0 2 46 G none "forget" := ⟨hL, C, E0, hr, hnm, hex, hfl⟩
  have C : Cx X K cX0_forget 3 RX0 2 46 := C
  unfold wX0_forget at h
  refine r_aloadR_n C 0 dX0_forget_0 rfl rfl ?_
  refine r_iload_n C 1 dX0_forget_1 rfl rfl ?_
  refine r_iload_n C 2 dX0_forget_2 rfl rfl ?_
  refine r_iconst C (-1) dX0_forget_3 (by decide) ?_
  refine r_iconst C 0 dX0_forget_4 (by decide) ?_
  obtain ⟨ht, h⟩ := h
  refine r_callV C (r := (RX0, TX0, 2)) hL yw_X0_put vw_RX0_38 rfl rfl ht rfl rfl (Nat.le_of_ble_eq_true rfl) ⟨(Nat.le_of_ble_eq_true rfl), (Nat.le_of_ble_eq_true rfl)⟩ (mX0_put hfl h) rfl dX0_forget_5 (kV' (fun G1 h => ?_)) kN
  exact r_vret C E0 hr ⟨rfl, h⟩ dX0_forget_8
def wX0_empty_4 (X : Xt) (Pr : Int32 → Gt → Prop) (k4 : Gt → Nat → Int32 → Int32 → Prop) (G : Gt) (a0 : Nat) (x1 : Int32) (x2 : Int32) : Prop := gT G a0 = (1, 1) ∧ ∃ b1, gR G 32 a0 = some b1 ∧ (gT G b1).1 = 2 ∧ ((nI (gT G b1).2) ≤ x2 → Pr x1 G) ∧ (¬ ((nI (gT G b1).2) ≤ x2) → gT G a0 = (1, 1) ∧ ∃ b42, gR G 32 a0 = some b42 ∧ (gT G b42).1 = 2 ∧ vp_in x2 (gT G b42).2 ∧ ((gA G b42 x2.toNatClampNeg) < 0 → gT G a0 = (1, 1) ∧ ∃ b63, gR G 32 a0 = some b63 ∧ (gT G b63).1 = 2 ∧ vp_in x2 (gT G b63).2 ∧ ∀ G64, G64 = sA G b63 (upd (gA G b63) x2.toNatClampNeg (-1)) → k4 G64 a0 x1 (x2 + 1)) ∧ (¬ ((gA G b42 x2.toNatClampNeg) < 0) → gT G a0 = (1, 1) ∧ ∃ b83, gR G 32 a0 = some b83 ∧ (gT G b83).1 = 2 ∧ vp_in x2 (gT G b83).2 ∧ ∀ G84, G84 = sA G b83 (upd (gA G b83) x2.toNatClampNeg (-1)) → k4 G84 a0 (x1 + 1) (x2 + 1)))
set_option maxRecDepth 20000 in
theorem bX0_empty_4 {X : Xt} {K : Kt} {l : Launch} {G0 : Gt} {Pr : Int32 → Gt → Prop} (B : BX X K l cX0_empty 3 RX0 0 0 G0 (some (.int)) "empty") {k4 : Gt → Nat → Int32 → Int32 → Prop} (hk4 : ∀ (G : Gt) (a0 : Nat) (x1 : Int32) (x2 : Int32), k4 G a0 x1 x2 → WM X K (QM X K G0 (rI Pr) noX) G 4 [some (.ref a0), some (.int x1), some (.int x2)] []) {G : Gt} {a0 : Nat} {x1 : Int32} {x2 : Int32} (h : wX0_empty_4 X Pr k4 G a0 x1 x2) : WM X K (QM X K G0 (rI Pr) noX) G 4 [some (.ref a0), some (.int x1), some (.int x2)] [] := by
  obtain ⟨hL, C, E0, hr, hnm, hex, hfl⟩ := id B
  unfold wX0_empty_4 at h
  refine r_iload_n C 2 dX0_empty_4 rfl rfl ?_
  refine r_aloadR_n C 0 dX0_empty_5 rfl rfl ?_
  obtain ⟨ht, h⟩ := h
  obtain ⟨b1, hb, h⟩ := h
  refine r_getR C fw_RX0_9 rfl ht hb dX0_empty_6 ?_
  obtain ⟨ht, h⟩ := h
  refine r_alen2P C ht dX0_empty_9 ?_
  refine r_icmp_ge C 38 dX0_empty_10 (by decide) (fun c => ?_) (fun c => ?_)
  · replace h := h.1 c
    refine r_iload_n C 1 dX0_empty_38 rfl rfl ?_
    exact r_iret C E0 hr ⟨_, rfl, h⟩ dX0_empty_39
  · replace h := h.2 c
    refine r_aloadR_n C 0 dX0_empty_13 rfl rfl ?_
    obtain ⟨ht, h⟩ := h
    obtain ⟨b42, hb, h⟩ := h
    refine r_getR C fw_RX0_9 rfl ht hb dX0_empty_14 ?_
    refine r_iload_n C 2 dX0_empty_17 rfl rfl ?_
    obtain ⟨ht, hi, h⟩ := h
    refine r_ialdP C ht hi dX0_empty_18 ?_
    refine r_if_lt C 25 dX0_empty_19 (by decide) (fun c => ?_) (fun c => ?_)
    · replace h := h.1 c
      refine r_aloadR_n C 0 dX0_empty_25 rfl rfl ?_
      obtain ⟨ht, h⟩ := h
      obtain ⟨b63, hb, h⟩ := h
      refine r_getR C fw_RX0_9 rfl ht hb dX0_empty_26 ?_
      refine r_iload_n C 2 dX0_empty_29 rfl rfl ?_
      refine r_iconst C (-1) dX0_empty_30 (by decide) ?_
      obtain ⟨ht, hi, h⟩ := h
      refine r_iastP C ht hi dX0_empty_31 ?_
      refine r_nm (fun G64 hG64 => ?_)
      replace h := h G64 hG64
      refine r_iinc C 1 (lv' := [some (.ref a0), some (.int x1), some (.int (x2 + 1))]) dX0_empty_32 rfl (by decide) rfl rfl ?_
      refine r_goto C 4 dX0_empty_35 (by decide) ?_
      exact hk4 _ _ _ _ h
    · replace h := h.2 c
      refine r_iinc C 1 (lv' := [some (.ref a0), some (.int (x1 + 1)), some (.int x2)]) dX0_empty_22 rfl (by decide) rfl rfl ?_
      refine r_aloadR_n C 0 dX0_empty_25 rfl rfl ?_
      obtain ⟨ht, h⟩ := h
      obtain ⟨b83, hb, h⟩ := h
      refine r_getR C fw_RX0_9 rfl ht hb dX0_empty_26 ?_
      refine r_iload_n C 2 dX0_empty_29 rfl rfl ?_
      refine r_iconst C (-1) dX0_empty_30 (by decide) ?_
      obtain ⟨ht, hi, h⟩ := h
      refine r_iastP C ht hi dX0_empty_31 ?_
      refine r_nm (fun G84 hG84 => ?_)
      replace h := h G84 hG84
      refine r_iinc C 1 (lv' := [some (.ref a0), some (.int (x1 + 1)), some (.int (x2 + 1))]) dX0_empty_32 rfl (by decide) rfl rfl ?_
      refine r_goto C 4 dX0_empty_35 (by decide) ?_
      exact hk4 _ _ _ _ h
theorem lX0_empty_4 {X : Xt} {K : Kt} {l : Launch} {G0 : Gt} {Pr : Int32 → Gt → Prop} (B : BX X K l cX0_empty 3 RX0 0 0 G0 (some (.int)) "empty") (I : Gt → Nat → Int32 → Int32 → Prop) (μ : Gt → Nat → Int32 → Int32 → Nat) (hS : ∀ (G : Gt) (a0 : Nat) (x1 : Int32) (x2 : Int32), I G a0 x1 x2 → wX0_empty_4 X Pr (fun G' a0' x1' x2' => I G' a0' x1' x2' ∧ μ G' a0' x1' x2' < μ G a0 x1 x2) G a0 x1 x2) : ∀ (n : Nat) (G : Gt) (a0 : Nat) (x1 : Int32) (x2 : Int32), μ G a0 x1 x2 < n → I G a0 x1 x2 → WM X K (QM X K G0 (rI Pr) noX) G 4 [some (.ref a0), some (.int x1), some (.int x2)] [] := by
  intro n
  induction n with
  | zero => intro G a0 x1 x2 hm; exact absurd hm (Nat.not_lt_zero _)
  | succ n ih =>
    intro G a0 x1 x2 hm hi
    exact bX0_empty_4 B (fun G' a0' x1' x2' hk => ih G' a0' x1' x2' (Nat.lt_of_lt_of_le hk.2 (Nat.le_of_lt_succ hm)) hk.1) (hS G a0 x1 x2 hi)
def wX0_empty (X : Xt) (G : Gt) (a0 : Nat) (Pr : Int32 → Gt → Prop) : Prop := ∃ (I : Gt → Nat → Int32 → Int32 → Prop) (μ : Gt → Nat → Int32 → Int32 → Nat), I G a0 (0 : Int32) (0 : Int32) ∧ ∀ (G : Gt) (a0 : Nat) (x1 : Int32) (x2 : Int32), I G a0 x1 x2 → wX0_empty_4 X Pr (fun G' a0' x1' x2' => I G' a0' x1' x2' ∧ μ G' a0' x1' x2' < μ G a0 x1 x2) G a0 x1 x2
set_option maxRecDepth 20000 in
theorem mX0_empty {X : Xt} {l : Launch} (hfl : l.stackTraces = false) {G : Gt} {a0 : Nat} {Pr : Int32 → Gt → Prop} (h : wX0_empty X G a0 Pr) : Mc X l yX0_empty (.code yX0_empty cX0_empty 3 (some (.int))) 0 0 [.ref a0] G (rI Pr) noX := by
  refine Mc.of (by decide +kernel) hfl [some (.ref a0), none, none] rfl (Nat.le_of_ble_eq_true rfl) rfl ?_
  intro K hL C E0 hr hnm hex
  have B : BX X K l cX0_empty 3 RX0 0 0 G (some (.int)) "empty" := ⟨hL, C, E0, hr, hnm, hex, hfl⟩
  have C : Cx X K cX0_empty 3 RX0 0 0 := C
  unfold wX0_empty at h
  refine r_iconst C 0 dX0_empty_0 (by decide) ?_
  refine r_istore_n C 1 (lv' := [some (.ref a0), some (.int 0), none]) dX0_empty_1 rfl (Nat.le_of_ble_eq_true rfl) rfl rfl ?_
  refine r_iconst C 0 dX0_empty_2 (by decide) ?_
  refine r_istore_n C 2 (lv' := [some (.ref a0), some (.int 0), some (.int 0)]) dX0_empty_3 rfl (Nat.le_of_ble_eq_true rfl) rfl rfl ?_
  obtain ⟨I, μ, hI, hS⟩ := h
  exact lX0_empty_4 B I μ hS _ _ _ _ _ (Nat.lt_succ_self _) hI
def wX2_init (X : Xt) (G : Gt) (a0 : Nat) (Pr : Gt → Prop) : Prop := gH G + 1 ≤ xC X ∧ gU G + 32 ≤ xS X ∧ ∀ G1, G1 = nA G 32 → gT G1 a0 = (1, 3) ∧ ∀ G2, G2 = sR G1 96 a0 (some (gH G)) → gH G2 + 1 ≤ xC X ∧ gU G2 + 6 ≤ xS X ∧ ∀ G3, G3 = nA G2 6 → gT G3 a0 = (1, 3) ∧ ∀ G4, G4 = sR G3 97 a0 (some (gH G2)) → gH G4 + 1 ≤ xC X ∧ gU G4 + 6 ≤ xS X ∧ ∀ G5, G5 = nA G4 6 → gT G5 a0 = (1, 3) ∧ ∀ G6, G6 = sR G5 98 a0 (some (gH G4)) → gT G6 a0 = (1, 3) ∧ ∀ G7, G7 = sI G6 99 a0 0 → gT G7 a0 = (1, 3) ∧ ∀ G8, G8 = sI G7 100 a0 0 → gT G8 a0 = (1, 3) ∧ ∀ G9, G9 = sI G8 101 a0 65535 → gT G9 a0 = (1, 3) ∧ ∀ G10, G10 = sI G9 102 a0 5 → Pr G10
set_option maxRecDepth 20000 in
theorem mX2_init {X : Xt} {l : Launch} (hfl : l.stackTraces = false) {G : Gt} {a0 : Nat} {Pr : Gt → Prop} (h : wX2_init X G a0 Pr) : Mc X l yX2_init (.code yX2_init cX2_init 1 none) 1 20 [.ref a0] G (rV Pr) noX := by
  refine Mc.of (by decide +kernel) hfl [some (.ref a0)] rfl (Nat.le_of_ble_eq_true rfl) rfl ?_
  intro K hL C E0 hr hnm hex
  have B : BX X K l cX2_init 1 RX2 1 20 G none "<init>" := ⟨hL, C, E0, hr, hnm, hex, hfl⟩
  have C : Cx X K cX2_init 1 RX2 1 20 := C
  unfold wX2_init at h
  refine r_aloadR_n C 0 dX2_init_0 rfl rfl ?_
  refine r_objInit C oi_RX2_3 oi_inst oi_code rfl (Nat.le_of_ble_eq_true rfl) (Nat.le_of_ble_eq_true rfl) dX2_init_1 ?_
  refine r_aloadR_n C 0 dX2_init_4 rfl rfl ?_
  refine r_bipush C 32 dX2_init_5 (by decide) ?_
  obtain ⟨hr1, hr2, h⟩ := h
  refine r_newa C 32 (by decide) (by decide) (by decide) ac_int hr1 hr2 dX2_init_7 ?_
  refine r_nm (fun G1 hG1 => ?_)
  replace h := h G1 hG1
  obtain ⟨ht, h⟩ := h
  refine r_putRF C hnm cw_3 fp_RX2_9 rfl ht rfl rfl dX2_init_9 ?_
  refine r_nm (fun G2 hG2 => ?_)
  replace h := h G2 hG2
  refine r_aloadR_n C 0 dX2_init_12 rfl rfl ?_
  refine r_bipush C 6 dX2_init_13 (by decide) ?_
  obtain ⟨hr1, hr2, h⟩ := h
  refine r_newa C 6 (by decide) (by decide) (by decide) ac_int hr1 hr2 dX2_init_15 ?_
  refine r_nm (fun G3 hG3 => ?_)
  replace h := h G3 hG3
  obtain ⟨ht, h⟩ := h
  refine r_putRF C hnm cw_3 fp_RX2_15 rfl ht rfl rfl dX2_init_17 ?_
  refine r_nm (fun G4 hG4 => ?_)
  replace h := h G4 hG4
  refine r_aloadR_n C 0 dX2_init_20 rfl rfl ?_
  refine r_bipush C 6 dX2_init_21 (by decide) ?_
  obtain ⟨hr1, hr2, h⟩ := h
  refine r_newa C 6 (by decide) (by decide) (by decide) ac_int hr1 hr2 dX2_init_23 ?_
  refine r_nm (fun G5 hG5 => ?_)
  replace h := h G5 hG5
  obtain ⟨ht, h⟩ := h
  refine r_putRF C hnm cw_3 fp_RX2_18 rfl ht rfl rfl dX2_init_25 ?_
  refine r_nm (fun G6 hG6 => ?_)
  replace h := h G6 hG6
  refine r_aloadR_n C 0 dX2_init_28 rfl rfl ?_
  refine r_iconst C 0 dX2_init_29 (by decide) ?_
  obtain ⟨ht, h⟩ := h
  refine r_putI C cw_3 fp_RX2_21 rfl ht dX2_init_30 ?_
  refine r_nm (fun G7 hG7 => ?_)
  replace h := h G7 hG7
  refine r_aloadR_n C 0 dX2_init_33 rfl rfl ?_
  refine r_iconst C 0 dX2_init_34 (by decide) ?_
  obtain ⟨ht, h⟩ := h
  refine r_putI C cw_3 fp_RX2_25 rfl ht dX2_init_35 ?_
  refine r_nm (fun G8 hG8 => ?_)
  replace h := h G8 hG8
  refine r_aloadR_n C 0 dX2_init_38 rfl rfl ?_
  refine r_ldc C kc_RX2_28 dX2_init_39 ?_
  obtain ⟨ht, h⟩ := h
  refine r_putI C cw_3 fp_RX2_29 rfl ht dX2_init_41 ?_
  refine r_nm (fun G9 hG9 => ?_)
  replace h := h G9 hG9
  refine r_aloadR_n C 0 dX2_init_44 rfl rfl ?_
  refine r_iconst C 5 dX2_init_45 (by decide) ?_
  obtain ⟨ht, h⟩ := h
  refine r_putI C cw_3 fp_RX2_32 rfl ht dX2_init_46 ?_
  refine r_nm (fun G10 hG10 => ?_)
  replace h := h G10 hG10
  exact r_vret C E0 hr ⟨rfl, h⟩ dX2_init_49
def wJxa1e45_init_da8c8 (X : Xt) (G : Gt) (a0 : Nat) (Pr : Gt → Prop) : Prop := Pr G
set_option maxRecDepth 20000 in
theorem mJxa1e45_init_da8c8 {X : Xt} {l : Launch} (hfl : l.stackTraces = false) {G : Gt} {a0 : Nat} {Pr : Gt → Prop} (h : wJxa1e45_init_da8c8 X G a0 Pr) : Mc X l yJxa1e45_init_da8c8 (.code yJxa1e45_init_da8c8 cJxa1e45_init_da8c8 1 none) 1 20 [.ref a0] G (rV Pr) noX := by
  refine Mc.of (by decide +kernel) hfl [some (.ref a0)] rfl (Nat.le_of_ble_eq_true rfl) rfl ?_
  intro K hL C E0 hr hnm hex
  have B : BX X K l cJxa1e45_init_da8c8 1 RJxa1e45 1 20 G none "<init>" := ⟨hL, C, E0, hr, hnm, hex, hfl⟩
  have C : Cx X K cJxa1e45_init_da8c8 1 RJxa1e45 1 20 := C
  unfold wJxa1e45_init_da8c8 at h
  refine r_aloadR_n C 0 dJxa1e45_init_da8c8_0 rfl rfl ?_
  refine r_objInit C oi_RJxa1e45_1 oi_inst oi_code rfl (Nat.le_of_ble_eq_true rfl) (Nat.le_of_ble_eq_true rfl) dJxa1e45_init_da8c8_1 ?_
  exact r_vret C E0 hr ⟨rfl, h⟩ dJxa1e45_init_da8c8_4
def wJxc12de_init_da8c8 (X : Xt) (G : Gt) (a0 : Nat) (Pr : Gt → Prop) : Prop := wJxa1e45_init_da8c8 X G a0 (fun G1 => gT G1 a0 = (1, 0) ∧ ∀ G2, G2 = sI G1 0 a0 0 → Pr G2)
set_option maxRecDepth 20000 in
theorem mJxc12de_init_da8c8 {X : Xt} {l : Launch} (hfl : l.stackTraces = false) {G : Gt} {a0 : Nat} {Pr : Gt → Prop} (h : wJxc12de_init_da8c8 X G a0 Pr) : Mc X l yJxc12de_init_da8c8 (.code yJxc12de_init_da8c8 cJxc12de_init_da8c8 1 none) 2 40 [.ref a0] G (rV Pr) noX := by
  refine Mc.of (by decide +kernel) hfl [some (.ref a0)] rfl (Nat.le_of_ble_eq_true rfl) rfl ?_
  intro K hL C E0 hr hnm hex
  have B : BX X K l cJxc12de_init_da8c8 1 RJxc12de 2 40 G none "<init>" := ⟨hL, C, E0, hr, hnm, hex, hfl⟩
  have C : Cx X K cJxc12de_init_da8c8 1 RJxc12de 2 40 := C
  unfold wJxc12de_init_da8c8 at h
  refine r_aloadR_n C 0 dJxc12de_init_da8c8_0 rfl rfl ?_
  refine r_callI C hL yw_Jxa1e45_init_da8c8 iw_RJxc12de_1 rfl rfl (Nat.le_of_ble_eq_true rfl) ⟨(Nat.le_of_ble_eq_true rfl), (Nat.le_of_ble_eq_true rfl)⟩ (mJxa1e45_init_da8c8 hfl h) rfl dJxc12de_init_da8c8_1 (kV' (fun G1 h => ?_)) kN
  refine r_aloadR_n C 0 dJxc12de_init_da8c8_4 rfl rfl ?_
  refine r_iconst C 0 dJxc12de_init_da8c8_5 (by decide) ?_
  obtain ⟨ht, h⟩ := h
  refine r_putI C cw_0 fp_RJxc12de_7 rfl ht dJxc12de_init_da8c8_6 ?_
  refine r_nm (fun G2 hG2 => ?_)
  replace h := h G2 hG2
  exact r_vret C E0 hr ⟨rfl, h⟩ dJxc12de_init_da8c8_9
def wJx4a65c_init_da8c8 (X : Xt) (G : Gt) (a0 : Nat) (Pr : Gt → Prop) : Prop := wJxc12de_init_da8c8 X G a0 (fun G1 => gT G1 a0 = (1, 0) ∧ ∀ G2, G2 = sR G1 1 a0 (some (xde X)) → Pr G2)
set_option maxRecDepth 20000 in
theorem mJx4a65c_init_da8c8 {X : Xt} {l : Launch} (hfl : l.stackTraces = false) {G : Gt} {a0 : Nat} {Pr : Gt → Prop} (h : wJx4a65c_init_da8c8 X G a0 Pr) : Mc X l yJx4a65c_init_da8c8 (.code yJx4a65c_init_da8c8 cJx4a65c_init_da8c8 1 none) 3 60 [.ref a0] G (rV Pr) noX := by
  refine Mc.of (by decide +kernel) hfl [some (.ref a0)] rfl (Nat.le_of_ble_eq_true rfl) rfl ?_
  intro K hL C E0 hr hnm hex
  have B : BX X K l cJx4a65c_init_da8c8 1 RJx4a65c 3 60 G none "<init>" := ⟨hL, C, E0, hr, hnm, hex, hfl⟩
  have C : Cx X K cJx4a65c_init_da8c8 1 RJx4a65c 3 60 := C
  unfold wJx4a65c_init_da8c8 at h
  refine r_aloadR_n C 0 dJx4a65c_init_da8c8_0 rfl rfl ?_
  refine r_callI C hL yw_Jxc12de_init_da8c8 iw_RJx4a65c_1 rfl rfl (Nat.le_of_ble_eq_true rfl) ⟨(Nat.le_of_ble_eq_true rfl), (Nat.le_of_ble_eq_true rfl)⟩ (mJxc12de_init_da8c8 hfl h) rfl dJx4a65c_init_da8c8_1 (kV' (fun G1 h => ?_)) kN
  refine r_aloadR_n C 0 dJx4a65c_init_da8c8_4 rfl rfl ?_
  refine r_getsDE C sl_RJx4a65c_39 dJx4a65c_init_da8c8_5 ?_
  obtain ⟨ht, h⟩ := h
  refine r_putR C cw_0 fp_RJx4a65c_9 rfl ht rfl rfl dJx4a65c_init_da8c8_8 ?_
  refine r_nm (fun G2 hG2 => ?_)
  replace h := h G2 hG2
  exact r_vret C E0 hr ⟨rfl, h⟩ dJx4a65c_init_da8c8_11
def wX6_init (X : Xt) (G : Gt) (a0 : Nat) (Pr : Gt → Prop) : Prop := gH G + 1 ≤ xC X ∧ gU G + 3 ≤ xS X ∧ ∀ G1, G1 = nO G 0 3 → wJx4a65c_init_da8c8 X G1 (gH G) (fun G2 => gT G2 a0 = (1, 7) ∧ ∀ G3, G3 = sR G2 224 a0 (some (gH G)) → gT G3 a0 = (1, 7) ∧ ∀ G4, G4 = sJ G3 225 a0 (0 : Int64) → gT G4 a0 = (1, 7) ∧ ∀ G5, G5 = sI G4 226 a0 0 → gT G5 a0 = (1, 7) ∧ ∀ G6, G6 = sI G5 227 a0 1 → gT G6 a0 = (1, 7) ∧ ∀ G7, G7 = sI G6 228 a0 0 → gT G7 a0 = (1, 7) ∧ ∀ G8, G8 = sI G7 229 a0 0 → gT G8 a0 = (1, 7) ∧ ∀ G9, G9 = sI G8 230 a0 0 → Pr G9)
set_option maxRecDepth 20000 in
theorem mX6_init {X : Xt} {l : Launch} (hfl : l.stackTraces = false) {G : Gt} {a0 : Nat} {Pr : Gt → Prop} (h : wX6_init X G a0 Pr) : Mc X l yX6_init (.code yX6_init cX6_init 1 none) 4 80 [.ref a0] G (rV Pr) noX := by
  refine Mc.of (by decide +kernel) hfl [some (.ref a0)] rfl (Nat.le_of_ble_eq_true rfl) rfl ?_
  intro K hL C E0 hr hnm hex
  have B : BX X K l cX6_init 1 RX6 4 80 G none "<init>" := ⟨hL, C, E0, hr, hnm, hex, hfl⟩
  have C : Cx X K cX6_init 1 RX6 4 80 := C
  unfold wX6_init at h
  refine r_aloadR_n C 0 dX6_init_0 rfl rfl ?_
  refine r_objInit C oi_RX6_3 oi_inst oi_code rfl (Nat.le_of_ble_eq_true rfl) (Nat.le_of_ble_eq_true rfl) dX6_init_1 ?_
  refine r_aloadR_n C 0 dX6_init_4 rfl rfl ?_
  obtain ⟨hr1, hr2, h⟩ := h
  refine r_new C cw_0 (T := TJx4a65c) (N := 3) rfl cl_RX6_9 hr1 hr2 dX6_init_5 ?_
  refine r_nm (fun G1 hG1 => ?_)
  replace h := h G1 hG1
  refine r_dup C dX6_init_8 rfl ?_
  refine r_callI C hL yw_Jx4a65c_init_da8c8 iw_RX6_11 rfl rfl (Nat.le_of_ble_eq_true rfl) ⟨(Nat.le_of_ble_eq_true rfl), (Nat.le_of_ble_eq_true rfl)⟩ (mJx4a65c_init_da8c8 hfl h) rfl dX6_init_9 (kV' (fun G2 h => ?_)) kN
  obtain ⟨ht, h⟩ := h
  refine r_putRF C hnm cw_7 fp_RX6_12 rfl ht rfl rfl dX6_init_12 ?_
  refine r_nm (fun G3 hG3 => ?_)
  replace h := h G3 hG3
  refine r_aloadR_n C 0 dX6_init_15 rfl rfl ?_
  refine r_lconst C 0 dX6_init_16 (by decide) ?_
  obtain ⟨ht, h⟩ := h
  refine r_putJ C cw_7 fp_RX6_18 rfl ht dX6_init_17 ?_
  refine r_nm (fun G4 hG4 => ?_)
  replace h := h G4 hG4
  refine r_aloadR_n C 0 dX6_init_20 rfl rfl ?_
  refine r_iconst C 0 dX6_init_21 (by decide) ?_
  obtain ⟨ht, h⟩ := h
  refine r_putI C cw_7 fp_RX6_22 rfl ht dX6_init_22 ?_
  refine r_nm (fun G5 hG5 => ?_)
  replace h := h G5 hG5
  refine r_aloadR_n C 0 dX6_init_25 rfl rfl ?_
  refine r_iconst C 1 dX6_init_26 (by decide) ?_
  obtain ⟨ht, h⟩ := h
  refine r_putI C cw_7 fp_RX6_26 rfl ht dX6_init_27 ?_
  refine r_nm (fun G6 hG6 => ?_)
  replace h := h G6 hG6
  refine r_aloadR_n C 0 dX6_init_30 rfl rfl ?_
  refine r_iconst C 0 dX6_init_31 (by decide) ?_
  obtain ⟨ht, h⟩ := h
  refine r_putZ C cw_7 fp_RX6_29 rfl ht (Or.inl rfl) dX6_init_32 ?_
  refine r_nm (fun G7 hG7 => ?_)
  replace h := h G7 hG7
  refine r_aloadR_n C 0 dX6_init_35 rfl rfl ?_
  refine r_iconst C 0 dX6_init_36 (by decide) ?_
  obtain ⟨ht, h⟩ := h
  refine r_putI C cw_7 fp_RX6_33 rfl ht dX6_init_37 ?_
  refine r_nm (fun G8 hG8 => ?_)
  replace h := h G8 hG8
  refine r_aloadR_n C 0 dX6_init_40 rfl rfl ?_
  refine r_iconst C 0 dX6_init_41 (by decide) ?_
  obtain ⟨ht, h⟩ := h
  refine r_putI C cw_7 fp_RX6_36 rfl ht dX6_init_42 ?_
  refine r_nm (fun G9 hG9 => ?_)
  replace h := h G9 hG9
  exact r_vret C E0 hr ⟨rfl, h⟩ dX6_init_45
def wX4_init (X : Xt) (G : Gt) (a0 : Nat) (Pr : Gt → Prop) : Prop := gH G + 1 ≤ xC X ∧ gU G + 3 ≤ xS X ∧ ∀ G1, G1 = nO G 0 3 → wJx4a65c_init_da8c8 X G1 (gH G) (fun G2 => gT G2 a0 = (1, 5) ∧ ∀ G3, G3 = sR G2 160 a0 (some (gH G)) → gH G3 + 1 ≤ xC X ∧ gU G3 + 3 ≤ xS X ∧ ∀ G4, G4 = nO G3 0 3 → wJx4a65c_init_da8c8 X G4 (gH G3) (fun G5 => gT G5 a0 = (1, 5) ∧ ∀ G6, G6 = sR G5 161 a0 (some (gH G3)) → Pr G6))
set_option maxRecDepth 20000 in
theorem mX4_init {X : Xt} {l : Launch} (hfl : l.stackTraces = false) {G : Gt} {a0 : Nat} {Pr : Gt → Prop} (h : wX4_init X G a0 Pr) : Mc X l yX4_init (.code yX4_init cX4_init 1 none) 4 80 [.ref a0] G (rV Pr) noX := by
  refine Mc.of (by decide +kernel) hfl [some (.ref a0)] rfl (Nat.le_of_ble_eq_true rfl) rfl ?_
  intro K hL C E0 hr hnm hex
  have B : BX X K l cX4_init 1 RX4 4 80 G none "<init>" := ⟨hL, C, E0, hr, hnm, hex, hfl⟩
  have C : Cx X K cX4_init 1 RX4 4 80 := C
  unfold wX4_init at h
  refine r_aloadR_n C 0 dX4_init_0 rfl rfl ?_
  refine r_objInit C oi_RX4_1 oi_inst oi_code rfl (Nat.le_of_ble_eq_true rfl) (Nat.le_of_ble_eq_true rfl) dX4_init_1 ?_
  refine r_aloadR_n C 0 dX4_init_4 rfl rfl ?_
  obtain ⟨hr1, hr2, h⟩ := h
  refine r_new C cw_0 (T := TJx4a65c) (N := 3) rfl cl_RX4_7 hr1 hr2 dX4_init_5 ?_
  refine r_nm (fun G1 hG1 => ?_)
  replace h := h G1 hG1
  refine r_dup C dX4_init_8 rfl ?_
  refine r_callI C hL yw_Jx4a65c_init_da8c8 iw_RX4_9 rfl rfl (Nat.le_of_ble_eq_true rfl) ⟨(Nat.le_of_ble_eq_true rfl), (Nat.le_of_ble_eq_true rfl)⟩ (mJx4a65c_init_da8c8 hfl h) rfl dX4_init_9 (kV' (fun G2 h => ?_)) kN
  obtain ⟨ht, h⟩ := h
  refine r_putRF C hnm cw_5 fp_RX4_10 rfl ht rfl rfl dX4_init_12 ?_
  refine r_nm (fun G3 hG3 => ?_)
  replace h := h G3 hG3
  refine r_aloadR_n C 0 dX4_init_15 rfl rfl ?_
  obtain ⟨hr1, hr2, h⟩ := h
  refine r_new C cw_0 (T := TJx4a65c) (N := 3) rfl cl_RX4_7 hr1 hr2 dX4_init_16 ?_
  refine r_nm (fun G4 hG4 => ?_)
  replace h := h G4 hG4
  refine r_dup C dX4_init_19 rfl ?_
  refine r_callI C hL yw_Jx4a65c_init_da8c8 iw_RX4_9 rfl rfl (Nat.le_of_ble_eq_true rfl) ⟨(Nat.le_of_ble_eq_true rfl), (Nat.le_of_ble_eq_true rfl)⟩ (mJx4a65c_init_da8c8 hfl h) rfl dX4_init_20 (kV' (fun G5 h => ?_)) kN
  obtain ⟨ht, h⟩ := h
  refine r_putRF C hnm cw_5 fp_RX4_16 rfl ht rfl rfl dX4_init_23 ?_
  refine r_nm (fun G6 hG6 => ?_)
  replace h := h G6 hG6
  exact r_vret C E0 hr ⟨rfl, h⟩ dX4_init_26
def wX3_init (X : Xt) (G : Gt) (a0 : Nat) (Pr : Gt → Prop) : Prop := gH G + 1 ≤ xC X ∧ gU G + 37 ≤ xS X ∧ ∀ G1, G1 = nA G 37 → gT G1 a0 = (1, 4) ∧ ∀ G2, G2 = sR G1 128 a0 (some (gH G)) → gT G2 a0 = (1, 4) ∧ ∀ G3, G3 = sI G2 129 a0 0 → Pr G3
set_option maxRecDepth 20000 in
theorem mX3_init {X : Xt} {l : Launch} (hfl : l.stackTraces = false) {G : Gt} {a0 : Nat} {Pr : Gt → Prop} (h : wX3_init X G a0 Pr) : Mc X l yX3_init (.code yX3_init cX3_init 1 none) 1 20 [.ref a0] G (rV Pr) noX := by
  refine Mc.of (by decide +kernel) hfl [some (.ref a0)] rfl (Nat.le_of_ble_eq_true rfl) rfl ?_
  intro K hL C E0 hr hnm hex
  have B : BX X K l cX3_init 1 RX3 1 20 G none "<init>" := ⟨hL, C, E0, hr, hnm, hex, hfl⟩
  have C : Cx X K cX3_init 1 RX3 1 20 := C
  unfold wX3_init at h
  refine r_aloadR_n C 0 dX3_init_0 rfl rfl ?_
  refine r_objInit C oi_RX3_3 oi_inst oi_code rfl (Nat.le_of_ble_eq_true rfl) (Nat.le_of_ble_eq_true rfl) dX3_init_1 ?_
  refine r_aloadR_n C 0 dX3_init_4 rfl rfl ?_
  refine r_bipush C 37 dX3_init_5 (by decide) ?_
  obtain ⟨hr1, hr2, h⟩ := h
  refine r_newa C 37 (by decide) (by decide) (by decide) ac_int hr1 hr2 dX3_init_7 ?_
  refine r_nm (fun G1 hG1 => ?_)
  replace h := h G1 hG1
  obtain ⟨ht, h⟩ := h
  refine r_putRF C hnm cw_4 fp_RX3_9 rfl ht rfl rfl dX3_init_9 ?_
  refine r_nm (fun G2 hG2 => ?_)
  replace h := h G2 hG2
  refine r_aloadR_n C 0 dX3_init_12 rfl rfl ?_
  refine r_iconst C 0 dX3_init_13 (by decide) ?_
  obtain ⟨ht, h⟩ := h
  refine r_putI C cw_4 fp_RX3_15 rfl ht dX3_init_14 ?_
  refine r_nm (fun G3 hG3 => ?_)
  replace h := h G3 hG3
  exact r_vret C E0 hr ⟨rfl, h⟩ dX3_init_17
def wX1_init (X : Xt) (G : Gt) (a0 : Nat) (Pr : Gt → Prop) : Prop := gH G + 1 ≤ xC X ∧ gU G + 5 ≤ xS X ∧ ∀ G1, G1 = nA G 5 → (gT G1 (gH G)).1 = 2 ∧ vp_in 0 (gT G1 (gH G)).2 ∧ ∀ G2, G2 = sA G1 (gH G) (upd (gA G1 (gH G)) (0 : Int32).toNatClampNeg 50) → (gT G2 (gH G)).1 = 2 ∧ vp_in 1 (gT G2 (gH G)).2 ∧ ∀ G3, G3 = sA G2 (gH G) (upd (gA G2 (gH G)) (1 : Int32).toNatClampNeg 30) → (gT G3 (gH G)).1 = 2 ∧ vp_in 2 (gT G3 (gH G)).2 ∧ ∀ G4, G4 = sA G3 (gH G) (upd (gA G3 (gH G)) (2 : Int32).toNatClampNeg 1) → (gT G4 (gH G)).1 = 2 ∧ vp_in 3 (gT G4 (gH G)).2 ∧ ∀ G5, G5 = sA G4 (gH G) (upd (gA G4 (gH G)) (3 : Int32).toNatClampNeg 0) → (gT G5 (gH G)).1 = 2 ∧ vp_in 4 (gT G5 (gH G)).2 ∧ ∀ G6, G6 = sA G5 (gH G) (upd (gA G5 (gH G)) (4 : Int32).toNatClampNeg 1) → gT G6 a0 = (1, 2) ∧ ∀ G7, G7 = sR G6 64 a0 (some (gH G)) → gH G7 + 1 ≤ xC X ∧ gU G7 + 6 ≤ xS X ∧ ∀ G8, G8 = nA G7 6 → gT G8 a0 = (1, 2) ∧ ∀ G9, G9 = sR G8 65 a0 (some (gH G7)) → gH G9 + 1 ≤ xC X ∧ gU G9 + 3 ≤ xS X ∧ ∀ G10, G10 = nB G9 4 3 → gH G10 + 1 ≤ xC X ∧ gU G10 + 7 ≤ xS X ∧ ∀ G11, G11 = nO G10 3 7 → wX2_init X G11 (gH G10) (fun G12 => (gT G12 (gH G9)).1 = 4 ∧ vp_in 0 (gT G12 (gH G9)).2 ∧ gT G12 (gH G10) = (1, 3) ∧ ∀ G13, G13 = sB G12 (gH G9) (va_up (gB G12 (gH G9)) (0 : Int32).toNatClampNeg (some (gH G10))) → gH G13 + 1 ≤ xC X ∧ gU G13 + 7 ≤ xS X ∧ ∀ G14, G14 = nO G13 3 7 → wX2_init X G14 (gH G13) (fun G15 => (gT G15 (gH G9)).1 = 4 ∧ vp_in 1 (gT G15 (gH G9)).2 ∧ gT G15 (gH G13) = (1, 3) ∧ ∀ G16, G16 = sB G15 (gH G9) (va_up (gB G15 (gH G9)) (1 : Int32).toNatClampNeg (some (gH G13))) → gH G16 + 1 ≤ xC X ∧ gU G16 + 7 ≤ xS X ∧ ∀ G17, G17 = nO G16 3 7 → wX2_init X G17 (gH G16) (fun G18 => (gT G18 (gH G9)).1 = 4 ∧ vp_in 2 (gT G18 (gH G9)).2 ∧ gT G18 (gH G16) = (1, 3) ∧ ∀ G19, G19 = sB G18 (gH G9) (va_up (gB G18 (gH G9)) (2 : Int32).toNatClampNeg (some (gH G16))) → gT G19 a0 = (1, 2) ∧ ∀ G20, G20 = sR G19 66 a0 (some (gH G9)) → gH G20 + 1 ≤ xC X ∧ gU G20 + 2 ≤ xS X ∧ ∀ G21, G21 = nO G20 1 2 → wX0_init X G21 (gH G20) (fun G22 => gT G22 a0 = (1, 2) ∧ ∀ G23, G23 = sR G22 67 a0 (some (gH G20)) → gH G23 + 1 ≤ xC X ∧ gU G23 + 7 ≤ xS X ∧ ∀ G24, G24 = nO G23 7 7 → wX6_init X G24 (gH G23) (fun G25 => gT G25 a0 = (1, 2) ∧ ∀ G26, G26 = sR G25 68 a0 (some (gH G23)) → gH G26 + 1 ≤ xC X ∧ gU G26 + 2 ≤ xS X ∧ ∀ G27, G27 = nO G26 5 2 → wX4_init X G27 (gH G26) (fun G28 => gT G28 a0 = (1, 2) ∧ ∀ G29, G29 = sR G28 69 a0 (some (gH G26)) → gH G29 + 1 ≤ xC X ∧ gU G29 + 2 ≤ xS X ∧ ∀ G30, G30 = nO G29 4 2 → wX3_init X G30 (gH G29) (fun G31 => gT G31 a0 = (1, 2) ∧ ∀ G32, G32 = sR G31 70 a0 (some (gH G29)) → gT G32 a0 = (1, 2) ∧ ∀ G33, G33 = sI G32 71 a0 0 → gT G33 a0 = (1, 2) ∧ ∀ G34, G34 = sI G33 72 a0 0 → gT G34 a0 = (1, 2) ∧ ∀ G35, G35 = sI G34 73 a0 0 → gT G35 a0 = (1, 2) ∧ ∀ G36, G36 = sI G35 74 a0 0 → Pr G36)))))))
set_option maxRecDepth 20000 in
theorem mX1_init {X : Xt} {l : Launch} (hfl : l.stackTraces = false) {G : Gt} {a0 : Nat} {Pr : Gt → Prop} (h : wX1_init X G a0 Pr) : Mc X l yX1_init (.code yX1_init cX1_init 1 none) 5 100 [.ref a0] G (rV Pr) noX := by
  refine Mc.of (by decide +kernel) hfl [some (.ref a0)] rfl (Nat.le_of_ble_eq_true rfl) rfl ?_
  intro K hL C E0 hr hnm hex
  have B : BX X K l cX1_init 1 RX1 5 100 G none "<init>" := ⟨hL, C, E0, hr, hnm, hex, hfl⟩
  have C : Cx X K cX1_init 1 RX1 5 100 := C
  unfold wX1_init at h
  refine r_aloadR_n C 0 dX1_init_0 rfl rfl ?_
  refine r_objInit C oi_RX1_3 oi_inst oi_code rfl (Nat.le_of_ble_eq_true rfl) (Nat.le_of_ble_eq_true rfl) dX1_init_1 ?_
  refine r_aloadR_n C 0 dX1_init_4 rfl rfl ?_
  refine r_iconst C 5 dX1_init_5 (by decide) ?_
  obtain ⟨hr1, hr2, h⟩ := h
  refine r_newa C 5 (by decide) (by decide) (by decide) ac_int hr1 hr2 dX1_init_6 ?_
  refine r_nm (fun G1 hG1 => ?_)
  replace h := h G1 hG1
  refine r_dup C dX1_init_8 rfl ?_
  refine r_iconst C 0 dX1_init_9 (by decide) ?_
  refine r_bipush C 50 dX1_init_10 (by decide) ?_
  obtain ⟨ht, hi, h⟩ := h
  refine r_iastP C ht hi dX1_init_12 ?_
  refine r_nm (fun G2 hG2 => ?_)
  replace h := h G2 hG2
  refine r_dup C dX1_init_13 rfl ?_
  refine r_iconst C 1 dX1_init_14 (by decide) ?_
  refine r_bipush C 30 dX1_init_15 (by decide) ?_
  obtain ⟨ht, hi, h⟩ := h
  refine r_iastP C ht hi dX1_init_17 ?_
  refine r_nm (fun G3 hG3 => ?_)
  replace h := h G3 hG3
  refine r_dup C dX1_init_18 rfl ?_
  refine r_iconst C 2 dX1_init_19 (by decide) ?_
  refine r_iconst C 1 dX1_init_20 (by decide) ?_
  obtain ⟨ht, hi, h⟩ := h
  refine r_iastP C ht hi dX1_init_21 ?_
  refine r_nm (fun G4 hG4 => ?_)
  replace h := h G4 hG4
  refine r_dup C dX1_init_22 rfl ?_
  refine r_iconst C 3 dX1_init_23 (by decide) ?_
  refine r_iconst C 0 dX1_init_24 (by decide) ?_
  obtain ⟨ht, hi, h⟩ := h
  refine r_iastP C ht hi dX1_init_25 ?_
  refine r_nm (fun G5 hG5 => ?_)
  replace h := h G5 hG5
  refine r_dup C dX1_init_26 rfl ?_
  refine r_iconst C 4 dX1_init_27 (by decide) ?_
  refine r_iconst C 1 dX1_init_28 (by decide) ?_
  obtain ⟨ht, hi, h⟩ := h
  refine r_iastP C ht hi dX1_init_29 ?_
  refine r_nm (fun G6 hG6 => ?_)
  replace h := h G6 hG6
  obtain ⟨ht, h⟩ := h
  refine r_putRF C hnm cw_2 fp_RX1_9 rfl ht rfl rfl dX1_init_30 ?_
  refine r_nm (fun G7 hG7 => ?_)
  replace h := h G7 hG7
  refine r_aloadR_n C 0 dX1_init_33 rfl rfl ?_
  refine r_bipush C 6 dX1_init_34 (by decide) ?_
  obtain ⟨hr1, hr2, h⟩ := h
  refine r_newa C 6 (by decide) (by decide) (by decide) ac_int hr1 hr2 dX1_init_36 ?_
  refine r_nm (fun G8 hG8 => ?_)
  replace h := h G8 hG8
  obtain ⟨ht, h⟩ := h
  refine r_putRF C hnm cw_2 fp_RX1_15 rfl ht rfl rfl dX1_init_38 ?_
  refine r_nm (fun G9 hG9 => ?_)
  replace h := h G9 hG9
  refine r_aloadR_n C 0 dX1_init_41 rfl rfl ?_
  refine r_iconst C 3 dX1_init_42 (by decide) ?_
  obtain ⟨hr1, hr2, h⟩ := h
  refine r_anew4 C 3 (by decide) (by decide) (by decide) cl_RX1_18 hr1 hr2 dX1_init_43 ?_
  refine r_nm (fun G10 hG10 => ?_)
  replace h := h G10 hG10
  refine r_dup C dX1_init_46 rfl ?_
  refine r_iconst C 0 dX1_init_47 (by decide) ?_
  obtain ⟨hr1, hr2, h⟩ := h
  refine r_new C cw_3 (T := TX2) (N := 7) rfl cl_RX1_18 hr1 hr2 dX1_init_48 ?_
  refine r_nm (fun G11 hG11 => ?_)
  replace h := h G11 hG11
  refine r_dup C dX1_init_51 rfl ?_
  refine r_callNI C hL yw_X2_init ni_RX1_20 rfl rfl (Nat.le_of_ble_eq_true rfl) ⟨(Nat.le_of_ble_eq_true rfl), (Nat.le_of_ble_eq_true rfl)⟩ (mX2_init hfl h) rfl dX1_init_52 (kV' (fun G12 h => ?_)) kN
  obtain ⟨ht, hi, h⟩ := h
  obtain ⟨hv, h⟩ := h
  refine r_aast4 C (gTp ht) hv hi dX1_init_55 ?_
  refine r_nm (fun G13 hG13 => ?_)
  replace h := h G13 hG13
  refine r_dup C dX1_init_56 rfl ?_
  refine r_iconst C 1 dX1_init_57 (by decide) ?_
  obtain ⟨hr1, hr2, h⟩ := h
  refine r_new C cw_3 (T := TX2) (N := 7) rfl cl_RX1_18 hr1 hr2 dX1_init_58 ?_
  refine r_nm (fun G14 hG14 => ?_)
  replace h := h G14 hG14
  refine r_dup C dX1_init_61 rfl ?_
  refine r_callNI C hL yw_X2_init ni_RX1_20 rfl rfl (Nat.le_of_ble_eq_true rfl) ⟨(Nat.le_of_ble_eq_true rfl), (Nat.le_of_ble_eq_true rfl)⟩ (mX2_init hfl h) rfl dX1_init_62 (kV' (fun G15 h => ?_)) kN
  obtain ⟨ht, hi, h⟩ := h
  obtain ⟨hv, h⟩ := h
  refine r_aast4 C (gTp ht) hv hi dX1_init_65 ?_
  refine r_nm (fun G16 hG16 => ?_)
  replace h := h G16 hG16
  refine r_dup C dX1_init_66 rfl ?_
  refine r_iconst C 2 dX1_init_67 (by decide) ?_
  obtain ⟨hr1, hr2, h⟩ := h
  refine r_new C cw_3 (T := TX2) (N := 7) rfl cl_RX1_18 hr1 hr2 dX1_init_68 ?_
  refine r_nm (fun G17 hG17 => ?_)
  replace h := h G17 hG17
  refine r_dup C dX1_init_71 rfl ?_
  refine r_callNI C hL yw_X2_init ni_RX1_20 rfl rfl (Nat.le_of_ble_eq_true rfl) ⟨(Nat.le_of_ble_eq_true rfl), (Nat.le_of_ble_eq_true rfl)⟩ (mX2_init hfl h) rfl dX1_init_72 (kV' (fun G18 h => ?_)) kN
  obtain ⟨ht, hi, h⟩ := h
  obtain ⟨hv, h⟩ := h
  refine r_aast4 C (gTp ht) hv hi dX1_init_75 ?_
  refine r_nm (fun G19 hG19 => ?_)
  replace h := h G19 hG19
  obtain ⟨ht, h⟩ := h
  refine r_putRF C hnm cw_2 fp_RX1_21 rfl ht rfl rfl dX1_init_76 ?_
  refine r_nm (fun G20 hG20 => ?_)
  replace h := h G20 hG20
  refine r_aloadR_n C 0 dX1_init_79 rfl rfl ?_
  obtain ⟨hr1, hr2, h⟩ := h
  refine r_new C cw_1 (T := TX0) (N := 2) rfl cl_RX1_25 hr1 hr2 dX1_init_80 ?_
  refine r_nm (fun G21 hG21 => ?_)
  replace h := h G21 hG21
  refine r_dup C dX1_init_83 rfl ?_
  refine r_callI C hL yw_X0_init iw_RX1_27 rfl rfl (Nat.le_of_ble_eq_true rfl) ⟨(Nat.le_of_ble_eq_true rfl), (Nat.le_of_ble_eq_true rfl)⟩ (mX0_init hfl h) rfl dX1_init_84 (kV' (fun G22 h => ?_)) kN
  obtain ⟨ht, h⟩ := h
  refine r_putRF C hnm cw_2 fp_RX1_28 rfl ht rfl rfl dX1_init_87 ?_
  refine r_nm (fun G23 hG23 => ?_)
  replace h := h G23 hG23
  refine r_aloadR_n C 0 dX1_init_90 rfl rfl ?_
  obtain ⟨hr1, hr2, h⟩ := h
  refine r_new C cw_7 (T := TX6) (N := 7) rfl cl_RX1_32 hr1 hr2 dX1_init_91 ?_
  refine r_nm (fun G24 hG24 => ?_)
  replace h := h G24 hG24
  refine r_dup C dX1_init_94 rfl ?_
  refine r_callNI C hL yw_X6_init ni_RX1_34 rfl rfl (Nat.le_of_ble_eq_true rfl) ⟨(Nat.le_of_ble_eq_true rfl), (Nat.le_of_ble_eq_true rfl)⟩ (mX6_init hfl h) rfl dX1_init_95 (kV' (fun G25 h => ?_)) kN
  obtain ⟨ht, h⟩ := h
  refine r_putRF C hnm cw_2 fp_RX1_35 rfl ht rfl rfl dX1_init_98 ?_
  refine r_nm (fun G26 hG26 => ?_)
  replace h := h G26 hG26
  refine r_aloadR_n C 0 dX1_init_101 rfl rfl ?_
  obtain ⟨hr1, hr2, h⟩ := h
  refine r_new C cw_5 (T := TX4) (N := 2) rfl cl_RX1_39 hr1 hr2 dX1_init_102 ?_
  refine r_nm (fun G27 hG27 => ?_)
  replace h := h G27 hG27
  refine r_dup C dX1_init_105 rfl ?_
  refine r_callNI C hL yw_X4_init ni_RX1_41 rfl rfl (Nat.le_of_ble_eq_true rfl) ⟨(Nat.le_of_ble_eq_true rfl), (Nat.le_of_ble_eq_true rfl)⟩ (mX4_init hfl h) rfl dX1_init_106 (kV' (fun G28 h => ?_)) kN
  obtain ⟨ht, h⟩ := h
  refine r_putRF C hnm cw_2 fp_RX1_42 rfl ht rfl rfl dX1_init_109 ?_
  refine r_nm (fun G29 hG29 => ?_)
  replace h := h G29 hG29
  refine r_aloadR_n C 0 dX1_init_112 rfl rfl ?_
  obtain ⟨hr1, hr2, h⟩ := h
  refine r_new C cw_4 (T := TX3) (N := 2) rfl cl_RX1_46 hr1 hr2 dX1_init_113 ?_
  refine r_nm (fun G30 hG30 => ?_)
  replace h := h G30 hG30
  refine r_dup C dX1_init_116 rfl ?_
  refine r_callNI C hL yw_X3_init ni_RX1_48 rfl rfl (Nat.le_of_ble_eq_true rfl) ⟨(Nat.le_of_ble_eq_true rfl), (Nat.le_of_ble_eq_true rfl)⟩ (mX3_init hfl h) rfl dX1_init_117 (kV' (fun G31 h => ?_)) kN
  obtain ⟨ht, h⟩ := h
  refine r_putRF C hnm cw_2 fp_RX1_49 rfl ht rfl rfl dX1_init_120 ?_
  refine r_nm (fun G32 hG32 => ?_)
  replace h := h G32 hG32
  refine r_aloadR_n C 0 dX1_init_123 rfl rfl ?_
  refine r_iconst C 0 dX1_init_124 (by decide) ?_
  obtain ⟨ht, h⟩ := h
  refine r_putI C cw_2 fp_RX1_53 rfl ht dX1_init_125 ?_
  refine r_nm (fun G33 hG33 => ?_)
  replace h := h G33 hG33
  refine r_aloadR_n C 0 dX1_init_128 rfl rfl ?_
  refine r_iconst C 0 dX1_init_129 (by decide) ?_
  obtain ⟨ht, h⟩ := h
  refine r_putI C cw_2 fp_RX1_57 rfl ht dX1_init_130 ?_
  refine r_nm (fun G34 hG34 => ?_)
  replace h := h G34 hG34
  refine r_aloadR_n C 0 dX1_init_133 rfl rfl ?_
  refine r_iconst C 0 dX1_init_134 (by decide) ?_
  obtain ⟨ht, h⟩ := h
  refine r_putZ C cw_2 fp_RX1_60 rfl ht (Or.inl rfl) dX1_init_135 ?_
  refine r_nm (fun G35 hG35 => ?_)
  replace h := h G35 hG35
  refine r_aloadR_n C 0 dX1_init_138 rfl rfl ?_
  refine r_iconst C 0 dX1_init_139 (by decide) ?_
  obtain ⟨ht, h⟩ := h
  refine r_putZ C cw_2 fp_RX1_64 rfl ht (Or.inl rfl) dX1_init_140 ?_
  refine r_nm (fun G36 hG36 => ?_)
  replace h := h G36 hG36
  exact r_vret C E0 hr ⟨rfl, h⟩ dX1_init_143
def wX2_copyFrom (X : Xt) (G : Gt) (a0 : Nat) (a1 : Nat) (Pr : Gt → Prop) : Prop := gT G a1 = (1, 3) ∧ ∃ b1, gR G 96 a1 = some b1 ∧ gT G a0 = (1, 3) ∧ ∃ b2, gR G 96 a0 = some b2 ∧ (gT G b1).1 = 2 ∧ (gT G b2).1 = 2 ∧ ¬ (0 : Int32) < 0 ∧ ¬ (0 : Int32) < 0 ∧ ¬ (32 : Int32) < 0 ∧ (0 : Int32).toNatClampNeg + (32 : Int32).toNatClampNeg ≤ (gT G b1).2 ∧ (0 : Int32).toNatClampNeg + (32 : Int32).toNatClampNeg ≤ (gT G b2).2 ∧ ∀ G3, G3 = sA G b2 (va_cpy (gA G b1) (gA G b2) (0 : Int32).toNatClampNeg (0 : Int32).toNatClampNeg (32 : Int32).toNatClampNeg) → gT G3 a1 = (1, 3) ∧ ∃ b4, gR G3 97 a1 = some b4 ∧ gT G3 a0 = (1, 3) ∧ ∃ b5, gR G3 97 a0 = some b5 ∧ (gT G3 b4).1 = 2 ∧ (gT G3 b5).1 = 2 ∧ ¬ (0 : Int32) < 0 ∧ ¬ (0 : Int32) < 0 ∧ ¬ (6 : Int32) < 0 ∧ (0 : Int32).toNatClampNeg + (6 : Int32).toNatClampNeg ≤ (gT G3 b4).2 ∧ (0 : Int32).toNatClampNeg + (6 : Int32).toNatClampNeg ≤ (gT G3 b5).2 ∧ ∀ G6, G6 = sA G3 b5 (va_cpy (gA G3 b4) (gA G3 b5) (0 : Int32).toNatClampNeg (0 : Int32).toNatClampNeg (6 : Int32).toNatClampNeg) → gT G6 a1 = (1, 3) ∧ ∃ b7, gR G6 98 a1 = some b7 ∧ gT G6 a0 = (1, 3) ∧ ∃ b8, gR G6 98 a0 = some b8 ∧ (gT G6 b7).1 = 2 ∧ (gT G6 b8).1 = 2 ∧ ¬ (0 : Int32) < 0 ∧ ¬ (0 : Int32) < 0 ∧ ¬ (6 : Int32) < 0 ∧ (0 : Int32).toNatClampNeg + (6 : Int32).toNatClampNeg ≤ (gT G6 b7).2 ∧ (0 : Int32).toNatClampNeg + (6 : Int32).toNatClampNeg ≤ (gT G6 b8).2 ∧ ∀ G9, G9 = sA G6 b8 (va_cpy (gA G6 b7) (gA G6 b8) (0 : Int32).toNatClampNeg (0 : Int32).toNatClampNeg (6 : Int32).toNatClampNeg) → gT G9 a1 = (1, 3) ∧ gT G9 a0 = (1, 3) ∧ ∀ G10, G10 = sI G9 99 a0 (gI G9 99 a1) → gT G10 a1 = (1, 3) ∧ gT G10 a0 = (1, 3) ∧ ∀ G11, G11 = sI G10 100 a0 (gI G10 100 a1) → gT G11 a1 = (1, 3) ∧ gT G11 a0 = (1, 3) ∧ ∀ G12, G12 = sI G11 101 a0 (gI G11 101 a1) → gT G12 a1 = (1, 3) ∧ gT G12 a0 = (1, 3) ∧ ∀ G13, G13 = sI G12 102 a0 (gI G12 102 a1) → Pr G13
set_option maxRecDepth 20000 in
theorem mX2_copyFrom {X : Xt} {l : Launch} (hfl : l.stackTraces = false) {G : Gt} {a0 : Nat} {a1 : Nat} {Pr : Gt → Prop} (h : wX2_copyFrom X G a0 a1 Pr) : Mc X l yX2_copyFrom (.code yX2_copyFrom cX2_copyFrom 2 none) 1 40 [.ref a0, .ref a1] G (rV Pr) noX := by
  refine Mc.of (by decide +kernel) hfl [some (.ref a0), some (.ref a1)] rfl (Nat.le_of_ble_eq_true rfl) rfl ?_
  intro K hL C E0 hr hnm hex
  have B : BX X K l cX2_copyFrom 2 RX2 1 40 G none "copyFrom" := ⟨hL, C, E0, hr, hnm, hex, hfl⟩
  have C : Cx X K cX2_copyFrom 2 RX2 1 40 := C
  unfold wX2_copyFrom at h
  refine r_aloadR_n C 1 dX2_copyFrom_0 rfl rfl ?_
  obtain ⟨ht, h⟩ := h
  obtain ⟨b1, hb, h⟩ := h
  refine r_getR C fw_RX2_9 rfl ht hb dX2_copyFrom_1 ?_
  refine r_iconst C 0 dX2_copyFrom_4 (by decide) ?_
  refine r_aloadR_n C 0 dX2_copyFrom_5 rfl rfl ?_
  obtain ⟨ht, h⟩ := h
  obtain ⟨b2, hb, h⟩ := h
  refine r_getR C fw_RX2_9 rfl ht hb dX2_copyFrom_6 ?_
  refine r_iconst C 0 dX2_copyFrom_9 (by decide) ?_
  refine r_bipush C 32 dX2_copyFrom_10 (by decide) ?_
  obtain ⟨q1, q2, q3, q4, q5, q6, q7, h⟩ := h
  refine r_copyI C ac_RX2_35 q1 q2 q3 q4 q5 q6 q7 rfl (Nat.le_of_ble_eq_true rfl) (Nat.le_of_ble_eq_true rfl) dX2_copyFrom_12 ?_
  refine r_nm (fun G3 hG3 => ?_)
  replace h := h G3 hG3
  refine r_aloadR_n C 1 dX2_copyFrom_15 rfl rfl ?_
  obtain ⟨ht, h⟩ := h
  obtain ⟨b4, hb, h⟩ := h
  refine r_getR C fw_RX2_15 rfl ht hb dX2_copyFrom_16 ?_
  refine r_iconst C 0 dX2_copyFrom_19 (by decide) ?_
  refine r_aloadR_n C 0 dX2_copyFrom_20 rfl rfl ?_
  obtain ⟨ht, h⟩ := h
  obtain ⟨b5, hb, h⟩ := h
  refine r_getR C fw_RX2_15 rfl ht hb dX2_copyFrom_21 ?_
  refine r_iconst C 0 dX2_copyFrom_24 (by decide) ?_
  refine r_bipush C 6 dX2_copyFrom_25 (by decide) ?_
  obtain ⟨q1, q2, q3, q4, q5, q6, q7, h⟩ := h
  refine r_copyI C ac_RX2_35 q1 q2 q3 q4 q5 q6 q7 rfl (Nat.le_of_ble_eq_true rfl) (Nat.le_of_ble_eq_true rfl) dX2_copyFrom_27 ?_
  refine r_nm (fun G6 hG6 => ?_)
  replace h := h G6 hG6
  refine r_aloadR_n C 1 dX2_copyFrom_30 rfl rfl ?_
  obtain ⟨ht, h⟩ := h
  obtain ⟨b7, hb, h⟩ := h
  refine r_getR C fw_RX2_18 rfl ht hb dX2_copyFrom_31 ?_
  refine r_iconst C 0 dX2_copyFrom_34 (by decide) ?_
  refine r_aloadR_n C 0 dX2_copyFrom_35 rfl rfl ?_
  obtain ⟨ht, h⟩ := h
  obtain ⟨b8, hb, h⟩ := h
  refine r_getR C fw_RX2_18 rfl ht hb dX2_copyFrom_36 ?_
  refine r_iconst C 0 dX2_copyFrom_39 (by decide) ?_
  refine r_bipush C 6 dX2_copyFrom_40 (by decide) ?_
  obtain ⟨q1, q2, q3, q4, q5, q6, q7, h⟩ := h
  refine r_copyI C ac_RX2_35 q1 q2 q3 q4 q5 q6 q7 rfl (Nat.le_of_ble_eq_true rfl) (Nat.le_of_ble_eq_true rfl) dX2_copyFrom_42 ?_
  refine r_nm (fun G9 hG9 => ?_)
  replace h := h G9 hG9
  refine r_aloadR_n C 0 dX2_copyFrom_45 rfl rfl ?_
  refine r_aloadR_n C 1 dX2_copyFrom_46 rfl rfl ?_
  obtain ⟨ht, h⟩ := h
  refine r_getI C fw_RX2_21 rfl ht dX2_copyFrom_47 ?_
  obtain ⟨ht, h⟩ := h
  refine r_putI C cw_3 fp_RX2_21 rfl ht dX2_copyFrom_50 ?_
  refine r_nm (fun G10 hG10 => ?_)
  replace h := h G10 hG10
  refine r_aloadR_n C 0 dX2_copyFrom_53 rfl rfl ?_
  refine r_aloadR_n C 1 dX2_copyFrom_54 rfl rfl ?_
  obtain ⟨ht, h⟩ := h
  refine r_getI C fw_RX2_25 rfl ht dX2_copyFrom_55 ?_
  obtain ⟨ht, h⟩ := h
  refine r_putI C cw_3 fp_RX2_25 rfl ht dX2_copyFrom_58 ?_
  refine r_nm (fun G11 hG11 => ?_)
  replace h := h G11 hG11
  refine r_aloadR_n C 0 dX2_copyFrom_61 rfl rfl ?_
  refine r_aloadR_n C 1 dX2_copyFrom_62 rfl rfl ?_
  obtain ⟨ht, h⟩ := h
  refine r_getI C fw_RX2_29 rfl ht dX2_copyFrom_63 ?_
  obtain ⟨ht, h⟩ := h
  refine r_putI C cw_3 fp_RX2_29 rfl ht dX2_copyFrom_66 ?_
  refine r_nm (fun G12 hG12 => ?_)
  replace h := h G12 hG12
  refine r_aloadR_n C 0 dX2_copyFrom_69 rfl rfl ?_
  refine r_aloadR_n C 1 dX2_copyFrom_70 rfl rfl ?_
  obtain ⟨ht, h⟩ := h
  refine r_getI C fw_RX2_32 rfl ht dX2_copyFrom_71 ?_
  obtain ⟨ht, h⟩ := h
  refine r_putI C cw_3 fp_RX2_32 rfl ht dX2_copyFrom_74 ?_
  refine r_nm (fun G13 hG13 => ?_)
  replace h := h G13 hG13
  exact r_vret C E0 hr ⟨rfl, h⟩ dX2_copyFrom_77
def wJx4a65c_size_8abf5 (X : Xt) (G : Gt) (a0 : Nat) (Pr : Int32 → Gt → Prop) : Prop := gT G a0 = (1, 0) ∧ Pr (gI G 2 a0) G
set_option maxRecDepth 20000 in
theorem mJx4a65c_size_8abf5 {X : Xt} {l : Launch} (hfl : l.stackTraces = false) {G : Gt} {a0 : Nat} {Pr : Int32 → Gt → Prop} (h : wJx4a65c_size_8abf5 X G a0 Pr) : Mc X l yJx4a65c_size_8abf5 (.code yJx4a65c_size_8abf5 cJx4a65c_size_8abf5 1 (some (.int))) 0 0 [.ref a0] G (rI Pr) noX := by
  refine Mc.of (by decide +kernel) hfl [some (.ref a0)] rfl (Nat.le_of_ble_eq_true rfl) rfl ?_
  intro K hL C E0 hr hnm hex
  have B : BX X K l cJx4a65c_size_8abf5 1 RJx4a65c 0 0 G (some (.int)) "size" := ⟨hL, C, E0, hr, hnm, hex, hfl⟩
  have C : Cx X K cJx4a65c_size_8abf5 1 RJx4a65c 0 0 := C
  unfold wJx4a65c_size_8abf5 at h
  refine r_aloadR_n C 0 dJx4a65c_size_8abf5_0 rfl rfl ?_
  obtain ⟨ht, h⟩ := h
  refine r_getI C fw_RJx4a65c_48 rfl ht dJx4a65c_size_8abf5_1 ?_
  exact r_iret C E0 hr ⟨_, rfl, h⟩ dJx4a65c_size_8abf5_4
def wJ3_checkIndex_8e157 (X : Xt) (G : Gt) (x0 : Int32) (x1 : Int32) (Pr : Int32 → Gt → Prop) (Px : String → Gt → Prop) : Prop := (x0 < 0 → False) ∧ (¬ (x0 < 0) → (x0 < x1 → Pr x0 G) ∧ (¬ (x0 < x1) → False))
set_option maxRecDepth 20000 in
theorem mJ3_checkIndex_8e157 {X : Xt} {l : Launch} (hfl : l.stackTraces = false) {G : Gt} {x0 : Int32} {x1 : Int32} {Pr : Int32 → Gt → Prop} {Px : String → Gt → Prop} (h : wJ3_checkIndex_8e157 X G x0 x1 Pr Px) : Mc X l yJ3_checkIndex_8e157 (.code yJ3_checkIndex_8e157 cJ3_checkIndex_8e157 3 (some (.int))) 0 0 [.int x0, .int x1, .null] G (rI Pr) Px := by
  refine Mc.of (by decide +kernel) hfl [some (.int x0), some (.int x1), some (.null)] rfl (Nat.le_of_ble_eq_true rfl) rfl ?_
  intro K hL C E0 hr hnm hex
  have B : BX X K l cJ3_checkIndex_8e157 3 RJ3 0 0 G (some (.int)) "checkIndex" := ⟨hL, C, E0, hr, hnm, hex, hfl⟩
  have C : Cx X K cJ3_checkIndex_8e157 3 RJ3 0 0 := C
  unfold wJ3_checkIndex_8e157 at h
  refine r_iload_n C 0 dJ3_checkIndex_8e157_0 rfl rfl ?_
  refine r_if_lt C 9 dJ3_checkIndex_8e157_1 (by decide) (fun c => ?_) (fun c => ?_)
  · replace h := h.1 c
    refine r_aload_n C 2 (x := none) dJ3_checkIndex_8e157_9 rfl rfl ?_
    refine r_iload_n C 0 dJ3_checkIndex_8e157_10 rfl rfl ?_
    refine r_iload_n C 1 dJ3_checkIndex_8e157_11 rfl rfl ?_
    exact h.elim
  · replace h := h.2 c
    refine r_iload_n C 0 dJ3_checkIndex_8e157_4 rfl rfl ?_
    refine r_iload_n C 1 dJ3_checkIndex_8e157_5 rfl rfl ?_
    refine r_icmp_lt C 16 dJ3_checkIndex_8e157_6 (by decide) (fun c => ?_) (fun c => ?_)
    · replace h := h.1 c
      refine r_iload_n C 0 dJ3_checkIndex_8e157_16 rfl rfl ?_
      exact r_iret C E0 hr ⟨_, rfl, h⟩ dJ3_checkIndex_8e157_17
    · replace h := h.2 c
      refine r_aload_n C 2 (x := none) dJ3_checkIndex_8e157_9 rfl rfl ?_
      refine r_iload_n C 0 dJ3_checkIndex_8e157_10 rfl rfl ?_
      refine r_iload_n C 1 dJ3_checkIndex_8e157_11 rfl rfl ?_
      exact h.elim
def wJ15_checkIndex_7cf53 (X : Xt) (G : Gt) (x0 : Int32) (x1 : Int32) (Pr : Int32 → Gt → Prop) (Px : String → Gt → Prop) : Prop := wJ3_checkIndex_8e157 X G x0 x1 (fun r1 G2 => Pr r1 G2) Px
set_option maxRecDepth 20000 in
theorem mJ15_checkIndex_7cf53 {X : Xt} {l : Launch} (hfl : l.stackTraces = false) {G : Gt} {x0 : Int32} {x1 : Int32} {Pr : Int32 → Gt → Prop} {Px : String → Gt → Prop} (h : wJ15_checkIndex_7cf53 X G x0 x1 Pr Px) : Mc X l yJ15_checkIndex_7cf53 (.code yJ15_checkIndex_7cf53 cJ15_checkIndex_7cf53 2 (some (.int))) 1 22 [.int x0, .int x1] G (rI Pr) Px := by
  refine Mc.of (by decide +kernel) hfl [some (.int x0), some (.int x1)] rfl (Nat.le_of_ble_eq_true rfl) rfl ?_
  intro K hL C E0 hr hnm hex
  have B : BX X K l cJ15_checkIndex_7cf53 2 RJ15 1 22 G (some (.int)) "checkIndex" := ⟨hL, C, E0, hr, hnm, hex, hfl⟩
  have C : Cx X K cJ15_checkIndex_7cf53 2 RJ15 1 22 := C
  unfold wJ15_checkIndex_7cf53 at h
  refine r_iload_n C 0 dJ15_checkIndex_7cf53_0 rfl rfl ?_
  refine r_iload_n C 1 dJ15_checkIndex_7cf53_1 rfl rfl ?_
  refine r_aconst_null C dJ15_checkIndex_7cf53_2 ?_
  refine r_callS C hL yw_J3_checkIndex_8e157 sw_RJ15_105 rfl rfl (Nat.le_of_ble_eq_true rfl) ⟨(Nat.le_of_ble_eq_true rfl), (Nat.le_of_ble_eq_true rfl)⟩ (mJ3_checkIndex_8e157 hfl h) rfl dJ15_checkIndex_7cf53_3 (kI (fun r1 G2 h => ?_)) (kO C E0 hex)
  exact r_iret C E0 hr ⟨_, rfl, h⟩ dJ15_checkIndex_7cf53_6
def wJx4a65c_elementData_915e3 (X : Xt) (G : Gt) (a0 : Nat) (x1 : Int32) (Pr : Option Nat → Gt → Prop) : Prop := gT G a0 = (1, 0) ∧ ∃ b1, gR G 1 a0 = some b1 ∧ (gT G b1).1 = 3 ∧ vp_in x1 (gT G b1).2 ∧ Pr (gB G b1 x1.toNatClampNeg) G
set_option maxRecDepth 20000 in
theorem mJx4a65c_elementData_915e3 {X : Xt} {l : Launch} (hfl : l.stackTraces = false) {G : Gt} {a0 : Nat} {x1 : Int32} {Pr : Option Nat → Gt → Prop} (h : wJx4a65c_elementData_915e3 X G a0 x1 Pr) : Mc X l yJx4a65c_elementData_915e3 (.code yJx4a65c_elementData_915e3 cJx4a65c_elementData_915e3 2 (some (.object "java/lang/Object"))) 0 0 [.ref a0, .int x1] G (rA Pr) noX := by
  refine Mc.of (by decide +kernel) hfl [some (.ref a0), some (.int x1)] rfl (Nat.le_of_ble_eq_true rfl) rfl ?_
  intro K hL C E0 hr hnm hex
  have B : BX X K l cJx4a65c_elementData_915e3 2 RJx4a65c 0 0 G (some (.object "java/lang/Object")) "elementData" := ⟨hL, C, E0, hr, hnm, hex, hfl⟩
  have C : Cx X K cJx4a65c_elementData_915e3 2 RJx4a65c 0 0 := C
  unfold wJx4a65c_elementData_915e3 at h
  refine r_aloadR_n C 0 dJx4a65c_elementData_915e3_0 rfl rfl ?_
  obtain ⟨ht, h⟩ := h
  obtain ⟨b1, hb, h⟩ := h
  refine r_getR C fw_RJx4a65c_9 rfl ht hb dJx4a65c_elementData_915e3_1 ?_
  refine r_iload_n C 1 dJx4a65c_elementData_915e3_4 rfl rfl ?_
  obtain ⟨ht, hi, h⟩ := h
  refine r_aald3P C ht hi dJx4a65c_elementData_915e3_5 ?_
  exact r_aret C E0 hr (Or.inl ⟨_, rfl⟩) (x := (gB G b1 x1.toNatClampNeg)) ⟨_, rfl, h⟩ dJx4a65c_elementData_915e3_6
def wJx4a65c_get_915e3 (X : Xt) (G : Gt) (a0 : Nat) (x1 : Int32) (Pr : Option Nat → Gt → Prop) (Px : String → Gt → Prop) : Prop := gT G a0 = (1, 0) ∧ wJ15_checkIndex_7cf53 X G x1 (gI G 2 a0) (fun r1 G2 => gT G2 a0 = (1, 0) ∧ wJx4a65c_elementData_915e3 X G2 a0 x1 (fun r3 G4 => Pr r3 G4)) Px
set_option maxRecDepth 20000 in
theorem mJx4a65c_get_915e3 {X : Xt} {l : Launch} (hfl : l.stackTraces = false) {G : Gt} {a0 : Nat} {x1 : Int32} {Pr : Option Nat → Gt → Prop} {Px : String → Gt → Prop} (h : wJx4a65c_get_915e3 X G a0 x1 Pr Px) : Mc X l yJx4a65c_get_915e3 (.code yJx4a65c_get_915e3 cJx4a65c_get_915e3 2 (some (.object "java/lang/Object"))) 2 43 [.ref a0, .int x1] G (rA Pr) Px := by
  refine Mc.of (by decide +kernel) hfl [some (.ref a0), some (.int x1)] rfl (Nat.le_of_ble_eq_true rfl) rfl ?_
  intro K hL C E0 hr hnm hex
  have B : BX X K l cJx4a65c_get_915e3 2 RJx4a65c 2 43 G (some (.object "java/lang/Object")) "get" := ⟨hL, C, E0, hr, hnm, hex, hfl⟩
  have C : Cx X K cJx4a65c_get_915e3 2 RJx4a65c 2 43 := C
  unfold wJx4a65c_get_915e3 at h
  refine r_iload_n C 1 dJx4a65c_get_915e3_0 rfl rfl ?_
  refine r_aloadR_n C 0 dJx4a65c_get_915e3_1 rfl rfl ?_
  obtain ⟨ht, h⟩ := h
  refine r_getI C fw_RJx4a65c_48 rfl ht dJx4a65c_get_915e3_2 ?_
  refine r_callS C hL yw_J15_checkIndex_7cf53 sw_RJx4a65c_118 rfl rfl (Nat.le_of_ble_eq_true rfl) ⟨(Nat.le_of_ble_eq_true rfl), (Nat.le_of_ble_eq_true rfl)⟩ (mJ15_checkIndex_7cf53 hfl h) rfl dJx4a65c_get_915e3_5 (kI (fun r1 G2 h => ?_)) (kO C E0 hex)
  refine r_pop C dJx4a65c_get_915e3_8 rfl ?_
  refine r_aloadR_n C 0 dJx4a65c_get_915e3_9 rfl rfl ?_
  refine r_iload_n C 1 dJx4a65c_get_915e3_10 rfl rfl ?_
  obtain ⟨ht, h⟩ := h
  refine r_callV C (r := (RJx4a65c, TJx4a65c, 3)) hL yw_Jx4a65c_elementData_915e3 vw_RJx4a65c_123 rfl rfl ht rfl rfl (Nat.le_of_ble_eq_true rfl) ⟨(Nat.le_of_ble_eq_true rfl), (Nat.le_of_ble_eq_true rfl)⟩ (mJx4a65c_elementData_915e3 hfl h) rfl dJx4a65c_get_915e3_11 (kA' (fun r3 G4 h => ?_)) kN
  exact r_aret C E0 hr (Or.inl ⟨_, rfl⟩) (x := r3) ⟨_, rfl, h⟩ dJx4a65c_get_915e3_14
def wJ9_min_7cf53 (X : Xt) (G : Gt) (x0 : Int32) (x1 : Int32) (Pr : Int32 → Gt → Prop) : Prop := (x1 < x0 → Pr x1 G) ∧ (¬ (x1 < x0) → Pr x0 G)
set_option maxRecDepth 20000 in
theorem mJ9_min_7cf53 {X : Xt} {l : Launch} (hfl : l.stackTraces = false) {G : Gt} {x0 : Int32} {x1 : Int32} {Pr : Int32 → Gt → Prop} (h : wJ9_min_7cf53 X G x0 x1 Pr) : Mc X l yJ9_min_7cf53 (.code yJ9_min_7cf53 cJ9_min_7cf53 2 (some (.int))) 0 0 [.int x0, .int x1] G (rI Pr) noX := by
  refine Mc.ofF (by decide +kernel) hfl [some (.int x0), some (.int x1)] rfl (Nat.le_of_ble_eq_true rfl) rfl ?_
  intro K hL C E0 hr hnm hex
  have B : BX X K l cJ9_min_7cf53 2 RJ9 0 0 G (some (.int)) "min" := ⟨hL, C, E0, hr, hnm, hex, hfl⟩
  have C : Cx X K cJ9_min_7cf53 2 RJ9 0 0 := C
  unfold wJ9_min_7cf53 at h
  refine r_iload_n C 0 dJ9_min_7cf53_0 rfl rfl ?_
  refine r_iload_n C 1 dJ9_min_7cf53_1 rfl rfl ?_
  refine r_icmp_gt C 9 dJ9_min_7cf53_2 (by decide) (fun c => ?_) (fun c => ?_)
  · replace h := h.1 c
    refine r_iload_n C 1 dJ9_min_7cf53_9 rfl rfl ?_
    exact r_iret C E0 hr ⟨_, rfl, h⟩ dJ9_min_7cf53_10
  · replace h := h.2 c
    refine r_iload_n C 0 dJ9_min_7cf53_5 rfl rfl ?_
    refine r_goto C 10 dJ9_min_7cf53_6 (by decide) ?_
    exact r_iret C E0 hr ⟨_, rfl, h⟩ dJ9_min_7cf53_10
def wJ9_max_7cf53 (X : Xt) (G : Gt) (x0 : Int32) (x1 : Int32) (Pr : Int32 → Gt → Prop) : Prop := (x0 < x1 → Pr x1 G) ∧ (¬ (x0 < x1) → Pr x0 G)
set_option maxRecDepth 20000 in
theorem mJ9_max_7cf53 {X : Xt} {l : Launch} (hfl : l.stackTraces = false) {G : Gt} {x0 : Int32} {x1 : Int32} {Pr : Int32 → Gt → Prop} (h : wJ9_max_7cf53 X G x0 x1 Pr) : Mc X l yJ9_max_7cf53 (.code yJ9_max_7cf53 cJ9_max_7cf53 2 (some (.int))) 0 0 [.int x0, .int x1] G (rI Pr) noX := by
  refine Mc.ofF (by decide +kernel) hfl [some (.int x0), some (.int x1)] rfl (Nat.le_of_ble_eq_true rfl) rfl ?_
  intro K hL C E0 hr hnm hex
  have B : BX X K l cJ9_max_7cf53 2 RJ9 0 0 G (some (.int)) "max" := ⟨hL, C, E0, hr, hnm, hex, hfl⟩
  have C : Cx X K cJ9_max_7cf53 2 RJ9 0 0 := C
  unfold wJ9_max_7cf53 at h
  refine r_iload_n C 0 dJ9_max_7cf53_0 rfl rfl ?_
  refine r_iload_n C 1 dJ9_max_7cf53_1 rfl rfl ?_
  refine r_icmp_lt C 9 dJ9_max_7cf53_2 (by decide) (fun c => ?_) (fun c => ?_)
  · replace h := h.1 c
    refine r_iload_n C 1 dJ9_max_7cf53_9 rfl rfl ?_
    exact r_iret C E0 hr ⟨_, rfl, h⟩ dJ9_max_7cf53_10
  · replace h := h.2 c
    refine r_iload_n C 0 dJ9_max_7cf53_5 rfl rfl ?_
    refine r_goto C 10 dJ9_max_7cf53_6 (by decide) ?_
    exact r_iret C E0 hr ⟨_, rfl, h⟩ dJ9_max_7cf53_10
def wX8_init (X : Xt) (G : Gt) (a0 : Nat) (x1 : Int32) (x2 : Int32) (x3 : Int32) (x4 : Int32) (x5 : Int32) (Pr : Gt → Prop) : Prop := gT G a0 = (1, 9) ∧ ∀ G1, G1 = sI G 295 a0 0 → gT G1 a0 = (1, 9) ∧ ∀ G2, G2 = sI G1 296 a0 0 → gT G2 a0 = (1, 9) ∧ ∀ G3, G3 = sI G2 297 a0 (-1) → gT G3 a0 = (1, 9) ∧ ∀ G4, G4 = sI G3 298 a0 0 → gT G4 a0 = (1, 9) ∧ ∀ G5, G5 = sI G4 288 a0 x1 → gT G5 a0 = (1, 9) ∧ ∀ G6, G6 = sI G5 289 a0 x2 → gT G6 a0 = (1, 9) ∧ ∀ G7, G7 = sI G6 290 a0 x3 → gT G7 a0 = (1, 9) ∧ ∀ G8, G8 = sI G7 291 a0 x4 → gT G8 a0 = (1, 9) ∧ ∀ G9, G9 = sI G8 292 a0 (x3 + x4) → gT G9 a0 = (1, 9) ∧ (x5 = 0 ∨ x5 = 1) ∧ ∀ G10, G10 = sI G9 293 a0 x5 → wJ9_min_7cf53 X G10 x4 16 (fun r11 G12 => wJ9_max_7cf53 X G12 1 r11 (fun r13 G14 => ¬ r13 < 0 ∧ r13.toNatClampNeg ≤ 1000000 ∧ gH G14 + 1 ≤ xC X ∧ gU G14 + r13.toNatClampNeg ≤ xS X ∧ ∀ G15, G15 = nA G14 r13.toNatClampNeg → gT G15 a0 = (1, 9) ∧ ∀ G16, G16 = sR G15 294 a0 (some (gH G14)) → Pr G16))
set_option maxRecDepth 20000 in
theorem mX8_init {X : Xt} {l : Launch} (hfl : l.stackTraces = false) {G : Gt} {a0 : Nat} {x1 : Int32} {x2 : Int32} {x3 : Int32} {x4 : Int32} {x5 : Int32} {Pr : Gt → Prop} (h : wX8_init X G a0 x1 x2 x3 x4 x5 Pr) : Mc X l yX8_init (.code yX8_init cX8_init 6 none) 1 21 [.ref a0, .int x1, .int x2, .int x3, .int x4, .int x5] G (rV Pr) noX := by
  refine Mc.of (by decide +kernel) hfl [some (.ref a0), some (.int x1), some (.int x2), some (.int x3), some (.int x4), some (.int x5)] rfl (Nat.le_of_ble_eq_true rfl) rfl ?_
  intro K hL C E0 hr hnm hex
  have B : BX X K l cX8_init 6 RX8 1 21 G none "<init>" := ⟨hL, C, E0, hr, hnm, hex, hfl⟩
  have C : Cx X K cX8_init 6 RX8 1 21 := C
  unfold wX8_init at h
  refine r_aloadR_n C 0 dX8_init_0 rfl rfl ?_
  refine r_objInit C oi_RX8_3 oi_inst oi_code rfl (Nat.le_of_ble_eq_true rfl) (Nat.le_of_ble_eq_true rfl) dX8_init_1 ?_
  refine r_aloadR_n C 0 dX8_init_4 rfl rfl ?_
  refine r_iconst C 0 dX8_init_5 (by decide) ?_
  obtain ⟨ht, h⟩ := h
  refine r_putI C cw_9 fp_RX8_9 rfl ht dX8_init_6 ?_
  refine r_nm (fun G1 hG1 => ?_)
  replace h := h G1 hG1
  refine r_aloadR_n C 0 dX8_init_9 rfl rfl ?_
  refine r_iconst C 0 dX8_init_10 (by decide) ?_
  obtain ⟨ht, h⟩ := h
  refine r_putI C cw_9 fp_RX8_15 rfl ht dX8_init_11 ?_
  refine r_nm (fun G2 hG2 => ?_)
  replace h := h G2 hG2
  refine r_aloadR_n C 0 dX8_init_14 rfl rfl ?_
  refine r_iconst C (-1) dX8_init_15 (by decide) ?_
  obtain ⟨ht, h⟩ := h
  refine r_putI C cw_9 fp_RX8_18 rfl ht dX8_init_16 ?_
  refine r_nm (fun G3 hG3 => ?_)
  replace h := h G3 hG3
  refine r_aloadR_n C 0 dX8_init_19 rfl rfl ?_
  refine r_iconst C 0 dX8_init_20 (by decide) ?_
  obtain ⟨ht, h⟩ := h
  refine r_putZ C cw_9 fp_RX8_21 rfl ht (Or.inl rfl) dX8_init_21 ?_
  refine r_nm (fun G4 hG4 => ?_)
  replace h := h G4 hG4
  refine r_aloadR_n C 0 dX8_init_24 rfl rfl ?_
  refine r_iload_n C 1 dX8_init_25 rfl rfl ?_
  obtain ⟨ht, h⟩ := h
  refine r_putIF C hnm cw_9 fp_RX8_25 rfl ht dX8_init_26 ?_
  refine r_nm (fun G5 hG5 => ?_)
  replace h := h G5 hG5
  refine r_aloadR_n C 0 dX8_init_29 rfl rfl ?_
  refine r_iload_n C 2 dX8_init_30 rfl rfl ?_
  obtain ⟨ht, h⟩ := h
  refine r_putIF C hnm cw_9 fp_RX8_28 rfl ht dX8_init_31 ?_
  refine r_nm (fun G6 hG6 => ?_)
  replace h := h G6 hG6
  refine r_aloadR_n C 0 dX8_init_34 rfl rfl ?_
  refine r_iload_n C 3 dX8_init_35 rfl rfl ?_
  obtain ⟨ht, h⟩ := h
  refine r_putIF C hnm cw_9 fp_RX8_31 rfl ht dX8_init_36 ?_
  refine r_nm (fun G7 hG7 => ?_)
  replace h := h G7 hG7
  refine r_aloadR_n C 0 dX8_init_39 rfl rfl ?_
  refine r_iload C dX8_init_40 rfl ?_
  obtain ⟨ht, h⟩ := h
  refine r_putIF C hnm cw_9 fp_RX8_34 rfl ht dX8_init_42 ?_
  refine r_nm (fun G8 hG8 => ?_)
  replace h := h G8 hG8
  refine r_aloadR_n C 0 dX8_init_45 rfl rfl ?_
  refine r_iload_n C 3 dX8_init_46 rfl rfl ?_
  refine r_iload C dX8_init_47 rfl ?_
  refine r_iadd C dX8_init_49 ?_
  obtain ⟨ht, h⟩ := h
  refine r_putIF C hnm cw_9 fp_RX8_37 rfl ht dX8_init_50 ?_
  refine r_nm (fun G9 hG9 => ?_)
  replace h := h G9 hG9
  refine r_aloadR_n C 0 dX8_init_53 rfl rfl ?_
  refine r_iload C dX8_init_54 rfl ?_
  obtain ⟨ht, h⟩ := h
  obtain ⟨hz, h⟩ := h
  refine r_putZF C hnm cw_9 fp_RX8_40 rfl ht hz dX8_init_56 ?_
  refine r_nm (fun G10 hG10 => ?_)
  replace h := h G10 hG10
  refine r_aloadR_n C 0 dX8_init_59 rfl rfl ?_
  refine r_iconst C 1 dX8_init_60 (by decide) ?_
  refine r_iload C dX8_init_61 rfl ?_
  refine r_bipush C 16 dX8_init_63 (by decide) ?_
  refine r_callS C hL yw_J9_min_7cf53 sw_RX8_43 rfl rfl (Nat.le_of_ble_eq_true rfl) ⟨(Nat.le_of_ble_eq_true rfl), (Nat.le_of_ble_eq_true rfl)⟩ (mJ9_min_7cf53 hfl h) rfl dX8_init_65 (kI (fun r11 G12 h => ?_)) kN
  refine r_callS C hL yw_J9_max_7cf53 sw_RX8_49 rfl rfl (Nat.le_of_ble_eq_true rfl) ⟨(Nat.le_of_ble_eq_true rfl), (Nat.le_of_ble_eq_true rfl)⟩ (mJ9_max_7cf53 hfl h) rfl dX8_init_68 (kI (fun r13 G14 h => ?_)) kN
  obtain ⟨hn0, hn1, h⟩ := h
  obtain ⟨hr1, hr2, h⟩ := h
  refine r_newa C _ rfl hn0 hn1 ac_int hr1 hr2 dX8_init_71 ?_
  refine r_nm (fun G15 hG15 => ?_)
  replace h := h G15 hG15
  obtain ⟨ht, h⟩ := h
  refine r_putRF C hnm cw_9 fp_RX8_52 rfl ht rfl rfl dX8_init_73 ?_
  refine r_nm (fun G16 hG16 => ?_)
  replace h := h G16 hG16
  exact r_vret C E0 hr ⟨rfl, h⟩ dX8_init_76
def wJ8_newLength_cabcc (X : Xt) (G : Gt) (x0 : Int32) (x1 : Int32) (x2 : Int32) (Pr : Int32 → Gt → Prop) : Prop := wJ9_max_7cf53 X G x1 x2 (fun r1 G2 => ((x0 + r1) ≤ 0 → False) ∧ (¬ ((x0 + r1) ≤ 0) → (2147483639 < (x0 + r1) → False) ∧ (¬ (2147483639 < (x0 + r1)) → Pr (x0 + r1) G2)))
set_option maxRecDepth 20000 in
theorem mJ8_newLength_cabcc {X : Xt} {l : Launch} (hfl : l.stackTraces = false) {G : Gt} {x0 : Int32} {x1 : Int32} {x2 : Int32} {Pr : Int32 → Gt → Prop} (h : wJ8_newLength_cabcc X G x0 x1 x2 Pr) : Mc X l yJ8_newLength_cabcc (.code yJ8_newLength_cabcc cJ8_newLength_cabcc 4 (some (.int))) 1 21 [.int x0, .int x1, .int x2] G (rI Pr) noX := by
  refine Mc.of (by decide +kernel) hfl [some (.int x0), some (.int x1), some (.int x2), none] rfl (Nat.le_of_ble_eq_true rfl) rfl ?_
  intro K hL C E0 hr hnm hex
  have B : BX X K l cJ8_newLength_cabcc 4 RJ8 1 21 G (some (.int)) "newLength" := ⟨hL, C, E0, hr, hnm, hex, hfl⟩
  have C : Cx X K cJ8_newLength_cabcc 4 RJ8 1 21 := C
  unfold wJ8_newLength_cabcc at h
  refine r_iload_n C 0 dJ8_newLength_cabcc_0 rfl rfl ?_
  refine r_iload_n C 1 dJ8_newLength_cabcc_1 rfl rfl ?_
  refine r_iload_n C 2 dJ8_newLength_cabcc_2 rfl rfl ?_
  refine r_callS C hL yw_J9_max_7cf53 sw_RJ8_194 rfl rfl (Nat.le_of_ble_eq_true rfl) ⟨(Nat.le_of_ble_eq_true rfl), (Nat.le_of_ble_eq_true rfl)⟩ (mJ9_max_7cf53 hfl h) rfl dJ8_newLength_cabcc_3 (kI (fun r1 G2 h => ?_)) kN
  refine r_iadd C dJ8_newLength_cabcc_6 ?_
  refine r_istore_n C 3 (lv' := [some (.int x0), some (.int x1), some (.int x2), some (.int (x0 + r1))]) dJ8_newLength_cabcc_7 rfl (Nat.le_of_ble_eq_true rfl) rfl rfl ?_
  refine r_iconst C 0 dJ8_newLength_cabcc_8 (by decide) ?_
  refine r_iload_n C 3 dJ8_newLength_cabcc_9 rfl rfl ?_
  refine r_icmp_ge C 21 dJ8_newLength_cabcc_10 (by decide) (fun c => ?_) (fun c => ?_)
  · replace h := h.1 c
    refine r_iload_n C 0 dJ8_newLength_cabcc_21 rfl rfl ?_
    refine r_iload_n C 1 dJ8_newLength_cabcc_22 rfl rfl ?_
    exact h.elim
  · replace h := h.2 c
    refine r_iload_n C 3 dJ8_newLength_cabcc_13 rfl rfl ?_
    refine r_ldc C kc_RJ8_200 dJ8_newLength_cabcc_14 ?_
    refine r_icmp_gt C 21 dJ8_newLength_cabcc_16 (by decide) (fun c => ?_) (fun c => ?_)
    · replace h := h.1 c
      refine r_iload_n C 0 dJ8_newLength_cabcc_21 rfl rfl ?_
      refine r_iload_n C 1 dJ8_newLength_cabcc_22 rfl rfl ?_
      exact h.elim
    · replace h := h.2 c
      refine r_iload_n C 3 dJ8_newLength_cabcc_19 rfl rfl ?_
      exact r_iret C E0 hr ⟨_, rfl, h⟩ dJ8_newLength_cabcc_20
def wJ7_copyOf_6403c (X : Xt) (G : Gt) (a0 : Nat) (x1 : Int32) (a2 : Nat) (Pr : Option Nat → Gt → Prop) : Prop := (¬ some a2 = some (xmi X) → False) ∧ (some a2 = some (xmi X) → ¬ x1 < 0 ∧ x1.toNatClampNeg ≤ 1000000 ∧ gH G + 1 ≤ xC X ∧ gU G + x1.toNatClampNeg ≤ xS X ∧ ∀ G41, G41 = nB G 3 x1.toNatClampNeg → ((gT G41 a0).1 = 3 ∨ (gT G41 a0).1 = 6) ∧ wJ9_min_7cf53 X G41 (nI (gT G41 a0).2) x1 (fun r42 G43 => (gT G43 a0).1 = 3 ∧ (gT G43 (gH G)).1 = 3 ∧ ¬ (0 : Int32) < 0 ∧ ¬ (0 : Int32) < 0 ∧ ¬ r42 < 0 ∧ (0 : Int32).toNatClampNeg + r42.toNatClampNeg ≤ (gT G43 a0).2 ∧ (0 : Int32).toNatClampNeg + r42.toNatClampNeg ≤ (gT G43 (gH G)).2 ∧ (∀ i : Nat, i < r42.toNatClampNeg → ∀ y : Nat, gB G43 a0 ((0 : Int32).toNatClampNeg + i) = some y → (gT G43 y).1 = 1 ∧ (gT G43 y).2 < 12) ∧ ∀ G44, G44 = sB G43 (gH G) (va_cpy (gB G43 a0) (gB G43 (gH G)) (0 : Int32).toNatClampNeg (0 : Int32).toNatClampNeg r42.toNatClampNeg) → Pr (some (gH G)) G44))
set_option maxRecDepth 20000 in
theorem mJ7_copyOf_6403c {X : Xt} {l : Launch} (hfl : l.stackTraces = false) {G : Gt} {a0 : Nat} {x1 : Int32} {a2 : Nat} {Pr : Option Nat → Gt → Prop} (h : wJ7_copyOf_6403c X G a0 x1 a2 Pr) : Mc X l yJ7_copyOf_6403c (.code yJ7_copyOf_6403c cJ7_copyOf_6403c 4 (some (.array (.object "java/lang/Object")))) 1 40 [.ref a0, .int x1, .ref a2] G (rA Pr) noX := by
  refine Mc.of (by decide +kernel) hfl [some (.ref a0), some (.int x1), some (.ref a2), none] rfl (Nat.le_of_ble_eq_true rfl) rfl ?_
  intro K hL C E0 hr hnm hex
  have B : BX X K l cJ7_copyOf_6403c 4 RJ7 1 40 G (some (.array (.object "java/lang/Object"))) "copyOf" := ⟨hL, C, E0, hr, hnm, hex, hfl⟩
  have C : Cx X K cJ7_copyOf_6403c 4 RJ7 1 40 := C
  unfold wJ7_copyOf_6403c at h
  refine r_aloadR_n C 2 dJ7_copyOf_6403c_0 rfl rfl ?_
  refine r_ldcM C cl_RJ7_110 dJ7_copyOf_6403c_1 ?_
  refine r_acmp_ne C (x := some a2) (y := some (xmi X)) 13 dJ7_copyOf_6403c_3 (by decide) (fun c => ?_) (fun c => ?_)
  · replace h := h.1 c
    refine r_aloadR_n C 2 dJ7_copyOf_6403c_13 rfl rfl ?_
    exact h.elim
  · replace h := h.2 c
    refine r_iload_n C 1 dJ7_copyOf_6403c_6 rfl rfl ?_
    obtain ⟨hn0, hn1, h⟩ := h
    obtain ⟨hr1, hr2, h⟩ := h
    refine r_anew3 C _ rfl hn0 hn1 cl_RJ7_2 hr1 hr2 dJ7_copyOf_6403c_7 ?_
    refine r_nm (fun G41 hG41 => ?_)
    replace h := h G41 hG41
    refine r_goto C 24 dJ7_copyOf_6403c_10 (by decide) ?_
    refine r_astoreR_n C 3 (lv' := [some (.ref a0), some (.int x1), some (.ref a2), some (.ref (gH G))]) dJ7_copyOf_6403c_24 rfl (Nat.le_of_ble_eq_true rfl) rfl rfl ?_
    refine r_aloadR_n C 0 dJ7_copyOf_6403c_25 rfl rfl ?_
    refine r_iconst C 0 dJ7_copyOf_6403c_26 (by decide) ?_
    refine r_aloadR_n C 3 dJ7_copyOf_6403c_27 rfl rfl ?_
    refine r_iconst C 0 dJ7_copyOf_6403c_28 (by decide) ?_
    refine r_aloadR_n C 0 dJ7_copyOf_6403c_29 rfl rfl ?_
    obtain ⟨ht, h⟩ := h
    refine r_alen36P C ht dJ7_copyOf_6403c_30 ?_
    refine r_iload_n C 1 dJ7_copyOf_6403c_31 rfl rfl ?_
    refine r_callS C hL yw_J9_min_7cf53 sw_RJ7_304 rfl rfl (Nat.le_of_ble_eq_true rfl) ⟨(Nat.le_of_ble_eq_true rfl), (Nat.le_of_ble_eq_true rfl)⟩ (mJ9_min_7cf53 hfl h) rfl dJ7_copyOf_6403c_32 (kI (fun r42 G43 h => ?_)) kN
    obtain ⟨q1, q2, q3, q4, q5, q6, q7, q8, h⟩ := h
    refine r_copyR C ac_RJ7_150 q1 q2 q3 q4 q5 q6 q7 q8 rfl (Nat.le_of_ble_eq_true rfl) (Nat.le_of_ble_eq_true rfl) dJ7_copyOf_6403c_35 ?_
    refine r_nm (fun G44 hG44 => ?_)
    replace h := h G44 hG44
    refine r_aloadR_n C 3 dJ7_copyOf_6403c_38 rfl rfl ?_
    exact r_aret C E0 hr (Or.inr ⟨_, rfl⟩) (x := (some (gH G))) ⟨_, rfl, h⟩ dJ7_copyOf_6403c_39
def wJ7_copyOf_1904c (X : Xt) (G : Gt) (a0 : Nat) (x1 : Int32) (Pr : Option Nat → Gt → Prop) : Prop := (gT G a0).1 = 3 ∧ wJ7_copyOf_6403c X G a0 x1 (xmi X) (fun r1 G2 => ∃ b3, r1 = some b3 ∧ Pr (some b3) G2)
set_option maxRecDepth 20000 in
theorem mJ7_copyOf_1904c {X : Xt} {l : Launch} (hfl : l.stackTraces = false) {G : Gt} {a0 : Nat} {x1 : Int32} {Pr : Option Nat → Gt → Prop} (h : wJ7_copyOf_1904c X G a0 x1 Pr) : Mc X l yJ7_copyOf_1904c (.code yJ7_copyOf_1904c cJ7_copyOf_1904c 2 (some (.array (.object "java/lang/Object")))) 2 63 [.ref a0, .int x1] G (rA Pr) noX := by
  refine Mc.of (by decide +kernel) hfl [some (.ref a0), some (.int x1)] rfl (Nat.le_of_ble_eq_true rfl) rfl ?_
  intro K hL C E0 hr hnm hex
  have B : BX X K l cJ7_copyOf_1904c 2 RJ7 2 63 G (some (.array (.object "java/lang/Object"))) "copyOf" := ⟨hL, C, E0, hr, hnm, hex, hfl⟩
  have C : Cx X K cJ7_copyOf_1904c 2 RJ7 2 63 := C
  unfold wJ7_copyOf_1904c at h
  refine r_aloadR_n C 0 dJ7_copyOf_1904c_0 rfl rfl ?_
  refine r_iload_n C 1 dJ7_copyOf_1904c_1 rfl rfl ?_
  refine r_aloadR_n C 0 dJ7_copyOf_1904c_2 rfl rfl ?_
  obtain ⟨ht, h⟩ := h
  refine r_getC C gc_RJ7_86 gc_sel gc_inst gc_nat ht rfl (Nat.le_of_ble_eq_true rfl) (Nat.le_of_ble_eq_true rfl) dJ7_copyOf_1904c_3 ?_
  refine r_callS C hL yw_J7_copyOf_6403c sw_RJ7_300 rfl rfl (Nat.le_of_ble_eq_true rfl) ⟨(Nat.le_of_ble_eq_true rfl), (Nat.le_of_ble_eq_true rfl)⟩ (mJ7_copyOf_6403c hfl h) rfl dJ7_copyOf_1904c_6 (kA' (fun r1 G2 h => ?_)) kN
  obtain ⟨b3, hb, h⟩ := h
  subst hb
  exact r_aret C E0 hr (Or.inr ⟨_, rfl⟩) (x := (some b3)) ⟨_, rfl, h⟩ dJ7_copyOf_1904c_9
def wJx4a65c_grow_92f84_20 (X : Xt) (Pr : Option Nat → Gt → Prop) (G : Gt) (a0 : Nat) (x1 : Int32) (x2 : Int32) : Prop := wJ8_newLength_cabcc X G x2 (x1 - x2) (x2 >>> (1 &&& 31)) (fun r1 G2 => gT G2 a0 = (1, 0) ∧ ∃ b3, gR G2 1 a0 = some b3 ∧ wJ7_copyOf_1904c X G2 b3 r1 (fun r4 G5 => ∃ b6, r4 = some b6 ∧ gT G5 a0 = (1, 0) ∧ ∀ G7, G7 = sR G5 1 a0 (some b6) → Pr (some b6) G7))
set_option maxRecDepth 20000 in
theorem bJx4a65c_grow_92f84_20 {X : Xt} {K : Kt} {l : Launch} {G0 : Gt} {Pr : Option Nat → Gt → Prop} (B : BX X K l cJx4a65c_grow_92f84 4 RJx4a65c 3 84 G0 (some (.array (.object "java/lang/Object"))) "grow") {G : Gt} {a0 : Nat} {x1 : Int32} {x2 : Int32} (h : wJx4a65c_grow_92f84_20 X Pr G a0 x1 x2) : WM X K (QM X K G0 (rA Pr) noX) G 20 [some (.ref a0), some (.int x1), some (.int x2), none] [] := by
  obtain ⟨hL, C, E0, hr, hnm, hex, hfl⟩ := id B
  unfold wJx4a65c_grow_92f84_20 at h
  refine r_iload_n C 2 dJx4a65c_grow_92f84_20 rfl rfl ?_
  refine r_iload_n C 1 dJx4a65c_grow_92f84_21 rfl rfl ?_
  refine r_iload_n C 2 dJx4a65c_grow_92f84_22 rfl rfl ?_
  refine r_isub C dJx4a65c_grow_92f84_23 ?_
  refine r_iload_n C 2 dJx4a65c_grow_92f84_24 rfl rfl ?_
  refine r_iconst C 1 dJx4a65c_grow_92f84_25 (by decide) ?_
  refine r_ishr C dJx4a65c_grow_92f84_26 ?_
  refine r_callS C hL yw_J8_newLength_cabcc sw_RJx4a65c_73 rfl rfl (Nat.le_of_ble_eq_true rfl) ⟨(Nat.le_of_ble_eq_true rfl), (Nat.le_of_ble_eq_true rfl)⟩ (mJ8_newLength_cabcc hfl h) rfl dJx4a65c_grow_92f84_27 (kI (fun r1 G2 h => ?_)) kN
  refine r_istore_n C 3 (lv' := [some (.ref a0), some (.int x1), some (.int x2), some (.int r1)]) dJx4a65c_grow_92f84_30 rfl (Nat.le_of_ble_eq_true rfl) rfl rfl ?_
  refine r_aloadR_n C 0 dJx4a65c_grow_92f84_31 rfl rfl ?_
  refine r_aloadR_n C 0 dJx4a65c_grow_92f84_32 rfl rfl ?_
  obtain ⟨ht, h⟩ := h
  obtain ⟨b3, hb, h⟩ := h
  refine r_getR C fw_RJx4a65c_9 rfl ht hb dJx4a65c_grow_92f84_33 ?_
  refine r_iload_n C 3 dJx4a65c_grow_92f84_36 rfl rfl ?_
  refine r_callS C hL yw_J7_copyOf_1904c sw_RJx4a65c_66 rfl rfl (Nat.le_of_ble_eq_true rfl) ⟨(Nat.le_of_ble_eq_true rfl), (Nat.le_of_ble_eq_true rfl)⟩ (mJ7_copyOf_1904c hfl h) rfl dJx4a65c_grow_92f84_37 (kA' (fun r4 G5 h => ?_)) kN
  obtain ⟨b6, hb, h⟩ := h
  subst hb
  refine r_dup_x1 C dJx4a65c_grow_92f84_40 rfl rfl ?_
  obtain ⟨ht, h⟩ := h
  refine r_putR C cw_0 fp_RJx4a65c_9 rfl ht rfl rfl dJx4a65c_grow_92f84_41 ?_
  refine r_nm (fun G7 hG7 => ?_)
  replace h := h G7 hG7
  exact r_aret C E0 hr (Or.inr ⟨_, rfl⟩) (x := (some b6)) ⟨_, rfl, h⟩ dJx4a65c_grow_92f84_44
def wJx4a65c_grow_92f84 (X : Xt) (G : Gt) (a0 : Nat) (x1 : Int32) (Pr : Option Nat → Gt → Prop) : Prop := gT G a0 = (1, 0) ∧ ∃ b1, gR G 1 a0 = some b1 ∧ ((gT G b1).1 = 3 ∨ (gT G b1).1 = 6) ∧ (0 < (nI (gT G b1).2) → wJx4a65c_grow_92f84_20 X Pr G a0 x1 (nI (gT G b1).2)) ∧ (¬ (0 < (nI (gT G b1).2)) → gT G a0 = (1, 0) ∧ ∃ b42, gR G 1 a0 = some b42 ∧ (some b42 = some (xde X) → wJ9_max_7cf53 X G 10 x1 (fun r63 G64 => ¬ r63 < 0 ∧ r63.toNatClampNeg ≤ 1000000 ∧ gH G64 + 1 ≤ xC X ∧ gU G64 + r63.toNatClampNeg ≤ xS X ∧ ∀ G65, G65 = nB G64 3 r63.toNatClampNeg → gT G65 a0 = (1, 0) ∧ ∀ G66, G66 = sR G65 1 a0 (some (gH G64)) → Pr (some (gH G64)) G66)) ∧ (¬ (some b42 = some (xde X)) → wJx4a65c_grow_92f84_20 X Pr G a0 x1 (nI (gT G b1).2)))
set_option maxRecDepth 20000 in
theorem mJx4a65c_grow_92f84 {X : Xt} {l : Launch} (hfl : l.stackTraces = false) {G : Gt} {a0 : Nat} {x1 : Int32} {Pr : Option Nat → Gt → Prop} (h : wJx4a65c_grow_92f84 X G a0 x1 Pr) : Mc X l yJx4a65c_grow_92f84 (.code yJx4a65c_grow_92f84 cJx4a65c_grow_92f84 4 (some (.array (.object "java/lang/Object")))) 3 84 [.ref a0, .int x1] G (rA Pr) noX := by
  refine Mc.of (by decide +kernel) hfl [some (.ref a0), some (.int x1), none, none] rfl (Nat.le_of_ble_eq_true rfl) rfl ?_
  intro K hL C E0 hr hnm hex
  have B : BX X K l cJx4a65c_grow_92f84 4 RJx4a65c 3 84 G (some (.array (.object "java/lang/Object"))) "grow" := ⟨hL, C, E0, hr, hnm, hex, hfl⟩
  have C : Cx X K cJx4a65c_grow_92f84 4 RJx4a65c 3 84 := C
  unfold wJx4a65c_grow_92f84 at h
  refine r_aloadR_n C 0 dJx4a65c_grow_92f84_0 rfl rfl ?_
  obtain ⟨ht, h⟩ := h
  obtain ⟨b1, hb, h⟩ := h
  refine r_getR C fw_RJx4a65c_9 rfl ht hb dJx4a65c_grow_92f84_1 ?_
  obtain ⟨ht, h⟩ := h
  refine r_alen36P C ht dJx4a65c_grow_92f84_4 ?_
  refine r_istore_n C 2 (lv' := [some (.ref a0), some (.int x1), some (.int (nI (gT G b1).2)), none]) dJx4a65c_grow_92f84_5 rfl (Nat.le_of_ble_eq_true rfl) rfl rfl ?_
  refine r_iload_n C 2 dJx4a65c_grow_92f84_6 rfl rfl ?_
  refine r_if_gt C 20 dJx4a65c_grow_92f84_7 (by decide) (fun c => ?_) (fun c => ?_)
  · replace h := h.1 c
    exact bJx4a65c_grow_92f84_20 B h
  · replace h := h.2 c
    refine r_aloadR_n C 0 dJx4a65c_grow_92f84_10 rfl rfl ?_
    obtain ⟨ht, h⟩ := h
    obtain ⟨b42, hb, h⟩ := h
    refine r_getR C fw_RJx4a65c_9 rfl ht hb dJx4a65c_grow_92f84_11 ?_
    refine r_getsDE C sl_RJx4a65c_39 dJx4a65c_grow_92f84_14 ?_
    refine r_acmp_eq C (x := some b42) (y := some (xde X)) 45 dJx4a65c_grow_92f84_17 (by decide) (fun c => ?_) (fun c => ?_)
    · replace h := h.1 c
      refine r_aloadR_n C 0 dJx4a65c_grow_92f84_45 rfl rfl ?_
      refine r_bipush C 10 dJx4a65c_grow_92f84_46 (by decide) ?_
      refine r_iload_n C 1 dJx4a65c_grow_92f84_48 rfl rfl ?_
      refine r_callS C hL yw_J9_max_7cf53 sw_RJx4a65c_79 rfl rfl (Nat.le_of_ble_eq_true rfl) ⟨(Nat.le_of_ble_eq_true rfl), (Nat.le_of_ble_eq_true rfl)⟩ (mJ9_max_7cf53 hfl h) rfl dJx4a65c_grow_92f84_49 (kI (fun r63 G64 h => ?_)) kN
      obtain ⟨hn0, hn1, h⟩ := h
      obtain ⟨hr1, hr2, h⟩ := h
      refine r_anew3 C _ rfl hn0 hn1 cl_RJx4a65c_7 hr1 hr2 dJx4a65c_grow_92f84_52 ?_
      refine r_nm (fun G65 hG65 => ?_)
      replace h := h G65 hG65
      refine r_dup_x1 C dJx4a65c_grow_92f84_55 rfl rfl ?_
      obtain ⟨ht, h⟩ := h
      refine r_putR C cw_0 fp_RJx4a65c_9 rfl ht rfl rfl dJx4a65c_grow_92f84_56 ?_
      refine r_nm (fun G66 hG66 => ?_)
      replace h := h G66 hG66
      exact r_aret C E0 hr (Or.inr ⟨_, rfl⟩) (x := (some (gH G64))) ⟨_, rfl, h⟩ dJx4a65c_grow_92f84_59
    · replace h := h.2 c
      exact bJx4a65c_grow_92f84_20 B h
def wJx4a65c_grow_d5877 (X : Xt) (G : Gt) (a0 : Nat) (Pr : Option Nat → Gt → Prop) : Prop := gT G a0 = (1, 0) ∧ gT G a0 = (1, 0) ∧ wJx4a65c_grow_92f84 X G a0 ((gI G 2 a0) + 1) (fun r1 G2 => ∃ b3, r1 = some b3 ∧ Pr (some b3) G2)
set_option maxRecDepth 20000 in
theorem mJx4a65c_grow_d5877 {X : Xt} {l : Launch} (hfl : l.stackTraces = false) {G : Gt} {a0 : Nat} {Pr : Option Nat → Gt → Prop} (h : wJx4a65c_grow_d5877 X G a0 Pr) : Mc X l yJx4a65c_grow_d5877 (.code yJx4a65c_grow_d5877 cJx4a65c_grow_d5877 1 (some (.array (.object "java/lang/Object")))) 4 107 [.ref a0] G (rA Pr) noX := by
  refine Mc.of (by decide +kernel) hfl [some (.ref a0)] rfl (Nat.le_of_ble_eq_true rfl) rfl ?_
  intro K hL C E0 hr hnm hex
  have B : BX X K l cJx4a65c_grow_d5877 1 RJx4a65c 4 107 G (some (.array (.object "java/lang/Object"))) "grow" := ⟨hL, C, E0, hr, hnm, hex, hfl⟩
  have C : Cx X K cJx4a65c_grow_d5877 1 RJx4a65c 4 107 := C
  unfold wJx4a65c_grow_d5877 at h
  refine r_aloadR_n C 0 dJx4a65c_grow_d5877_0 rfl rfl ?_
  refine r_aloadR_n C 0 dJx4a65c_grow_d5877_1 rfl rfl ?_
  obtain ⟨ht, h⟩ := h
  refine r_getI C fw_RJx4a65c_48 rfl ht dJx4a65c_grow_d5877_2 ?_
  refine r_iconst C 1 dJx4a65c_grow_d5877_5 (by decide) ?_
  refine r_iadd C dJx4a65c_grow_d5877_6 ?_
  obtain ⟨ht, h⟩ := h
  refine r_callV C (r := (RJx4a65c, TJx4a65c, 3)) hL yw_Jx4a65c_grow_92f84 vw_RJx4a65c_69 rfl rfl ht rfl rfl (Nat.le_of_ble_eq_true rfl) ⟨(Nat.le_of_ble_eq_true rfl), (Nat.le_of_ble_eq_true rfl)⟩ (mJx4a65c_grow_92f84 hfl h) rfl dJx4a65c_grow_d5877_7 (kA' (fun r1 G2 h => ?_)) kN
  obtain ⟨b3, hb, h⟩ := h
  subst hb
  exact r_aret C E0 hr (Or.inr ⟨_, rfl⟩) (x := (some b3)) ⟨_, rfl, h⟩ dJx4a65c_grow_d5877_10
def wJx4a65c_add_72be8 (X : Xt) (G : Gt) (a0 : Nat) (a1 : Nat) (a2 : Nat) (x3 : Int32) (Pr : Gt → Prop) : Prop := ((gT G a2).1 = 3 ∨ (gT G a2).1 = 6) ∧ (¬ x3 = (nI (gT G a2).2) → (gT G a2).1 = 3 ∧ vp_in x3 (gT G a2).2 ∧ (gT G a1).1 = 1 ∧ (gT G a1).2 < 12 ∧ ∀ G21, G21 = sB G a2 (va_up (gB G a2) x3.toNatClampNeg (some a1)) → gT G21 a0 = (1, 0) ∧ ∀ G22, G22 = sI G21 2 a0 (x3 + 1) → Pr G22) ∧ (x3 = (nI (gT G a2).2) → gT G a0 = (1, 0) ∧ wJx4a65c_grow_d5877 X G a0 (fun r41 G42 => ∃ b43, r41 = some b43 ∧ (gT G42 b43).1 = 3 ∧ vp_in x3 (gT G42 b43).2 ∧ (gT G42 a1).1 = 1 ∧ (gT G42 a1).2 < 12 ∧ ∀ G44, G44 = sB G42 b43 (va_up (gB G42 b43) x3.toNatClampNeg (some a1)) → gT G44 a0 = (1, 0) ∧ ∀ G45, G45 = sI G44 2 a0 (x3 + 1) → Pr G45))
set_option maxRecDepth 20000 in
theorem mJx4a65c_add_72be8 {X : Xt} {l : Launch} (hfl : l.stackTraces = false) {G : Gt} {a0 : Nat} {a1 : Nat} {a2 : Nat} {x3 : Int32} {Pr : Gt → Prop} (h : wJx4a65c_add_72be8 X G a0 a1 a2 x3 Pr) : Mc X l yJx4a65c_add_72be8 (.code yJx4a65c_add_72be8 cJx4a65c_add_72be8 4 none) 5 127 [.ref a0, .ref a1, .ref a2, .int x3] G (rV Pr) noX := by
  refine Mc.of (by decide +kernel) hfl [some (.ref a0), some (.ref a1), some (.ref a2), some (.int x3)] rfl (Nat.le_of_ble_eq_true rfl) rfl ?_
  intro K hL C E0 hr hnm hex
  have B : BX X K l cJx4a65c_add_72be8 4 RJx4a65c 5 127 G none "add" := ⟨hL, C, E0, hr, hnm, hex, hfl⟩
  have C : Cx X K cJx4a65c_add_72be8 4 RJx4a65c 5 127 := C
  unfold wJx4a65c_add_72be8 at h
  refine r_iload_n C 3 dJx4a65c_add_72be8_0 rfl rfl ?_
  refine r_aloadR_n C 2 dJx4a65c_add_72be8_1 rfl rfl ?_
  obtain ⟨ht, h⟩ := h
  refine r_alen36P C ht dJx4a65c_add_72be8_2 ?_
  refine r_icmp_ne C 11 dJx4a65c_add_72be8_3 (by decide) (fun c => ?_) (fun c => ?_)
  · replace h := h.1 c
    refine r_aloadR_n C 2 dJx4a65c_add_72be8_11 rfl rfl ?_
    refine r_iload_n C 3 dJx4a65c_add_72be8_12 rfl rfl ?_
    refine r_aloadR_n C 1 dJx4a65c_add_72be8_13 rfl rfl ?_
    obtain ⟨ht, hi, h⟩ := h
    obtain ⟨hv1, hv2, h⟩ := h
    refine r_aast3P C ht hv1 hv2 hi dJx4a65c_add_72be8_14 ?_
    refine r_nm (fun G21 hG21 => ?_)
    replace h := h G21 hG21
    refine r_aloadR_n C 0 dJx4a65c_add_72be8_15 rfl rfl ?_
    refine r_iload_n C 3 dJx4a65c_add_72be8_16 rfl rfl ?_
    refine r_iconst C 1 dJx4a65c_add_72be8_17 (by decide) ?_
    refine r_iadd C dJx4a65c_add_72be8_18 ?_
    obtain ⟨ht, h⟩ := h
    refine r_putI C cw_0 fp_RJx4a65c_48 rfl ht dJx4a65c_add_72be8_19 ?_
    refine r_nm (fun G22 hG22 => ?_)
    replace h := h G22 hG22
    exact r_vret C E0 hr ⟨rfl, h⟩ dJx4a65c_add_72be8_22
  · replace h := h.2 c
    refine r_aloadR_n C 0 dJx4a65c_add_72be8_6 rfl rfl ?_
    obtain ⟨ht, h⟩ := h
    refine r_callV C (r := (RJx4a65c, TJx4a65c, 3)) hL yw_Jx4a65c_grow_d5877 vw_RJx4a65c_129 rfl rfl ht rfl rfl (Nat.le_of_ble_eq_true rfl) ⟨(Nat.le_of_ble_eq_true rfl), (Nat.le_of_ble_eq_true rfl)⟩ (mJx4a65c_grow_d5877 hfl h) rfl dJx4a65c_add_72be8_7 (kA' (fun r41 G42 h => ?_)) kN
    obtain ⟨b43, hb, h⟩ := h
    subst hb
    refine r_astoreR_n C 2 (lv' := [some (.ref a0), some (.ref a1), some (.ref b43), some (.int x3)]) dJx4a65c_add_72be8_10 rfl (Nat.le_of_ble_eq_true rfl) rfl rfl ?_
    refine r_aloadR_n C 2 dJx4a65c_add_72be8_11 rfl rfl ?_
    refine r_iload_n C 3 dJx4a65c_add_72be8_12 rfl rfl ?_
    refine r_aloadR_n C 1 dJx4a65c_add_72be8_13 rfl rfl ?_
    obtain ⟨ht, hi, h⟩ := h
    obtain ⟨hv1, hv2, h⟩ := h
    refine r_aast3P C ht hv1 hv2 hi dJx4a65c_add_72be8_14 ?_
    refine r_nm (fun G44 hG44 => ?_)
    replace h := h G44 hG44
    refine r_aloadR_n C 0 dJx4a65c_add_72be8_15 rfl rfl ?_
    refine r_iload_n C 3 dJx4a65c_add_72be8_16 rfl rfl ?_
    refine r_iconst C 1 dJx4a65c_add_72be8_17 (by decide) ?_
    refine r_iadd C dJx4a65c_add_72be8_18 ?_
    obtain ⟨ht, h⟩ := h
    refine r_putI C cw_0 fp_RJx4a65c_48 rfl ht dJx4a65c_add_72be8_19 ?_
    refine r_nm (fun G45 hG45 => ?_)
    replace h := h G45 hG45
    exact r_vret C E0 hr ⟨rfl, h⟩ dJx4a65c_add_72be8_22
def wJx4a65c_add_9ea2d (X : Xt) (G : Gt) (a0 : Nat) (a1 : Nat) (Pr : Int32 → Gt → Prop) : Prop := gT G a0 = (1, 0) ∧ gT G a0 = (1, 0) ∧ ∀ G1, G1 = sI G 0 a0 ((gI G 0 a0) + 1) → gT G1 a0 = (1, 0) ∧ ∃ b2, gR G1 1 a0 = some b2 ∧ gT G1 a0 = (1, 0) ∧ gT G1 a0 = (1, 0) ∧ wJx4a65c_add_72be8 X G1 a0 a1 b2 (gI G1 2 a0) (fun G3 => Pr 1 G3)
set_option maxRecDepth 20000 in
theorem mJx4a65c_add_9ea2d {X : Xt} {l : Launch} (hfl : l.stackTraces = false) {G : Gt} {a0 : Nat} {a1 : Nat} {Pr : Int32 → Gt → Prop} (h : wJx4a65c_add_9ea2d X G a0 a1 Pr) : Mc X l yJx4a65c_add_9ea2d (.code yJx4a65c_add_9ea2d cJx4a65c_add_9ea2d 2 (some (.boolean))) 6 150 [.ref a0, .ref a1] G (rI Pr) noX := by
  refine Mc.of (by decide +kernel) hfl [some (.ref a0), some (.ref a1)] rfl (Nat.le_of_ble_eq_true rfl) rfl ?_
  intro K hL C E0 hr hnm hex
  have B : BX X K l cJx4a65c_add_9ea2d 2 RJx4a65c 6 150 G (some (.boolean)) "add" := ⟨hL, C, E0, hr, hnm, hex, hfl⟩
  have C : Cx X K cJx4a65c_add_9ea2d 2 RJx4a65c 6 150 := C
  unfold wJx4a65c_add_9ea2d at h
  refine r_aloadR_n C 0 dJx4a65c_add_9ea2d_0 rfl rfl ?_
  refine r_dup C dJx4a65c_add_9ea2d_1 rfl ?_
  obtain ⟨ht, h⟩ := h
  refine r_getI C fw_RJx4a65c_63 rfl ht dJx4a65c_add_9ea2d_2 ?_
  refine r_iconst C 1 dJx4a65c_add_9ea2d_5 (by decide) ?_
  refine r_iadd C dJx4a65c_add_9ea2d_6 ?_
  obtain ⟨ht, h⟩ := h
  refine r_putI C cw_0 fp_RJx4a65c_63 rfl ht dJx4a65c_add_9ea2d_7 ?_
  refine r_nm (fun G1 hG1 => ?_)
  replace h := h G1 hG1
  refine r_aloadR_n C 0 dJx4a65c_add_9ea2d_10 rfl rfl ?_
  refine r_aloadR_n C 1 dJx4a65c_add_9ea2d_11 rfl rfl ?_
  refine r_aloadR_n C 0 dJx4a65c_add_9ea2d_12 rfl rfl ?_
  obtain ⟨ht, h⟩ := h
  obtain ⟨b2, hb, h⟩ := h
  refine r_getR C fw_RJx4a65c_9 rfl ht hb dJx4a65c_add_9ea2d_13 ?_
  refine r_aloadR_n C 0 dJx4a65c_add_9ea2d_16 rfl rfl ?_
  obtain ⟨ht, h⟩ := h
  refine r_getI C fw_RJx4a65c_48 rfl ht dJx4a65c_add_9ea2d_17 ?_
  obtain ⟨ht, h⟩ := h
  refine r_callV C (r := (RJx4a65c, TJx4a65c, 3)) hL yw_Jx4a65c_add_72be8 vw_RJx4a65c_131 rfl rfl ht rfl rfl (Nat.le_of_ble_eq_true rfl) ⟨(Nat.le_of_ble_eq_true rfl), (Nat.le_of_ble_eq_true rfl)⟩ (mJx4a65c_add_72be8 hfl h) rfl dJx4a65c_add_9ea2d_20 (kV' (fun G3 h => ?_)) kN
  refine r_iconst C 1 dJx4a65c_add_9ea2d_23 (by decide) ?_
  exact r_zret C E0 hr (Or.inr rfl) ⟨_, rfl, h⟩ dJx4a65c_add_9ea2d_24
def wX8_settle (X : Xt) (G : Gt) (a0 : Nat) (x1 : Int32) (x2 : Int32) (x3 : Int32) (Pr : Gt → Prop) : Prop := gT G a0 = (1, 9) ∧ ∀ G1, G1 = sI G 295 a0 x1 → gT G1 a0 = (1, 9) ∧ ∀ G2, G2 = sI G1 296 a0 x2 → gT G2 a0 = (1, 9) ∧ ∀ G3, G3 = sI G2 297 a0 x3 → Pr G3
set_option maxRecDepth 20000 in
theorem mX8_settle {X : Xt} {l : Launch} (hfl : l.stackTraces = false) {G : Gt} {a0 : Nat} {x1 : Int32} {x2 : Int32} {x3 : Int32} {Pr : Gt → Prop} (h : wX8_settle X G a0 x1 x2 x3 Pr) : Mc X l yX8_settle (.code yX8_settle cX8_settle 4 none) 0 0 [.ref a0, .int x1, .int x2, .int x3] G (rV Pr) noX := by
  refine Mc.of (by decide +kernel) hfl [some (.ref a0), some (.int x1), some (.int x2), some (.int x3)] rfl (Nat.le_of_ble_eq_true rfl) rfl ?_
  intro K hL C E0 hr hnm hex
  have B : BX X K l cX8_settle 4 RX8 0 0 G none "settle" := ⟨hL, C, E0, hr, hnm, hex, hfl⟩
  have C : Cx X K cX8_settle 4 RX8 0 0 := C
  unfold wX8_settle at h
  refine r_aloadR_n C 0 dX8_settle_0 rfl rfl ?_
  refine r_iload_n C 1 dX8_settle_1 rfl rfl ?_
  obtain ⟨ht, h⟩ := h
  refine r_putI C cw_9 fp_RX8_9 rfl ht dX8_settle_2 ?_
  refine r_nm (fun G1 hG1 => ?_)
  replace h := h G1 hG1
  refine r_aloadR_n C 0 dX8_settle_5 rfl rfl ?_
  refine r_iload_n C 2 dX8_settle_6 rfl rfl ?_
  obtain ⟨ht, h⟩ := h
  refine r_putI C cw_9 fp_RX8_15 rfl ht dX8_settle_7 ?_
  refine r_nm (fun G2 hG2 => ?_)
  replace h := h G2 hG2
  refine r_aloadR_n C 0 dX8_settle_10 rfl rfl ?_
  refine r_iload_n C 3 dX8_settle_11 rfl rfl ?_
  obtain ⟨ht, h⟩ := h
  refine r_putI C cw_9 fp_RX8_18 rfl ht dX8_settle_12 ?_
  refine r_nm (fun G3 hG3 => ?_)
  replace h := h G3 hG3
  exact r_vret C E0 hr ⟨rfl, h⟩ dX8_settle_15
def wX6_copyFrom_71 (X : Xt) (Pr : Gt → Prop) (Px : String → Gt → Prop) (k2 : Gt → Nat → Nat → Int32 → Prop) (G : Gt) (a0 : Nat) (a1 : Nat) (x2 : Int32) (a3 : Nat) : Prop := gT G a0 = (1, 7) ∧ ∃ b1, gR G 224 a0 = some b1 ∧ gT G b1 = (1, 0) ∧ wJx4a65c_get_915e3 X G b1 x2 (fun r2 G3 => ∃ b4, r2 = some b4 ∧ gT G3 b4 = (1, 9) ∧ gT G3 a3 = (1, 9) ∧ gT G3 a3 = (1, 9) ∧ gT G3 a3 = (1, 9) ∧ gT G3 b4 = (1, 9) ∧ wX8_settle X G3 b4 (gI G3 295 a3) (gI G3 296 a3) (gI G3 297 a3) (fun G5 => gT G5 a3 = (1, 9) ∧ ((gI G5 293 a3) = 0 → k2 G5 a0 a1 (x2 + 1)) ∧ (¬ ((gI G5 293 a3) = 0) → gT G5 b4 = (1, 9) ∧ ∃ b46, gR G5 294 b4 = some b46 ∧ gT G5 a3 = (1, 9) ∧ ∃ b47, gR G5 294 a3 = some b47 ∧ (gT G5 b47).1 = 2 ∧ vp_in 0 (gT G5 b47).2 ∧ (gT G5 b46).1 = 2 ∧ vp_in 0 (gT G5 b46).2 ∧ ∀ G48, G48 = sA G5 b46 (upd (gA G5 b46) (0 : Int32).toNatClampNeg (gA G5 b47 (0 : Int32).toNatClampNeg)) → k2 G48 a0 a1 (x2 + 1)))) Px
set_option maxRecDepth 20000 in
theorem bX6_copyFrom_71 {X : Xt} {K : Kt} {l : Launch} {G0 : Gt} {Pr : Gt → Prop} {Px : String → Gt → Prop} (B : BX X K l cX6_copyFrom 5 RX6 7 171 G0 none "copyFrom") {k2 : Gt → Nat → Nat → Int32 → Prop} (hk2 : ∀ (G : Gt) (a0 : Nat) (a1 : Nat) (x2 : Int32), k2 G a0 a1 x2 → WM X K (QM X K G0 (rV Pr) Px) G 2 [some (.ref a0), some (.ref a1), some (.int x2), none, none] []) {G : Gt} {a0 : Nat} {a1 : Nat} {x2 : Int32} {a3 : Nat} (h : wX6_copyFrom_71 X Pr Px k2 G a0 a1 x2 a3) : WM X K (QM X K G0 (rV Pr) Px) G 71 [some (.ref a0), some (.ref a1), some (.int x2), some (.ref a3), none] [] := by
  obtain ⟨hL, C, E0, hr, hnm, hex, hfl⟩ := id B
  unfold wX6_copyFrom_71 at h
  refine r_aloadR_n C 0 dX6_copyFrom_71 rfl rfl ?_
  obtain ⟨ht, h⟩ := h
  obtain ⟨b1, hb, h⟩ := h
  refine r_getR C fw_RX6_12 rfl ht hb dX6_copyFrom_72 ?_
  refine r_iload_n C 2 dX6_copyFrom_75 rfl rfl ?_
  obtain ⟨ht, h⟩ := h
  refine r_callV C (r := (RJx4a65c, TJx4a65c, 3)) hL yw_Jx4a65c_get_915e3 vw_RX6_43 rfl rfl ht rfl rfl (Nat.le_of_ble_eq_true rfl) ⟨(Nat.le_of_ble_eq_true rfl), (Nat.le_of_ble_eq_true rfl)⟩ (mJx4a65c_get_915e3 hfl h) rfl dX6_copyFrom_76 (kA' (fun r2 G3 h => ?_)) (kO C E0 hex)
  obtain ⟨b4, hb, ht, h⟩ := h
  subst hb
  refine r_cast C (r := (RX8, TX8, 11)) rfl cl_RX6_47 ht dX6_copyFrom_79 ?_
  refine r_astoreR C (lv' := [some (.ref a0), some (.ref a1), some (.int x2), some (.ref a3), some (.ref b4)]) dX6_copyFrom_82 (Nat.le_of_ble_eq_true rfl) rfl rfl ?_
  refine r_aloadR C dX6_copyFrom_84 rfl ?_
  refine r_aloadR_n C 3 dX6_copyFrom_86 rfl rfl ?_
  obtain ⟨ht, h⟩ := h
  refine r_getI C fw_RX6_65 rfl ht dX6_copyFrom_87 ?_
  refine r_aloadR_n C 3 dX6_copyFrom_90 rfl rfl ?_
  obtain ⟨ht, h⟩ := h
  refine r_getI C fw_RX6_68 rfl ht dX6_copyFrom_91 ?_
  refine r_aloadR_n C 3 dX6_copyFrom_94 rfl rfl ?_
  obtain ⟨ht, h⟩ := h
  refine r_getI C fw_RX6_71 rfl ht dX6_copyFrom_95 ?_
  obtain ⟨ht, h⟩ := h
  refine r_callV C (r := (RX8, TX8, 11)) hL yw_X8_settle vw_RX6_74 rfl rfl ht rfl rfl (Nat.le_of_ble_eq_true rfl) ⟨(Nat.le_of_ble_eq_true rfl), (Nat.le_of_ble_eq_true rfl)⟩ (mX8_settle hfl h) rfl dX6_copyFrom_98 (kV' (fun G5 h => ?_)) kN
  refine r_aloadR_n C 3 dX6_copyFrom_101 rfl rfl ?_
  obtain ⟨ht, h⟩ := h
  refine r_getI C fw_RX6_57 rfl ht dX6_copyFrom_102 ?_
  refine r_if_eq C 121 dX6_copyFrom_105 (by decide) (fun c => ?_) (fun c => ?_)
  · replace h := h.1 c
    refine r_iinc C 1 (lv' := [some (.ref a0), some (.ref a1), some (.int (x2 + 1)), some (.ref a3), some (.ref b4)]) dX6_copyFrom_121 rfl (by decide) rfl rfl ?_
    refine r_goto C 2 dX6_copyFrom_124 (by decide) ?_
    refine r_fg (lv' := [some (.ref a0), some (.ref a1), some (.int (x2 + 1)), none, none]) (show fgt _ _ from ⟨rfl, ⟨rfl, ⟨rfl, trivial⟩⟩⟩) ?_
    exact hk2 _ _ _ _ h
  · replace h := h.2 c
    refine r_aloadR C dX6_copyFrom_108 rfl ?_
    obtain ⟨ht, h⟩ := h
    obtain ⟨b46, hb, h⟩ := h
    refine r_getR C fw_RX6_78 rfl ht hb dX6_copyFrom_110 ?_
    refine r_iconst C 0 dX6_copyFrom_113 (by decide) ?_
    refine r_aloadR_n C 3 dX6_copyFrom_114 rfl rfl ?_
    obtain ⟨ht, h⟩ := h
    obtain ⟨b47, hb, h⟩ := h
    refine r_getR C fw_RX6_78 rfl ht hb dX6_copyFrom_115 ?_
    refine r_iconst C 0 dX6_copyFrom_118 (by decide) ?_
    obtain ⟨ht, hi, h⟩ := h
    refine r_ialdP C ht hi dX6_copyFrom_119 ?_
    obtain ⟨ht, hi, h⟩ := h
    refine r_iastP C ht hi dX6_copyFrom_120 ?_
    refine r_nm (fun G48 hG48 => ?_)
    replace h := h G48 hG48
    refine r_iinc C 1 (lv' := [some (.ref a0), some (.ref a1), some (.int (x2 + 1)), some (.ref a3), some (.ref b4)]) dX6_copyFrom_121 rfl (by decide) rfl rfl ?_
    refine r_goto C 2 dX6_copyFrom_124 (by decide) ?_
    refine r_fg (lv' := [some (.ref a0), some (.ref a1), some (.int (x2 + 1)), none, none]) (show fgt _ _ from ⟨rfl, ⟨rfl, ⟨rfl, trivial⟩⟩⟩) ?_
    exact hk2 _ _ _ _ h
def wX6_copyFrom_2 (X : Xt) (Pr : Gt → Prop) (Px : String → Gt → Prop) (k2 : Gt → Nat → Nat → Int32 → Prop) (G : Gt) (a0 : Nat) (a1 : Nat) (x2 : Int32) : Prop := gT G a1 = (1, 7) ∧ ∃ b1, gR G 224 a1 = some b1 ∧ gT G b1 = (1, 0) ∧ wJx4a65c_size_8abf5 X G b1 (fun r2 G3 => (r2 ≤ x2 → Pr G3) ∧ (¬ (r2 ≤ x2) → gT G3 a1 = (1, 7) ∧ ∃ b44, gR G3 224 a1 = some b44 ∧ gT G3 b44 = (1, 0) ∧ wJx4a65c_get_915e3 X G3 b44 x2 (fun r45 G46 => ∃ b47, r45 = some b47 ∧ gT G46 b47 = (1, 9) ∧ gT G46 a0 = (1, 7) ∧ ∃ b48, gR G46 224 a0 = some b48 ∧ gT G46 b48 = (1, 0) ∧ wJx4a65c_size_8abf5 X G46 b48 (fun r49 G50 => (x2 < r49 → wX6_copyFrom_71 X Pr Px k2 G50 a0 a1 x2 b47) ∧ (¬ (x2 < r49) → gT G50 a0 = (1, 7) ∧ ∃ b91, gR G50 224 a0 = some b91 ∧ gH G50 + 1 ≤ xC X ∧ gU G50 + 11 ≤ xS X ∧ ∀ G92, G92 = nO G50 9 11 → gT G92 b47 = (1, 9) ∧ gT G92 b47 = (1, 9) ∧ gT G92 b47 = (1, 9) ∧ gT G92 b47 = (1, 9) ∧ gT G92 b47 = (1, 9) ∧ wX8_init X G92 (gH G50) (gI G92 288 b47) (gI G92 289 b47) (gI G92 290 b47) (gI G92 291 b47) (gI G92 293 b47) (fun G93 => gT G93 b91 = (1, 0) ∧ wJx4a65c_add_9ea2d X G93 b91 (gH G50) (fun r94 G95 => wX6_copyFrom_71 X Pr Px k2 G95 a0 a1 x2 b47))))) Px))
set_option maxRecDepth 20000 in
theorem bX6_copyFrom_2 {X : Xt} {K : Kt} {l : Launch} {G0 : Gt} {Pr : Gt → Prop} {Px : String → Gt → Prop} (B : BX X K l cX6_copyFrom 5 RX6 7 171 G0 none "copyFrom") {k2 : Gt → Nat → Nat → Int32 → Prop} (hk2 : ∀ (G : Gt) (a0 : Nat) (a1 : Nat) (x2 : Int32), k2 G a0 a1 x2 → WM X K (QM X K G0 (rV Pr) Px) G 2 [some (.ref a0), some (.ref a1), some (.int x2), none, none] []) {G : Gt} {a0 : Nat} {a1 : Nat} {x2 : Int32} (h : wX6_copyFrom_2 X Pr Px k2 G a0 a1 x2) : WM X K (QM X K G0 (rV Pr) Px) G 2 [some (.ref a0), some (.ref a1), some (.int x2), none, none] [] := by
  obtain ⟨hL, C, E0, hr, hnm, hex, hfl⟩ := id B
  unfold wX6_copyFrom_2 at h
  refine r_iload_n C 2 dX6_copyFrom_2 rfl rfl ?_
  refine r_aloadR_n C 1 dX6_copyFrom_3 rfl rfl ?_
  obtain ⟨ht, h⟩ := h
  obtain ⟨b1, hb, h⟩ := h
  refine r_getR C fw_RX6_12 rfl ht hb dX6_copyFrom_4 ?_
  obtain ⟨ht, h⟩ := h
  refine r_callV C (r := (RJx4a65c, TJx4a65c, 3)) hL yw_Jx4a65c_size_8abf5 vw_RX6_39 rfl rfl ht rfl rfl (Nat.le_of_ble_eq_true rfl) ⟨(Nat.le_of_ble_eq_true rfl), (Nat.le_of_ble_eq_true rfl)⟩ (mJx4a65c_size_8abf5 hfl h) rfl dX6_copyFrom_7 (kI (fun r2 G3 h => ?_)) kN
  refine r_icmp_ge C 127 dX6_copyFrom_10 (by decide) (fun c => ?_) (fun c => ?_)
  · replace h := h.1 c
    exact r_vret C E0 hr ⟨rfl, h⟩ dX6_copyFrom_127
  · replace h := h.2 c
    refine r_aloadR_n C 1 dX6_copyFrom_13 rfl rfl ?_
    obtain ⟨ht, h⟩ := h
    obtain ⟨b44, hb, h⟩ := h
    refine r_getR C fw_RX6_12 rfl ht hb dX6_copyFrom_14 ?_
    refine r_iload_n C 2 dX6_copyFrom_17 rfl rfl ?_
    obtain ⟨ht, h⟩ := h
    refine r_callV C (r := (RJx4a65c, TJx4a65c, 3)) hL yw_Jx4a65c_get_915e3 vw_RX6_43 rfl rfl ht rfl rfl (Nat.le_of_ble_eq_true rfl) ⟨(Nat.le_of_ble_eq_true rfl), (Nat.le_of_ble_eq_true rfl)⟩ (mJx4a65c_get_915e3 hfl h) rfl dX6_copyFrom_18 (kA' (fun r45 G46 h => ?_)) (kO C E0 hex)
    obtain ⟨b47, hb, ht, h⟩ := h
    subst hb
    refine r_cast C (r := (RX8, TX8, 11)) rfl cl_RX6_47 ht dX6_copyFrom_21 ?_
    refine r_astoreR_n C 3 (lv' := [some (.ref a0), some (.ref a1), some (.int x2), some (.ref b47), none]) dX6_copyFrom_24 rfl (Nat.le_of_ble_eq_true rfl) rfl rfl ?_
    refine r_iload_n C 2 dX6_copyFrom_25 rfl rfl ?_
    refine r_aloadR_n C 0 dX6_copyFrom_26 rfl rfl ?_
    obtain ⟨ht, h⟩ := h
    obtain ⟨b48, hb, h⟩ := h
    refine r_getR C fw_RX6_12 rfl ht hb dX6_copyFrom_27 ?_
    obtain ⟨ht, h⟩ := h
    refine r_callV C (r := (RJx4a65c, TJx4a65c, 3)) hL yw_Jx4a65c_size_8abf5 vw_RX6_39 rfl rfl ht rfl rfl (Nat.le_of_ble_eq_true rfl) ⟨(Nat.le_of_ble_eq_true rfl), (Nat.le_of_ble_eq_true rfl)⟩ (mJx4a65c_size_8abf5 hfl h) rfl dX6_copyFrom_30 (kI (fun r49 G50 h => ?_)) kN
    refine r_icmp_lt C 71 dX6_copyFrom_33 (by decide) (fun c => ?_) (fun c => ?_)
    · replace h := h.1 c
      exact bX6_copyFrom_71 B hk2 h
    · replace h := h.2 c
      refine r_aloadR_n C 0 dX6_copyFrom_36 rfl rfl ?_
      obtain ⟨ht, h⟩ := h
      obtain ⟨b91, hb, h⟩ := h
      refine r_getR C fw_RX6_12 rfl ht hb dX6_copyFrom_37 ?_
      obtain ⟨hr1, hr2, h⟩ := h
      refine r_new C cw_9 (T := TX8) (N := 11) rfl cl_RX6_47 hr1 hr2 dX6_copyFrom_40 ?_
      refine r_nm (fun G92 hG92 => ?_)
      replace h := h G92 hG92
      refine r_dup C dX6_copyFrom_43 rfl ?_
      refine r_aloadR_n C 3 dX6_copyFrom_44 rfl rfl ?_
      obtain ⟨ht, h⟩ := h
      refine r_getI C fw_RX6_49 rfl ht dX6_copyFrom_45 ?_
      refine r_aloadR_n C 3 dX6_copyFrom_48 rfl rfl ?_
      obtain ⟨ht, h⟩ := h
      refine r_getI C fw_RX6_52 rfl ht dX6_copyFrom_49 ?_
      refine r_aloadR_n C 3 dX6_copyFrom_52 rfl rfl ?_
      obtain ⟨ht, h⟩ := h
      refine r_getI C fw_RX6_53 rfl ht dX6_copyFrom_53 ?_
      refine r_aloadR_n C 3 dX6_copyFrom_56 rfl rfl ?_
      obtain ⟨ht, h⟩ := h
      refine r_getI C fw_RX6_54 rfl ht dX6_copyFrom_57 ?_
      refine r_aloadR_n C 3 dX6_copyFrom_60 rfl rfl ?_
      obtain ⟨ht, h⟩ := h
      refine r_getI C fw_RX6_57 rfl ht dX6_copyFrom_61 ?_
      refine r_callI C hL yw_X8_init iw_RX6_58 rfl rfl (Nat.le_of_ble_eq_true rfl) ⟨(Nat.le_of_ble_eq_true rfl), (Nat.le_of_ble_eq_true rfl)⟩ (mX8_init hfl h) rfl dX6_copyFrom_64 (kV' (fun G93 h => ?_)) kN
      obtain ⟨ht, h⟩ := h
      refine r_callV C (r := (RJx4a65c, TJx4a65c, 3)) hL yw_Jx4a65c_add_9ea2d vw_RX6_61 rfl rfl ht rfl rfl (Nat.le_of_ble_eq_true rfl) ⟨(Nat.le_of_ble_eq_true rfl), (Nat.le_of_ble_eq_true rfl)⟩ (mJx4a65c_add_9ea2d hfl h) rfl dX6_copyFrom_67 (kI (fun r94 G95 h => ?_)) kN
      refine r_pop C dX6_copyFrom_70 rfl ?_
      exact bX6_copyFrom_71 B hk2 h
theorem lX6_copyFrom_2 {X : Xt} {K : Kt} {l : Launch} {G0 : Gt} {Pr : Gt → Prop} {Px : String → Gt → Prop} (B : BX X K l cX6_copyFrom 5 RX6 7 171 G0 none "copyFrom") (I : Gt → Nat → Nat → Int32 → Prop) (μ : Gt → Nat → Nat → Int32 → Nat) (hS : ∀ (G : Gt) (a0 : Nat) (a1 : Nat) (x2 : Int32), I G a0 a1 x2 → wX6_copyFrom_2 X Pr Px (fun G' a0' a1' x2' => I G' a0' a1' x2' ∧ μ G' a0' a1' x2' < μ G a0 a1 x2) G a0 a1 x2) : ∀ (n : Nat) (G : Gt) (a0 : Nat) (a1 : Nat) (x2 : Int32), μ G a0 a1 x2 < n → I G a0 a1 x2 → WM X K (QM X K G0 (rV Pr) Px) G 2 [some (.ref a0), some (.ref a1), some (.int x2), none, none] [] := by
  intro n
  induction n with
  | zero => intro G a0 a1 x2 hm; exact absurd hm (Nat.not_lt_zero _)
  | succ n ih =>
    intro G a0 a1 x2 hm hi
    exact bX6_copyFrom_2 B (fun G' a0' a1' x2' hk => ih G' a0' a1' x2' (Nat.lt_of_lt_of_le hk.2 (Nat.le_of_lt_succ hm)) hk.1) (hS G a0 a1 x2 hi)
def wX6_copyFrom (X : Xt) (G : Gt) (a0 : Nat) (a1 : Nat) (Pr : Gt → Prop) (Px : String → Gt → Prop) : Prop := ∃ (I : Gt → Nat → Nat → Int32 → Prop) (μ : Gt → Nat → Nat → Int32 → Nat), I G a0 a1 (0 : Int32) ∧ ∀ (G : Gt) (a0 : Nat) (a1 : Nat) (x2 : Int32), I G a0 a1 x2 → wX6_copyFrom_2 X Pr Px (fun G' a0' a1' x2' => I G' a0' a1' x2' ∧ μ G' a0' a1' x2' < μ G a0 a1 x2) G a0 a1 x2
set_option maxRecDepth 20000 in
theorem mX6_copyFrom {X : Xt} {l : Launch} (hfl : l.stackTraces = false) {G : Gt} {a0 : Nat} {a1 : Nat} {Pr : Gt → Prop} {Px : String → Gt → Prop} (h : wX6_copyFrom X G a0 a1 Pr Px) : Mc X l yX6_copyFrom (.code yX6_copyFrom cX6_copyFrom 5 none) 7 171 [.ref a0, .ref a1] G (rV Pr) Px := by
  refine Mc.of (by decide +kernel) hfl [some (.ref a0), some (.ref a1), none, none, none] rfl (Nat.le_of_ble_eq_true rfl) rfl ?_
  intro K hL C E0 hr hnm hex
  have B : BX X K l cX6_copyFrom 5 RX6 7 171 G none "copyFrom" := ⟨hL, C, E0, hr, hnm, hex, hfl⟩
  have C : Cx X K cX6_copyFrom 5 RX6 7 171 := C
  unfold wX6_copyFrom at h
  refine r_iconst C 0 dX6_copyFrom_0 (by decide) ?_
  refine r_istore_n C 2 (lv' := [some (.ref a0), some (.ref a1), some (.int 0), none, none]) dX6_copyFrom_1 rfl (Nat.le_of_ble_eq_true rfl) rfl rfl ?_
  obtain ⟨I, μ, hI, hS⟩ := h
  exact lX6_copyFrom_2 B I μ hS _ _ _ _ _ (Nat.lt_succ_self _) hI
def wJx4a65c_fastRemove_b59b0 (X : Xt) (G : Gt) (a0 : Nat) (a1 : Nat) (x2 : Int32) (Pr : Gt → Prop) : Prop := gT G a0 = (1, 0) ∧ gT G a0 = (1, 0) ∧ ∀ G1, G1 = sI G 0 a0 ((gI G 0 a0) + 1) → gT G1 a0 = (1, 0) ∧ (((gI G1 2 a0) - 1) ≤ x2 → gT G1 a0 = (1, 0) ∧ ∀ G22, G22 = sI G1 2 a0 ((gI G1 2 a0) - 1) → (gT G22 a1).1 = 3 ∧ vp_in ((gI G1 2 a0) - 1) (gT G22 a1).2 ∧ ∀ G23, G23 = sB G22 a1 (va_up (gB G22 a1) ((gI G1 2 a0) - 1).toNatClampNeg none) → Pr G23) ∧ (¬ (((gI G1 2 a0) - 1) ≤ x2) → (gT G1 a1).1 = 3 ∧ (gT G1 a1).1 = 3 ∧ ¬ (x2 + 1) < 0 ∧ ¬ x2 < 0 ∧ ¬ (((gI G1 2 a0) - 1) - x2) < 0 ∧ (x2 + 1).toNatClampNeg + (((gI G1 2 a0) - 1) - x2).toNatClampNeg ≤ (gT G1 a1).2 ∧ x2.toNatClampNeg + (((gI G1 2 a0) - 1) - x2).toNatClampNeg ≤ (gT G1 a1).2 ∧ (∀ i : Nat, i < (((gI G1 2 a0) - 1) - x2).toNatClampNeg → ∀ y : Nat, gB G1 a1 ((x2 + 1).toNatClampNeg + i) = some y → (gT G1 y).1 = 1 ∧ (gT G1 y).2 < 12) ∧ ∀ G42, G42 = sB G1 a1 (va_cpy (gB G1 a1) (gB G1 a1) (x2 + 1).toNatClampNeg x2.toNatClampNeg (((gI G1 2 a0) - 1) - x2).toNatClampNeg) → gT G42 a0 = (1, 0) ∧ ∀ G43, G43 = sI G42 2 a0 ((gI G1 2 a0) - 1) → (gT G43 a1).1 = 3 ∧ vp_in ((gI G1 2 a0) - 1) (gT G43 a1).2 ∧ ∀ G44, G44 = sB G43 a1 (va_up (gB G43 a1) ((gI G1 2 a0) - 1).toNatClampNeg none) → Pr G44)
set_option maxRecDepth 20000 in
theorem mJx4a65c_fastRemove_b59b0 {X : Xt} {l : Launch} (hfl : l.stackTraces = false) {G : Gt} {a0 : Nat} {a1 : Nat} {x2 : Int32} {Pr : Gt → Prop} (h : wJx4a65c_fastRemove_b59b0 X G a0 a1 x2 Pr) : Mc X l yJx4a65c_fastRemove_b59b0 (.code yJx4a65c_fastRemove_b59b0 cJx4a65c_fastRemove_b59b0 4 none) 1 40 [.ref a0, .ref a1, .int x2] G (rV Pr) noX := by
  refine Mc.of (by decide +kernel) hfl [some (.ref a0), some (.ref a1), some (.int x2), none] rfl (Nat.le_of_ble_eq_true rfl) rfl ?_
  intro K hL C E0 hr hnm hex
  have B : BX X K l cJx4a65c_fastRemove_b59b0 4 RJx4a65c 1 40 G none "fastRemove" := ⟨hL, C, E0, hr, hnm, hex, hfl⟩
  have C : Cx X K cJx4a65c_fastRemove_b59b0 4 RJx4a65c 1 40 := C
  unfold wJx4a65c_fastRemove_b59b0 at h
  refine r_aloadR_n C 0 dJx4a65c_fastRemove_b59b0_0 rfl rfl ?_
  refine r_dup C dJx4a65c_fastRemove_b59b0_1 rfl ?_
  obtain ⟨ht, h⟩ := h
  refine r_getI C fw_RJx4a65c_63 rfl ht dJx4a65c_fastRemove_b59b0_2 ?_
  refine r_iconst C 1 dJx4a65c_fastRemove_b59b0_5 (by decide) ?_
  refine r_iadd C dJx4a65c_fastRemove_b59b0_6 ?_
  obtain ⟨ht, h⟩ := h
  refine r_putI C cw_0 fp_RJx4a65c_63 rfl ht dJx4a65c_fastRemove_b59b0_7 ?_
  refine r_nm (fun G1 hG1 => ?_)
  replace h := h G1 hG1
  refine r_aloadR_n C 0 dJx4a65c_fastRemove_b59b0_10 rfl rfl ?_
  obtain ⟨ht, h⟩ := h
  refine r_getI C fw_RJx4a65c_48 rfl ht dJx4a65c_fastRemove_b59b0_11 ?_
  refine r_iconst C 1 dJx4a65c_fastRemove_b59b0_14 (by decide) ?_
  refine r_isub C dJx4a65c_fastRemove_b59b0_15 ?_
  refine r_dup C dJx4a65c_fastRemove_b59b0_16 rfl ?_
  refine r_istore_n C 3 (lv' := [some (.ref a0), some (.ref a1), some (.int x2), some (.int ((gI G1 2 a0) - 1))]) dJx4a65c_fastRemove_b59b0_17 rfl (Nat.le_of_ble_eq_true rfl) rfl rfl ?_
  refine r_iload_n C 2 dJx4a65c_fastRemove_b59b0_18 rfl rfl ?_
  refine r_icmp_le C 34 dJx4a65c_fastRemove_b59b0_19 (by decide) (fun c => ?_) (fun c => ?_)
  · replace h := h.1 c
    refine r_aloadR_n C 1 dJx4a65c_fastRemove_b59b0_34 rfl rfl ?_
    refine r_aloadR_n C 0 dJx4a65c_fastRemove_b59b0_35 rfl rfl ?_
    refine r_iload_n C 3 dJx4a65c_fastRemove_b59b0_36 rfl rfl ?_
    refine r_dup_x1 C dJx4a65c_fastRemove_b59b0_37 rfl rfl ?_
    obtain ⟨ht, h⟩ := h
    refine r_putI C cw_0 fp_RJx4a65c_48 rfl ht dJx4a65c_fastRemove_b59b0_38 ?_
    refine r_nm (fun G22 hG22 => ?_)
    replace h := h G22 hG22
    refine r_aconst_null C dJx4a65c_fastRemove_b59b0_41 ?_
    obtain ⟨ht, hi, h⟩ := h
    refine r_aastNP C ht hi dJx4a65c_fastRemove_b59b0_42 ?_
    refine r_nm (fun G23 hG23 => ?_)
    replace h := h G23 hG23
    exact r_vret C E0 hr ⟨rfl, h⟩ dJx4a65c_fastRemove_b59b0_43
  · replace h := h.2 c
    refine r_aloadR_n C 1 dJx4a65c_fastRemove_b59b0_22 rfl rfl ?_
    refine r_iload_n C 2 dJx4a65c_fastRemove_b59b0_23 rfl rfl ?_
    refine r_iconst C 1 dJx4a65c_fastRemove_b59b0_24 (by decide) ?_
    refine r_iadd C dJx4a65c_fastRemove_b59b0_25 ?_
    refine r_aloadR_n C 1 dJx4a65c_fastRemove_b59b0_26 rfl rfl ?_
    refine r_iload_n C 2 dJx4a65c_fastRemove_b59b0_27 rfl rfl ?_
    refine r_iload_n C 3 dJx4a65c_fastRemove_b59b0_28 rfl rfl ?_
    refine r_iload_n C 2 dJx4a65c_fastRemove_b59b0_29 rfl rfl ?_
    refine r_isub C dJx4a65c_fastRemove_b59b0_30 ?_
    obtain ⟨q1, q2, q3, q4, q5, q6, q7, q8, h⟩ := h
    refine r_copyR C ac_RJx4a65c_112 q1 q2 q3 q4 q5 q6 q7 q8 rfl (Nat.le_of_ble_eq_true rfl) (Nat.le_of_ble_eq_true rfl) dJx4a65c_fastRemove_b59b0_31 ?_
    refine r_nm (fun G42 hG42 => ?_)
    replace h := h G42 hG42
    refine r_aloadR_n C 1 dJx4a65c_fastRemove_b59b0_34 rfl rfl ?_
    refine r_aloadR_n C 0 dJx4a65c_fastRemove_b59b0_35 rfl rfl ?_
    refine r_iload_n C 3 dJx4a65c_fastRemove_b59b0_36 rfl rfl ?_
    refine r_dup_x1 C dJx4a65c_fastRemove_b59b0_37 rfl rfl ?_
    obtain ⟨ht, h⟩ := h
    refine r_putI C cw_0 fp_RJx4a65c_48 rfl ht dJx4a65c_fastRemove_b59b0_38 ?_
    refine r_nm (fun G43 hG43 => ?_)
    replace h := h G43 hG43
    refine r_aconst_null C dJx4a65c_fastRemove_b59b0_41 ?_
    obtain ⟨ht, hi, h⟩ := h
    refine r_aastNP C ht hi dJx4a65c_fastRemove_b59b0_42 ?_
    refine r_nm (fun G44 hG44 => ?_)
    replace h := h G44 hG44
    exact r_vret C E0 hr ⟨rfl, h⟩ dJx4a65c_fastRemove_b59b0_43
def wJx4a65c_remove_915e3 (X : Xt) (G : Gt) (a0 : Nat) (x1 : Int32) (Pr : Option Nat → Gt → Prop) (Px : String → Gt → Prop) : Prop := gT G a0 = (1, 0) ∧ wJ15_checkIndex_7cf53 X G x1 (gI G 2 a0) (fun r1 G2 => gT G2 a0 = (1, 0) ∧ ∃ b3, gR G2 1 a0 = some b3 ∧ (gT G2 b3).1 = 3 ∧ vp_in x1 (gT G2 b3).2 ∧ gT G2 a0 = (1, 0) ∧ wJx4a65c_fastRemove_b59b0 X G2 a0 b3 x1 (fun G4 => Pr (gB G2 b3 x1.toNatClampNeg) G4)) Px
set_option maxRecDepth 20000 in
theorem mJx4a65c_remove_915e3 {X : Xt} {l : Launch} (hfl : l.stackTraces = false) {G : Gt} {a0 : Nat} {x1 : Int32} {Pr : Option Nat → Gt → Prop} {Px : String → Gt → Prop} (h : wJx4a65c_remove_915e3 X G a0 x1 Pr Px) : Mc X l yJx4a65c_remove_915e3 (.code yJx4a65c_remove_915e3 cJx4a65c_remove_915e3 4 (some (.object "java/lang/Object"))) 2 63 [.ref a0, .int x1] G (rA Pr) Px := by
  refine Mc.of (by decide +kernel) hfl [some (.ref a0), some (.int x1), none, none] rfl (Nat.le_of_ble_eq_true rfl) rfl ?_
  intro K hL C E0 hr hnm hex
  have B : BX X K l cJx4a65c_remove_915e3 4 RJx4a65c 2 63 G (some (.object "java/lang/Object")) "remove" := ⟨hL, C, E0, hr, hnm, hex, hfl⟩
  have C : Cx X K cJx4a65c_remove_915e3 4 RJx4a65c 2 63 := C
  unfold wJx4a65c_remove_915e3 at h
  refine r_iload_n C 1 dJx4a65c_remove_915e3_0 rfl rfl ?_
  refine r_aloadR_n C 0 dJx4a65c_remove_915e3_1 rfl rfl ?_
  obtain ⟨ht, h⟩ := h
  refine r_getI C fw_RJx4a65c_48 rfl ht dJx4a65c_remove_915e3_2 ?_
  refine r_callS C hL yw_J15_checkIndex_7cf53 sw_RJx4a65c_118 rfl rfl (Nat.le_of_ble_eq_true rfl) ⟨(Nat.le_of_ble_eq_true rfl), (Nat.le_of_ble_eq_true rfl)⟩ (mJ15_checkIndex_7cf53 hfl h) rfl dJx4a65c_remove_915e3_5 (kI (fun r1 G2 h => ?_)) (kO C E0 hex)
  refine r_pop C dJx4a65c_remove_915e3_8 rfl ?_
  refine r_aloadR_n C 0 dJx4a65c_remove_915e3_9 rfl rfl ?_
  obtain ⟨ht, h⟩ := h
  obtain ⟨b3, hb, h⟩ := h
  refine r_getR C fw_RJx4a65c_9 rfl ht hb dJx4a65c_remove_915e3_10 ?_
  refine r_astoreR_n C 2 (lv' := [some (.ref a0), some (.int x1), some (.ref b3), none]) dJx4a65c_remove_915e3_13 rfl (Nat.le_of_ble_eq_true rfl) rfl rfl ?_
  refine r_aloadR_n C 2 dJx4a65c_remove_915e3_14 rfl rfl ?_
  refine r_iload_n C 1 dJx4a65c_remove_915e3_15 rfl rfl ?_
  obtain ⟨ht, hi, h⟩ := h
  refine r_aald3P C ht hi dJx4a65c_remove_915e3_16 ?_
  refine r_astore_n C 3 (x := (gB G2 b3 x1.toNatClampNeg)) (lv' := [some (.ref a0), some (.int x1), some (.ref b3), some (va_rf (gB G2 b3 x1.toNatClampNeg))]) dJx4a65c_remove_915e3_17 rfl (Nat.le_of_ble_eq_true rfl) rfl rfl ?_
  refine r_aloadR_n C 0 dJx4a65c_remove_915e3_18 rfl rfl ?_
  refine r_aloadR_n C 2 dJx4a65c_remove_915e3_19 rfl rfl ?_
  refine r_iload_n C 1 dJx4a65c_remove_915e3_20 rfl rfl ?_
  obtain ⟨ht, h⟩ := h
  refine r_callV C (r := (RJx4a65c, TJx4a65c, 3)) hL yw_Jx4a65c_fastRemove_b59b0 vw_RJx4a65c_144 rfl rfl ht rfl rfl (Nat.le_of_ble_eq_true rfl) ⟨(Nat.le_of_ble_eq_true rfl), (Nat.le_of_ble_eq_true rfl)⟩ (mJx4a65c_fastRemove_b59b0 hfl h) rfl dJx4a65c_remove_915e3_21 (kV' (fun G4 h => ?_)) kN
  refine r_aload_n C 3 (x := (gB G2 b3 x1.toNatClampNeg)) dJx4a65c_remove_915e3_24 rfl rfl ?_
  exact r_aret C E0 hr (Or.inl ⟨_, rfl⟩) (x := (gB G2 b3 x1.toNatClampNeg)) ⟨_, rfl, h⟩ dJx4a65c_remove_915e3_25
def wX4_recycle (X : Xt) (G : Gt) (a0 : Nat) (a1 : Nat) (Pr : Gt → Prop) : Prop := gT G a0 = (1, 5) ∧ ∃ b1, gR G 161 a0 = some b1 ∧ gT G b1 = (1, 0) ∧ wJx4a65c_add_9ea2d X G b1 a1 (fun r2 G3 => Pr G3)
set_option maxRecDepth 20000 in
theorem mX4_recycle {X : Xt} {l : Launch} (hfl : l.stackTraces = false) {G : Gt} {a0 : Nat} {a1 : Nat} {Pr : Gt → Prop} (h : wX4_recycle X G a0 a1 Pr) : Mc X l yX4_recycle (.code yX4_recycle cX4_recycle 2 none) 7 171 [.ref a0, .ref a1] G (rV Pr) noX := by
  refine Mc.of (by decide +kernel) hfl [some (.ref a0), some (.ref a1)] rfl (Nat.le_of_ble_eq_true rfl) rfl ?_
  intro K hL C E0 hr hnm hex
  have B : BX X K l cX4_recycle 2 RX4 7 171 G none "recycle" := ⟨hL, C, E0, hr, hnm, hex, hfl⟩
  have C : Cx X K cX4_recycle 2 RX4 7 171 := C
  unfold wX4_recycle at h
  refine r_aloadR_n C 0 dX4_recycle_0 rfl rfl ?_
  obtain ⟨ht, h⟩ := h
  obtain ⟨b1, hb, h⟩ := h
  refine r_getR C fw_RX4_16 rfl ht hb dX4_recycle_1 ?_
  refine r_aloadR_n C 1 dX4_recycle_4 rfl rfl ?_
  obtain ⟨ht, h⟩ := h
  refine r_callV C (r := (RJx4a65c, TJx4a65c, 3)) hL yw_Jx4a65c_add_9ea2d vw_RX4_43 rfl rfl ht rfl rfl (Nat.le_of_ble_eq_true rfl) ⟨(Nat.le_of_ble_eq_true rfl), (Nat.le_of_ble_eq_true rfl)⟩ (mJx4a65c_add_9ea2d hfl h) rfl dX4_recycle_5 (kI (fun r2 G3 h => ?_)) kN
  refine r_pop C dX4_recycle_8 rfl ?_
  exact r_vret C E0 hr ⟨rfl, h⟩ dX4_recycle_9
def wJx4a65c_isEmpty_aae02 (X : Xt) (G : Gt) (a0 : Nat) (Pr : Int32 → Gt → Prop) : Prop := gT G a0 = (1, 0) ∧ (¬ (gI G 2 a0) = 0 → Pr 0 G) ∧ ((gI G 2 a0) = 0 → Pr 1 G)
set_option maxRecDepth 20000 in
theorem mJx4a65c_isEmpty_aae02 {X : Xt} {l : Launch} (hfl : l.stackTraces = false) {G : Gt} {a0 : Nat} {Pr : Int32 → Gt → Prop} (h : wJx4a65c_isEmpty_aae02 X G a0 Pr) : Mc X l yJx4a65c_isEmpty_aae02 (.code yJx4a65c_isEmpty_aae02 cJx4a65c_isEmpty_aae02 1 (some (.boolean))) 0 0 [.ref a0] G (rI Pr) noX := by
  refine Mc.of (by decide +kernel) hfl [some (.ref a0)] rfl (Nat.le_of_ble_eq_true rfl) rfl ?_
  intro K hL C E0 hr hnm hex
  have B : BX X K l cJx4a65c_isEmpty_aae02 1 RJx4a65c 0 0 G (some (.boolean)) "isEmpty" := ⟨hL, C, E0, hr, hnm, hex, hfl⟩
  have C : Cx X K cJx4a65c_isEmpty_aae02 1 RJx4a65c 0 0 := C
  unfold wJx4a65c_isEmpty_aae02 at h
  refine r_aloadR_n C 0 dJx4a65c_isEmpty_aae02_0 rfl rfl ?_
  obtain ⟨ht, h⟩ := h
  refine r_getI C fw_RJx4a65c_48 rfl ht dJx4a65c_isEmpty_aae02_1 ?_
  refine r_if_ne C 11 dJx4a65c_isEmpty_aae02_4 (by decide) (fun c => ?_) (fun c => ?_)
  · replace h := h.1 c
    refine r_iconst C 0 dJx4a65c_isEmpty_aae02_11 (by decide) ?_
    exact r_zret C E0 hr (Or.inl rfl) ⟨_, rfl, h⟩ dJx4a65c_isEmpty_aae02_12
  · replace h := h.2 c
    refine r_iconst C 1 dJx4a65c_isEmpty_aae02_7 (by decide) ?_
    refine r_goto C 12 dJx4a65c_isEmpty_aae02_8 (by decide) ?_
    exact r_zret C E0 hr (Or.inr rfl) ⟨_, rfl, h⟩ dJx4a65c_isEmpty_aae02_12
def wX7_init (X : Xt) (G : Gt) (a0 : Nat) (Pr : Gt → Prop) : Prop := gH G + 1 ≤ xC X ∧ gU G + 2 ≤ xS X ∧ ∀ G1, G1 = nO G 4 2 → wX3_init X G1 (gH G) (fun G2 => gT G2 a0 = (1, 8) ∧ ∀ G3, G3 = sR G2 256 a0 (some (gH G)) → gT G3 a0 = (1, 8) ∧ ∀ G4, G4 = sI G3 257 a0 0 → gT G4 a0 = (1, 8) ∧ ∀ G5, G5 = sI G4 258 a0 0 → Pr G5)
set_option maxRecDepth 20000 in
theorem mX7_init {X : Xt} {l : Launch} (hfl : l.stackTraces = false) {G : Gt} {a0 : Nat} {Pr : Gt → Prop} (h : wX7_init X G a0 Pr) : Mc X l yX7_init (.code yX7_init cX7_init 1 none) 2 40 [.ref a0] G (rV Pr) noX := by
  refine Mc.of (by decide +kernel) hfl [some (.ref a0)] rfl (Nat.le_of_ble_eq_true rfl) rfl ?_
  intro K hL C E0 hr hnm hex
  have B : BX X K l cX7_init 1 RX7 2 40 G none "<init>" := ⟨hL, C, E0, hr, hnm, hex, hfl⟩
  have C : Cx X K cX7_init 1 RX7 2 40 := C
  unfold wX7_init at h
  refine r_aloadR_n C 0 dX7_init_0 rfl rfl ?_
  refine r_objInit C oi_RX7_1 oi_inst oi_code rfl (Nat.le_of_ble_eq_true rfl) (Nat.le_of_ble_eq_true rfl) dX7_init_1 ?_
  refine r_aloadR_n C 0 dX7_init_4 rfl rfl ?_
  obtain ⟨hr1, hr2, h⟩ := h
  refine r_new C cw_4 (T := TX3) (N := 2) rfl cl_RX7_7 hr1 hr2 dX7_init_5 ?_
  refine r_nm (fun G1 hG1 => ?_)
  replace h := h G1 hG1
  refine r_dup C dX7_init_8 rfl ?_
  refine r_callNI C hL yw_X3_init ni_RX7_9 rfl rfl (Nat.le_of_ble_eq_true rfl) ⟨(Nat.le_of_ble_eq_true rfl), (Nat.le_of_ble_eq_true rfl)⟩ (mX3_init hfl h) rfl dX7_init_9 (kV' (fun G2 h => ?_)) kN
  obtain ⟨ht, h⟩ := h
  refine r_putRF C hnm cw_8 fp_RX7_10 rfl ht rfl rfl dX7_init_12 ?_
  refine r_nm (fun G3 hG3 => ?_)
  replace h := h G3 hG3
  refine r_aloadR_n C 0 dX7_init_15 rfl rfl ?_
  refine r_iconst C 0 dX7_init_16 (by decide) ?_
  obtain ⟨ht, h⟩ := h
  refine r_putI C cw_8 fp_RX7_16 rfl ht dX7_init_17 ?_
  refine r_nm (fun G4 hG4 => ?_)
  replace h := h G4 hG4
  refine r_aloadR_n C 0 dX7_init_20 rfl rfl ?_
  refine r_iconst C 0 dX7_init_21 (by decide) ?_
  obtain ⟨ht, h⟩ := h
  refine r_putI C cw_8 fp_RX7_20 rfl ht dX7_init_22 ?_
  refine r_nm (fun G5 hG5 => ?_)
  replace h := h G5 hG5
  exact r_vret C E0 hr ⟨rfl, h⟩ dX7_init_25
def wX4_freeReply (X : Xt) (G : Gt) (a0 : Nat) (Pr : Option Nat → Gt → Prop) (Px : String → Gt → Prop) : Prop := gT G a0 = (1, 5) ∧ ∃ b1, gR G 161 a0 = some b1 ∧ gT G b1 = (1, 0) ∧ wJx4a65c_isEmpty_aae02 X G b1 (fun r2 G3 => (r2 = 0 → gT G3 a0 = (1, 5) ∧ ∃ b24, gR G3 161 a0 = some b24 ∧ gT G3 a0 = (1, 5) ∧ ∃ b25, gR G3 161 a0 = some b25 ∧ gT G3 b25 = (1, 0) ∧ wJx4a65c_size_8abf5 X G3 b25 (fun r26 G27 => gT G27 b24 = (1, 0) ∧ wJx4a65c_remove_915e3 X G27 b24 (r26 - 1) (fun r28 G29 => ∃ b30, r28 = some b30 ∧ gT G29 b30 = (1, 8) ∧ Pr (some b30) G29) Px)) ∧ (¬ (r2 = 0) → gH G3 + 1 ≤ xC X ∧ gU G3 + 3 ≤ xS X ∧ ∀ G44, G44 = nO G3 8 3 → wX7_init X G44 (gH G3) (fun G45 => Pr (some (gH G3)) G45)))
set_option maxRecDepth 20000 in
theorem mX4_freeReply {X : Xt} {l : Launch} (hfl : l.stackTraces = false) {G : Gt} {a0 : Nat} {Pr : Option Nat → Gt → Prop} {Px : String → Gt → Prop} (h : wX4_freeReply X G a0 Pr Px) : Mc X l yX4_freeReply (.code yX4_freeReply cX4_freeReply 1 (some (.object "RegisterGateway$Reply"))) 3 86 [.ref a0] G (rA Pr) Px := by
  refine Mc.of (by decide +kernel) hfl [some (.ref a0)] rfl (Nat.le_of_ble_eq_true rfl) rfl ?_
  intro K hL C E0 hr hnm hex
  have B : BX X K l cX4_freeReply 1 RX4 3 86 G (some (.object "RegisterGateway$Reply")) "freeReply" := ⟨hL, C, E0, hr, hnm, hex, hfl⟩
  have C : Cx X K cX4_freeReply 1 RX4 3 86 := C
  unfold wX4_freeReply at h
  refine r_aloadR_n C 0 dX4_freeReply_0 rfl rfl ?_
  obtain ⟨ht, h⟩ := h
  obtain ⟨b1, hb, h⟩ := h
  refine r_getR C fw_RX4_16 rfl ht hb dX4_freeReply_1 ?_
  obtain ⟨ht, h⟩ := h
  refine r_callV C (r := (RJx4a65c, TJx4a65c, 3)) hL yw_Jx4a65c_isEmpty_aae02 vw_RX4_47 rfl rfl ht rfl rfl (Nat.le_of_ble_eq_true rfl) ⟨(Nat.le_of_ble_eq_true rfl), (Nat.le_of_ble_eq_true rfl)⟩ (mJx4a65c_isEmpty_aae02 hfl h) rfl dX4_freeReply_4 (kI (fun r2 G3 h => ?_)) kN
  refine r_if_eq C 20 dX4_freeReply_7 (by decide) (fun c => ?_) (fun c => ?_)
  · replace h := h.1 c
    refine r_aloadR_n C 0 dX4_freeReply_20 rfl rfl ?_
    obtain ⟨ht, h⟩ := h
    obtain ⟨b24, hb, h⟩ := h
    refine r_getR C fw_RX4_16 rfl ht hb dX4_freeReply_21 ?_
    refine r_aloadR_n C 0 dX4_freeReply_24 rfl rfl ?_
    obtain ⟨ht, h⟩ := h
    obtain ⟨b25, hb, h⟩ := h
    refine r_getR C fw_RX4_16 rfl ht hb dX4_freeReply_25 ?_
    obtain ⟨ht, h⟩ := h
    refine r_callV C (r := (RJx4a65c, TJx4a65c, 3)) hL yw_Jx4a65c_size_8abf5 vw_RX4_19 rfl rfl ht rfl rfl (Nat.le_of_ble_eq_true rfl) ⟨(Nat.le_of_ble_eq_true rfl), (Nat.le_of_ble_eq_true rfl)⟩ (mJx4a65c_size_8abf5 hfl h) rfl dX4_freeReply_28 (kI (fun r26 G27 h => ?_)) kN
    refine r_iconst C 1 dX4_freeReply_31 (by decide) ?_
    refine r_isub C dX4_freeReply_32 ?_
    obtain ⟨ht, h⟩ := h
    refine r_callV C (r := (RJx4a65c, TJx4a65c, 3)) hL yw_Jx4a65c_remove_915e3 vw_RX4_23 rfl rfl ht rfl rfl (Nat.le_of_ble_eq_true rfl) ⟨(Nat.le_of_ble_eq_true rfl), (Nat.le_of_ble_eq_true rfl)⟩ (mJx4a65c_remove_915e3 hfl h) rfl dX4_freeReply_33 (kA' (fun r28 G29 h => ?_)) (kO C E0 hex)
    obtain ⟨b30, hb, ht, h⟩ := h
    subst hb
    refine r_cast C (r := (RX7, TX7, 3)) rfl cl_RX4_27 ht dX4_freeReply_36 ?_
    exact r_aret C E0 hr (Or.inl ⟨_, rfl⟩) (x := (some b30)) ⟨_, rfl, h⟩ dX4_freeReply_39
  · replace h := h.2 c
    obtain ⟨hr1, hr2, h⟩ := h
    refine r_new C cw_8 (T := TX7) (N := 3) rfl cl_RX4_27 hr1 hr2 dX4_freeReply_10 ?_
    refine r_nm (fun G44 hG44 => ?_)
    replace h := h G44 hG44
    refine r_dup C dX4_freeReply_13 rfl ?_
    refine r_callNI C hL yw_X7_init ni_RX4_51 rfl rfl (Nat.le_of_ble_eq_true rfl) ⟨(Nat.le_of_ble_eq_true rfl), (Nat.le_of_ble_eq_true rfl)⟩ (mX7_init hfl h) rfl dX4_freeReply_14 (kV' (fun G45 h => ?_)) kN
    refine r_goto C 39 dX4_freeReply_17 (by decide) ?_
    exact r_aret C E0 hr (Or.inl ⟨_, rfl⟩) (x := (some (gH G3))) ⟨_, rfl, h⟩ dX4_freeReply_39
def wX3_copyFrom (X : Xt) (G : Gt) (a0 : Nat) (a1 : Nat) (Pr : Gt → Prop) : Prop := gT G a1 = (1, 4) ∧ ∃ b1, gR G 128 a1 = some b1 ∧ gT G a0 = (1, 4) ∧ ∃ b2, gR G 128 a0 = some b2 ∧ (gT G b1).1 = 2 ∧ (gT G b2).1 = 2 ∧ ¬ (0 : Int32) < 0 ∧ ¬ (0 : Int32) < 0 ∧ ¬ (37 : Int32) < 0 ∧ (0 : Int32).toNatClampNeg + (37 : Int32).toNatClampNeg ≤ (gT G b1).2 ∧ (0 : Int32).toNatClampNeg + (37 : Int32).toNatClampNeg ≤ (gT G b2).2 ∧ ∀ G3, G3 = sA G b2 (va_cpy (gA G b1) (gA G b2) (0 : Int32).toNatClampNeg (0 : Int32).toNatClampNeg (37 : Int32).toNatClampNeg) → gT G3 a1 = (1, 4) ∧ gT G3 a0 = (1, 4) ∧ ∀ G4, G4 = sI G3 129 a0 (gI G3 129 a1) → Pr G4
set_option maxRecDepth 20000 in
theorem mX3_copyFrom {X : Xt} {l : Launch} (hfl : l.stackTraces = false) {G : Gt} {a0 : Nat} {a1 : Nat} {Pr : Gt → Prop} (h : wX3_copyFrom X G a0 a1 Pr) : Mc X l yX3_copyFrom (.code yX3_copyFrom cX3_copyFrom 2 none) 1 40 [.ref a0, .ref a1] G (rV Pr) noX := by
  refine Mc.of (by decide +kernel) hfl [some (.ref a0), some (.ref a1)] rfl (Nat.le_of_ble_eq_true rfl) rfl ?_
  intro K hL C E0 hr hnm hex
  have B : BX X K l cX3_copyFrom 2 RX3 1 40 G none "copyFrom" := ⟨hL, C, E0, hr, hnm, hex, hfl⟩
  have C : Cx X K cX3_copyFrom 2 RX3 1 40 := C
  unfold wX3_copyFrom at h
  refine r_aloadR_n C 1 dX3_copyFrom_0 rfl rfl ?_
  obtain ⟨ht, h⟩ := h
  obtain ⟨b1, hb, h⟩ := h
  refine r_getR C fw_RX3_9 rfl ht hb dX3_copyFrom_1 ?_
  refine r_iconst C 0 dX3_copyFrom_4 (by decide) ?_
  refine r_aloadR_n C 0 dX3_copyFrom_5 rfl rfl ?_
  obtain ⟨ht, h⟩ := h
  obtain ⟨b2, hb, h⟩ := h
  refine r_getR C fw_RX3_9 rfl ht hb dX3_copyFrom_6 ?_
  refine r_iconst C 0 dX3_copyFrom_9 (by decide) ?_
  refine r_bipush C 37 dX3_copyFrom_10 (by decide) ?_
  obtain ⟨q1, q2, q3, q4, q5, q6, q7, h⟩ := h
  refine r_copyI C ac_RX3_19 q1 q2 q3 q4 q5 q6 q7 rfl (Nat.le_of_ble_eq_true rfl) (Nat.le_of_ble_eq_true rfl) dX3_copyFrom_12 ?_
  refine r_nm (fun G3 hG3 => ?_)
  replace h := h G3 hG3
  refine r_aloadR_n C 0 dX3_copyFrom_15 rfl rfl ?_
  refine r_aloadR_n C 1 dX3_copyFrom_16 rfl rfl ?_
  obtain ⟨ht, h⟩ := h
  refine r_getI C fw_RX3_15 rfl ht dX3_copyFrom_17 ?_
  obtain ⟨ht, h⟩ := h
  refine r_putI C cw_4 fp_RX3_15 rfl ht dX3_copyFrom_20 ?_
  refine r_nm (fun G4 hG4 => ?_)
  replace h := h G4 hG4
  exact r_vret C E0 hr ⟨rfl, h⟩ dX3_copyFrom_23
def wX7_copyFrom (X : Xt) (G : Gt) (a0 : Nat) (a1 : Nat) (Pr : Gt → Prop) : Prop := gT G a0 = (1, 8) ∧ ∃ b1, gR G 256 a0 = some b1 ∧ gT G a1 = (1, 8) ∧ ∃ b2, gR G 256 a1 = some b2 ∧ gT G b1 = (1, 4) ∧ wX3_copyFrom X G b1 b2 (fun G3 => gT G3 a1 = (1, 8) ∧ gT G3 a0 = (1, 8) ∧ ∀ G4, G4 = sI G3 257 a0 (gI G3 257 a1) → gT G4 a1 = (1, 8) ∧ gT G4 a0 = (1, 8) ∧ ∀ G5, G5 = sI G4 258 a0 (gI G4 258 a1) → Pr G5)
set_option maxRecDepth 20000 in
theorem mX7_copyFrom {X : Xt} {l : Launch} (hfl : l.stackTraces = false) {G : Gt} {a0 : Nat} {a1 : Nat} {Pr : Gt → Prop} (h : wX7_copyFrom X G a0 a1 Pr) : Mc X l yX7_copyFrom (.code yX7_copyFrom cX7_copyFrom 2 none) 2 61 [.ref a0, .ref a1] G (rV Pr) noX := by
  refine Mc.of (by decide +kernel) hfl [some (.ref a0), some (.ref a1)] rfl (Nat.le_of_ble_eq_true rfl) rfl ?_
  intro K hL C E0 hr hnm hex
  have B : BX X K l cX7_copyFrom 2 RX7 2 61 G none "copyFrom" := ⟨hL, C, E0, hr, hnm, hex, hfl⟩
  have C : Cx X K cX7_copyFrom 2 RX7 2 61 := C
  unfold wX7_copyFrom at h
  refine r_aloadR_n C 0 dX7_copyFrom_0 rfl rfl ?_
  obtain ⟨ht, h⟩ := h
  obtain ⟨b1, hb, h⟩ := h
  refine r_getR C fw_RX7_10 rfl ht hb dX7_copyFrom_1 ?_
  refine r_aloadR_n C 1 dX7_copyFrom_4 rfl rfl ?_
  obtain ⟨ht, h⟩ := h
  obtain ⟨b2, hb, h⟩ := h
  refine r_getR C fw_RX7_10 rfl ht hb dX7_copyFrom_5 ?_
  obtain ⟨ht, h⟩ := h
  refine r_callV C (r := (RX3, TX3, 2)) hL yw_X3_copyFrom vw_RX7_23 rfl rfl ht rfl rfl (Nat.le_of_ble_eq_true rfl) ⟨(Nat.le_of_ble_eq_true rfl), (Nat.le_of_ble_eq_true rfl)⟩ (mX3_copyFrom hfl h) rfl dX7_copyFrom_8 (kV' (fun G3 h => ?_)) kN
  refine r_aloadR_n C 0 dX7_copyFrom_11 rfl rfl ?_
  refine r_aloadR_n C 1 dX7_copyFrom_12 rfl rfl ?_
  obtain ⟨ht, h⟩ := h
  refine r_getI C fw_RX7_16 rfl ht dX7_copyFrom_13 ?_
  obtain ⟨ht, h⟩ := h
  refine r_putI C cw_8 fp_RX7_16 rfl ht dX7_copyFrom_16 ?_
  refine r_nm (fun G4 hG4 => ?_)
  replace h := h G4 hG4
  refine r_aloadR_n C 0 dX7_copyFrom_19 rfl rfl ?_
  refine r_aloadR_n C 1 dX7_copyFrom_20 rfl rfl ?_
  obtain ⟨ht, h⟩ := h
  refine r_getI C fw_RX7_20 rfl ht dX7_copyFrom_21 ?_
  obtain ⟨ht, h⟩ := h
  refine r_putI C cw_8 fp_RX7_20 rfl ht dX7_copyFrom_24 ?_
  refine r_nm (fun G5 hG5 => ?_)
  replace h := h G5 hG5
  exact r_vret C E0 hr ⟨rfl, h⟩ dX7_copyFrom_27
def wX4_copyFrom_37 (X : Xt) (Pr : Gt → Prop) (Px : String → Gt → Prop) (k37 : Gt → Nat → Nat → Int32 → Prop) (G : Gt) (a0 : Nat) (a1 : Nat) (x2 : Int32) : Prop := gT G a1 = (1, 5) ∧ ∃ b1, gR G 160 a1 = some b1 ∧ gT G b1 = (1, 0) ∧ wJx4a65c_size_8abf5 X G b1 (fun r2 G3 => (r2 ≤ x2 → Pr G3) ∧ (¬ (r2 ≤ x2) → gT G3 a0 = (1, 5) ∧ wX4_freeReply X G3 a0 (fun r44 G45 => ∃ b46, r44 = some b46 ∧ gT G45 a1 = (1, 5) ∧ ∃ b47, gR G45 160 a1 = some b47 ∧ gT G45 b47 = (1, 0) ∧ wJx4a65c_get_915e3 X G45 b47 x2 (fun r48 G49 => ∃ b50, r48 = some b50 ∧ gT G49 b50 = (1, 8) ∧ gT G49 b46 = (1, 8) ∧ wX7_copyFrom X G49 b46 b50 (fun G51 => gT G51 a0 = (1, 5) ∧ ∃ b52, gR G51 160 a0 = some b52 ∧ gT G51 b52 = (1, 0) ∧ wJx4a65c_add_9ea2d X G51 b52 b46 (fun r53 G54 => k37 G54 a0 a1 (x2 + 1)))) Px) Px))
set_option maxRecDepth 20000 in
theorem bX4_copyFrom_37 {X : Xt} {K : Kt} {l : Launch} {G0 : Gt} {Pr : Gt → Prop} {Px : String → Gt → Prop} (B : BX X K l cX4_copyFrom 4 RX4 8 192 G0 none "copyFrom") {k37 : Gt → Nat → Nat → Int32 → Prop} (hk37 : ∀ (G : Gt) (a0 : Nat) (a1 : Nat) (x2 : Int32), k37 G a0 a1 x2 → WM X K (QM X K G0 (rV Pr) Px) G 37 [some (.ref a0), some (.ref a1), some (.int x2), none] []) {G : Gt} {a0 : Nat} {a1 : Nat} {x2 : Int32} (h : wX4_copyFrom_37 X Pr Px k37 G a0 a1 x2) : WM X K (QM X K G0 (rV Pr) Px) G 37 [some (.ref a0), some (.ref a1), some (.int x2), none] [] := by
  obtain ⟨hL, C, E0, hr, hnm, hex, hfl⟩ := id B
  unfold wX4_copyFrom_37 at h
  refine r_iload_n C 2 dX4_copyFrom_37 rfl rfl ?_
  refine r_aloadR_n C 1 dX4_copyFrom_38 rfl rfl ?_
  obtain ⟨ht, h⟩ := h
  obtain ⟨b1, hb, h⟩ := h
  refine r_getR C fw_RX4_10 rfl ht hb dX4_copyFrom_39 ?_
  obtain ⟨ht, h⟩ := h
  refine r_callV C (r := (RJx4a65c, TJx4a65c, 3)) hL yw_Jx4a65c_size_8abf5 vw_RX4_19 rfl rfl ht rfl rfl (Nat.le_of_ble_eq_true rfl) ⟨(Nat.le_of_ble_eq_true rfl), (Nat.le_of_ble_eq_true rfl)⟩ (mJx4a65c_size_8abf5 hfl h) rfl dX4_copyFrom_42 (kI (fun r2 G3 h => ?_)) kN
  refine r_icmp_ge C 83 dX4_copyFrom_45 (by decide) (fun c => ?_) (fun c => ?_)
  · replace h := h.1 c
    exact r_vret C E0 hr ⟨rfl, h⟩ dX4_copyFrom_83
  · replace h := h.2 c
    refine r_aloadR_n C 0 dX4_copyFrom_48 rfl rfl ?_
    obtain ⟨ht, h⟩ := h
    refine r_callV C (r := (RX4, TX4, 2)) hL yw_X4_freeReply vw_RX4_33 rfl rfl ht rfl rfl (Nat.le_of_ble_eq_true rfl) ⟨(Nat.le_of_ble_eq_true rfl), (Nat.le_of_ble_eq_true rfl)⟩ (mX4_freeReply hfl h) rfl dX4_copyFrom_49 (kA' (fun r44 G45 h => ?_)) (kO C E0 hex)
    obtain ⟨b46, hb, h⟩ := h
    subst hb
    refine r_astoreR_n C 3 (lv' := [some (.ref a0), some (.ref a1), some (.int x2), some (.ref b46)]) dX4_copyFrom_52 rfl (Nat.le_of_ble_eq_true rfl) rfl rfl ?_
    refine r_aloadR_n C 3 dX4_copyFrom_53 rfl rfl ?_
    refine r_aloadR_n C 1 dX4_copyFrom_54 rfl rfl ?_
    obtain ⟨ht, h⟩ := h
    obtain ⟨b47, hb, h⟩ := h
    refine r_getR C fw_RX4_10 rfl ht hb dX4_copyFrom_55 ?_
    refine r_iload_n C 2 dX4_copyFrom_58 rfl rfl ?_
    obtain ⟨ht, h⟩ := h
    refine r_callV C (r := (RJx4a65c, TJx4a65c, 3)) hL yw_Jx4a65c_get_915e3 vw_RX4_37 rfl rfl ht rfl rfl (Nat.le_of_ble_eq_true rfl) ⟨(Nat.le_of_ble_eq_true rfl), (Nat.le_of_ble_eq_true rfl)⟩ (mJx4a65c_get_915e3 hfl h) rfl dX4_copyFrom_59 (kA' (fun r48 G49 h => ?_)) (kO C E0 hex)
    obtain ⟨b50, hb, ht, h⟩ := h
    subst hb
    refine r_cast C (r := (RX7, TX7, 3)) rfl cl_RX4_27 ht dX4_copyFrom_62 ?_
    obtain ⟨ht, h⟩ := h
    refine r_callV C (r := (RX7, TX7, 3)) hL yw_X7_copyFrom vw_RX4_40 rfl rfl ht rfl rfl (Nat.le_of_ble_eq_true rfl) ⟨(Nat.le_of_ble_eq_true rfl), (Nat.le_of_ble_eq_true rfl)⟩ (mX7_copyFrom hfl h) rfl dX4_copyFrom_65 (kV' (fun G51 h => ?_)) kN
    refine r_aloadR_n C 0 dX4_copyFrom_68 rfl rfl ?_
    obtain ⟨ht, h⟩ := h
    obtain ⟨b52, hb, h⟩ := h
    refine r_getR C fw_RX4_10 rfl ht hb dX4_copyFrom_69 ?_
    refine r_aloadR_n C 3 dX4_copyFrom_72 rfl rfl ?_
    obtain ⟨ht, h⟩ := h
    refine r_callV C (r := (RJx4a65c, TJx4a65c, 3)) hL yw_Jx4a65c_add_9ea2d vw_RX4_43 rfl rfl ht rfl rfl (Nat.le_of_ble_eq_true rfl) ⟨(Nat.le_of_ble_eq_true rfl), (Nat.le_of_ble_eq_true rfl)⟩ (mJx4a65c_add_9ea2d hfl h) rfl dX4_copyFrom_73 (kI (fun r53 G54 h => ?_)) kN
    refine r_pop C dX4_copyFrom_76 rfl ?_
    refine r_iinc C 1 (lv' := [some (.ref a0), some (.ref a1), some (.int (x2 + 1)), some (.ref b46)]) dX4_copyFrom_77 rfl (by decide) rfl rfl ?_
    refine r_goto C 37 dX4_copyFrom_80 (by decide) ?_
    refine r_fg (lv' := [some (.ref a0), some (.ref a1), some (.int (x2 + 1)), none]) (show fgt _ _ from ⟨rfl, ⟨rfl, ⟨rfl, trivial⟩⟩⟩) ?_
    exact hk37 _ _ _ _ h
theorem lX4_copyFrom_37 {X : Xt} {K : Kt} {l : Launch} {G0 : Gt} {Pr : Gt → Prop} {Px : String → Gt → Prop} (B : BX X K l cX4_copyFrom 4 RX4 8 192 G0 none "copyFrom") (I : Gt → Nat → Nat → Int32 → Prop) (μ : Gt → Nat → Nat → Int32 → Nat) (hS : ∀ (G : Gt) (a0 : Nat) (a1 : Nat) (x2 : Int32), I G a0 a1 x2 → wX4_copyFrom_37 X Pr Px (fun G' a0' a1' x2' => I G' a0' a1' x2' ∧ μ G' a0' a1' x2' < μ G a0 a1 x2) G a0 a1 x2) : ∀ (n : Nat) (G : Gt) (a0 : Nat) (a1 : Nat) (x2 : Int32), μ G a0 a1 x2 < n → I G a0 a1 x2 → WM X K (QM X K G0 (rV Pr) Px) G 37 [some (.ref a0), some (.ref a1), some (.int x2), none] [] := by
  intro n
  induction n with
  | zero => intro G a0 a1 x2 hm; exact absurd hm (Nat.not_lt_zero _)
  | succ n ih =>
    intro G a0 a1 x2 hm hi
    exact bX4_copyFrom_37 B (fun G' a0' a1' x2' hk => ih G' a0' a1' x2' (Nat.lt_of_lt_of_le hk.2 (Nat.le_of_lt_succ hm)) hk.1) (hS G a0 a1 x2 hi)
def wX4_copyFrom_10 (X : Xt) (Pr : Gt → Prop) (Px : String → Gt → Prop) (k10 : Gt → Nat → Nat → Int32 → Prop) (G : Gt) (a0 : Nat) (a1 : Nat) (x2 : Int32) : Prop := (x2 < 0 → ∃ (I : Gt → Nat → Nat → Int32 → Prop) (μ : Gt → Nat → Nat → Int32 → Nat), I G a0 a1 (0 : Int32) ∧ ∀ (G : Gt) (a0 : Nat) (a1 : Nat) (x2 : Int32), I G a0 a1 x2 → wX4_copyFrom_37 X Pr Px (fun G' a0' a1' x2' => I G' a0' a1' x2' ∧ μ G' a0' a1' x2' < μ G a0 a1 x2) G a0 a1 x2) ∧ (¬ (x2 < 0) → gT G a0 = (1, 5) ∧ ∃ b41, gR G 160 a0 = some b41 ∧ gT G b41 = (1, 0) ∧ wJx4a65c_remove_915e3 X G b41 x2 (fun r42 G43 => ∃ b44, r42 = some b44 ∧ gT G43 b44 = (1, 8) ∧ gT G43 a0 = (1, 5) ∧ wX4_recycle X G43 a0 b44 (fun G45 => k10 G45 a0 a1 (x2 + (-1)))) Px)
set_option maxRecDepth 20000 in
theorem bX4_copyFrom_10 {X : Xt} {K : Kt} {l : Launch} {G0 : Gt} {Pr : Gt → Prop} {Px : String → Gt → Prop} (B : BX X K l cX4_copyFrom 4 RX4 8 192 G0 none "copyFrom") {k10 : Gt → Nat → Nat → Int32 → Prop} (hk10 : ∀ (G : Gt) (a0 : Nat) (a1 : Nat) (x2 : Int32), k10 G a0 a1 x2 → WM X K (QM X K G0 (rV Pr) Px) G 10 [some (.ref a0), some (.ref a1), some (.int x2), none] []) {G : Gt} {a0 : Nat} {a1 : Nat} {x2 : Int32} (h : wX4_copyFrom_10 X Pr Px k10 G a0 a1 x2) : WM X K (QM X K G0 (rV Pr) Px) G 10 [some (.ref a0), some (.ref a1), some (.int x2), none] [] := by
  obtain ⟨hL, C, E0, hr, hnm, hex, hfl⟩ := id B
  unfold wX4_copyFrom_10 at h
  refine r_iload_n C 2 dX4_copyFrom_10 rfl rfl ?_
  refine r_if_lt C 35 dX4_copyFrom_11 (by decide) (fun c => ?_) (fun c => ?_)
  · replace h := h.1 c
    refine r_iconst C 0 dX4_copyFrom_35 (by decide) ?_
    refine r_istore_n C 2 (lv' := [some (.ref a0), some (.ref a1), some (.int 0), none]) dX4_copyFrom_36 rfl (Nat.le_of_ble_eq_true rfl) rfl rfl ?_
    obtain ⟨I, μ, hI, hS⟩ := h
    exact lX4_copyFrom_37 B I μ hS _ _ _ _ _ (Nat.lt_succ_self _) hI
  · replace h := h.2 c
    refine r_aloadR_n C 0 dX4_copyFrom_14 rfl rfl ?_
    refine r_aloadR_n C 0 dX4_copyFrom_15 rfl rfl ?_
    obtain ⟨ht, h⟩ := h
    obtain ⟨b41, hb, h⟩ := h
    refine r_getR C fw_RX4_10 rfl ht hb dX4_copyFrom_16 ?_
    refine r_iload_n C 2 dX4_copyFrom_19 rfl rfl ?_
    obtain ⟨ht, h⟩ := h
    refine r_callV C (r := (RJx4a65c, TJx4a65c, 3)) hL yw_Jx4a65c_remove_915e3 vw_RX4_23 rfl rfl ht rfl rfl (Nat.le_of_ble_eq_true rfl) ⟨(Nat.le_of_ble_eq_true rfl), (Nat.le_of_ble_eq_true rfl)⟩ (mJx4a65c_remove_915e3 hfl h) rfl dX4_copyFrom_20 (kA' (fun r42 G43 h => ?_)) (kO C E0 hex)
    obtain ⟨b44, hb, ht, h⟩ := h
    subst hb
    refine r_cast C (r := (RX7, TX7, 3)) rfl cl_RX4_27 ht dX4_copyFrom_23 ?_
    obtain ⟨ht, h⟩ := h
    refine r_callV C (r := (RX4, TX4, 2)) hL yw_X4_recycle vw_RX4_29 rfl rfl ht rfl rfl (Nat.le_of_ble_eq_true rfl) ⟨(Nat.le_of_ble_eq_true rfl), (Nat.le_of_ble_eq_true rfl)⟩ (mX4_recycle hfl h) rfl dX4_copyFrom_26 (kV' (fun G45 h => ?_)) kN
    refine r_iinc C (-1) (lv' := [some (.ref a0), some (.ref a1), some (.int (x2 + (-1))), none]) dX4_copyFrom_29 rfl (by decide) rfl rfl ?_
    refine r_goto C 10 dX4_copyFrom_32 (by decide) ?_
    exact hk10 _ _ _ _ h
theorem lX4_copyFrom_10 {X : Xt} {K : Kt} {l : Launch} {G0 : Gt} {Pr : Gt → Prop} {Px : String → Gt → Prop} (B : BX X K l cX4_copyFrom 4 RX4 8 192 G0 none "copyFrom") (I : Gt → Nat → Nat → Int32 → Prop) (μ : Gt → Nat → Nat → Int32 → Nat) (hS : ∀ (G : Gt) (a0 : Nat) (a1 : Nat) (x2 : Int32), I G a0 a1 x2 → wX4_copyFrom_10 X Pr Px (fun G' a0' a1' x2' => I G' a0' a1' x2' ∧ μ G' a0' a1' x2' < μ G a0 a1 x2) G a0 a1 x2) : ∀ (n : Nat) (G : Gt) (a0 : Nat) (a1 : Nat) (x2 : Int32), μ G a0 a1 x2 < n → I G a0 a1 x2 → WM X K (QM X K G0 (rV Pr) Px) G 10 [some (.ref a0), some (.ref a1), some (.int x2), none] [] := by
  intro n
  induction n with
  | zero => intro G a0 a1 x2 hm; exact absurd hm (Nat.not_lt_zero _)
  | succ n ih =>
    intro G a0 a1 x2 hm hi
    exact bX4_copyFrom_10 B (fun G' a0' a1' x2' hk => ih G' a0' a1' x2' (Nat.lt_of_lt_of_le hk.2 (Nat.le_of_lt_succ hm)) hk.1) (hS G a0 a1 x2 hi)
def wX4_copyFrom (X : Xt) (G : Gt) (a0 : Nat) (a1 : Nat) (Pr : Gt → Prop) (Px : String → Gt → Prop) : Prop := gT G a0 = (1, 5) ∧ ∃ b1, gR G 160 a0 = some b1 ∧ gT G b1 = (1, 0) ∧ wJx4a65c_size_8abf5 X G b1 (fun r2 G3 => ∃ (I : Gt → Nat → Nat → Int32 → Prop) (μ : Gt → Nat → Nat → Int32 → Nat), I G3 a0 a1 (r2 - 1) ∧ ∀ (G : Gt) (a0 : Nat) (a1 : Nat) (x2 : Int32), I G a0 a1 x2 → wX4_copyFrom_10 X Pr Px (fun G' a0' a1' x2' => I G' a0' a1' x2' ∧ μ G' a0' a1' x2' < μ G a0 a1 x2) G a0 a1 x2)
set_option maxRecDepth 20000 in
theorem mX4_copyFrom {X : Xt} {l : Launch} (hfl : l.stackTraces = false) {G : Gt} {a0 : Nat} {a1 : Nat} {Pr : Gt → Prop} {Px : String → Gt → Prop} (h : wX4_copyFrom X G a0 a1 Pr Px) : Mc X l yX4_copyFrom (.code yX4_copyFrom cX4_copyFrom 4 none) 8 192 [.ref a0, .ref a1] G (rV Pr) Px := by
  refine Mc.of (by decide +kernel) hfl [some (.ref a0), some (.ref a1), none, none] rfl (Nat.le_of_ble_eq_true rfl) rfl ?_
  intro K hL C E0 hr hnm hex
  have B : BX X K l cX4_copyFrom 4 RX4 8 192 G none "copyFrom" := ⟨hL, C, E0, hr, hnm, hex, hfl⟩
  have C : Cx X K cX4_copyFrom 4 RX4 8 192 := C
  unfold wX4_copyFrom at h
  refine r_aloadR_n C 0 dX4_copyFrom_0 rfl rfl ?_
  obtain ⟨ht, h⟩ := h
  obtain ⟨b1, hb, h⟩ := h
  refine r_getR C fw_RX4_10 rfl ht hb dX4_copyFrom_1 ?_
  obtain ⟨ht, h⟩ := h
  refine r_callV C (r := (RJx4a65c, TJx4a65c, 3)) hL yw_Jx4a65c_size_8abf5 vw_RX4_19 rfl rfl ht rfl rfl (Nat.le_of_ble_eq_true rfl) ⟨(Nat.le_of_ble_eq_true rfl), (Nat.le_of_ble_eq_true rfl)⟩ (mJx4a65c_size_8abf5 hfl h) rfl dX4_copyFrom_4 (kI (fun r2 G3 h => ?_)) kN
  refine r_iconst C 1 dX4_copyFrom_7 (by decide) ?_
  refine r_isub C dX4_copyFrom_8 ?_
  refine r_istore_n C 2 (lv' := [some (.ref a0), some (.ref a1), some (.int (r2 - 1)), none]) dX4_copyFrom_9 rfl (Nat.le_of_ble_eq_true rfl) rfl rfl ?_
  obtain ⟨I, μ, hI, hS⟩ := h
  exact lX4_copyFrom_10 B I μ hS _ _ _ _ _ (Nat.lt_succ_self _) hI
def wX1_copyFrom_31 (X : Xt) (Pr : Gt → Prop) (Px : String → Gt → Prop) (k31 : Gt → Nat → Nat → Int32 → Prop) (G : Gt) (a0 : Nat) (a1 : Nat) (x2 : Int32) : Prop := (3 ≤ x2 → gT G a0 = (1, 2) ∧ ∃ b21, gR G 67 a0 = some b21 ∧ gT G a1 = (1, 2) ∧ ∃ b22, gR G 67 a1 = some b22 ∧ gT G b21 = (1, 1) ∧ wX0_copyFrom X G b21 b22 (fun G23 => gT G23 a0 = (1, 2) ∧ ∃ b24, gR G23 68 a0 = some b24 ∧ gT G23 a1 = (1, 2) ∧ ∃ b25, gR G23 68 a1 = some b25 ∧ gT G23 b24 = (1, 7) ∧ wX6_copyFrom X G23 b24 b25 (fun G26 => gT G26 a0 = (1, 2) ∧ ∃ b27, gR G26 69 a0 = some b27 ∧ gT G26 a1 = (1, 2) ∧ ∃ b28, gR G26 69 a1 = some b28 ∧ gT G26 b27 = (1, 5) ∧ wX4_copyFrom X G26 b27 b28 (fun G29 => gT G29 a1 = (1, 2) ∧ gT G29 a0 = (1, 2) ∧ ∀ G30, G30 = sI G29 71 a0 (gI G29 71 a1) → gT G30 a1 = (1, 2) ∧ gT G30 a0 = (1, 2) ∧ ∀ G31, G31 = sI G30 72 a0 (gI G30 72 a1) → gT G31 a1 = (1, 2) ∧ gT G31 a0 = (1, 2) ∧ ((gI G31 73 a1) = 0 ∨ (gI G31 73 a1) = 1) ∧ ∀ G32, G32 = sI G31 73 a0 (gI G31 73 a1) → gT G32 a0 = (1, 2) ∧ ∀ G33, G33 = sI G32 74 a0 0 → Pr G33) Px) Px)) ∧ (¬ (3 ≤ x2) → gT G a0 = (1, 2) ∧ ∃ b41, gR G 66 a0 = some b41 ∧ (gT G b41).1 = 4 ∧ vp_in x2 (gT G b41).2 ∧ ∃ b42, gB G b41 x2.toNatClampNeg = some b42 ∧ gT G a1 = (1, 2) ∧ ∃ b43, gR G 66 a1 = some b43 ∧ (gT G b43).1 = 4 ∧ vp_in x2 (gT G b43).2 ∧ ∃ b44, gB G b43 x2.toNatClampNeg = some b44 ∧ gT G b42 = (1, 3) ∧ wX2_copyFrom X G b42 b44 (fun G45 => k31 G45 a0 a1 (x2 + 1)))
set_option maxRecDepth 20000 in
theorem bX1_copyFrom_31 {X : Xt} {K : Kt} {l : Launch} {G0 : Gt} {Pr : Gt → Prop} {Px : String → Gt → Prop} (B : BX X K l cX1_copyFrom 3 RX1 9 215 G0 none "copyFrom") {k31 : Gt → Nat → Nat → Int32 → Prop} (hk31 : ∀ (G : Gt) (a0 : Nat) (a1 : Nat) (x2 : Int32), k31 G a0 a1 x2 → WM X K (QM X K G0 (rV Pr) Px) G 31 [some (.ref a0), some (.ref a1), some (.int x2)] []) {G : Gt} {a0 : Nat} {a1 : Nat} {x2 : Int32} (h : wX1_copyFrom_31 X Pr Px k31 G a0 a1 x2) : WM X K (QM X K G0 (rV Pr) Px) G 31 [some (.ref a0), some (.ref a1), some (.int x2)] [] := by
  obtain ⟨hL, C, E0, hr, hnm, hex, hfl⟩ := id B
  unfold wX1_copyFrom_31 at h
  refine r_iload_n C 2 dX1_copyFrom_31 rfl rfl ?_
  refine r_iconst C 3 dX1_copyFrom_32 (by decide) ?_
  refine r_icmp_ge C 57 dX1_copyFrom_33 (by decide) (fun c => ?_) (fun c => ?_)
  · replace h := h.1 c
    refine r_aloadR_n C 0 dX1_copyFrom_57 rfl rfl ?_
    obtain ⟨ht, h⟩ := h
    obtain ⟨b21, hb, h⟩ := h
    refine r_getR C fw_RX1_28 rfl ht hb dX1_copyFrom_58 ?_
    refine r_aloadR_n C 1 dX1_copyFrom_61 rfl rfl ?_
    obtain ⟨ht, h⟩ := h
    obtain ⟨b22, hb, h⟩ := h
    refine r_getR C fw_RX1_28 rfl ht hb dX1_copyFrom_62 ?_
    obtain ⟨ht, h⟩ := h
    refine r_callV C (r := (RX0, TX0, 2)) hL yw_X0_copyFrom vw_RX1_77 rfl rfl ht rfl rfl (Nat.le_of_ble_eq_true rfl) ⟨(Nat.le_of_ble_eq_true rfl), (Nat.le_of_ble_eq_true rfl)⟩ (mX0_copyFrom hfl h) rfl dX1_copyFrom_65 (kV' (fun G23 h => ?_)) kN
    refine r_aloadR_n C 0 dX1_copyFrom_68 rfl rfl ?_
    obtain ⟨ht, h⟩ := h
    obtain ⟨b24, hb, h⟩ := h
    refine r_getR C fw_RX1_35 rfl ht hb dX1_copyFrom_69 ?_
    refine r_aloadR_n C 1 dX1_copyFrom_72 rfl rfl ?_
    obtain ⟨ht, h⟩ := h
    obtain ⟨b25, hb, h⟩ := h
    refine r_getR C fw_RX1_35 rfl ht hb dX1_copyFrom_73 ?_
    obtain ⟨ht, h⟩ := h
    refine r_callV C (r := (RX6, TX6, 7)) hL yw_X6_copyFrom vw_RX1_80 rfl rfl ht rfl rfl (Nat.le_of_ble_eq_true rfl) ⟨(Nat.le_of_ble_eq_true rfl), (Nat.le_of_ble_eq_true rfl)⟩ (mX6_copyFrom hfl h) rfl dX1_copyFrom_76 (kV' (fun G26 h => ?_)) (kO C E0 hex)
    refine r_aloadR_n C 0 dX1_copyFrom_79 rfl rfl ?_
    obtain ⟨ht, h⟩ := h
    obtain ⟨b27, hb, h⟩ := h
    refine r_getR C fw_RX1_42 rfl ht hb dX1_copyFrom_80 ?_
    refine r_aloadR_n C 1 dX1_copyFrom_83 rfl rfl ?_
    obtain ⟨ht, h⟩ := h
    obtain ⟨b28, hb, h⟩ := h
    refine r_getR C fw_RX1_42 rfl ht hb dX1_copyFrom_84 ?_
    obtain ⟨ht, h⟩ := h
    refine r_callV C (r := (RX4, TX4, 2)) hL yw_X4_copyFrom vw_RX1_83 rfl rfl ht rfl rfl (Nat.le_of_ble_eq_true rfl) ⟨(Nat.le_of_ble_eq_true rfl), (Nat.le_of_ble_eq_true rfl)⟩ (mX4_copyFrom hfl h) rfl dX1_copyFrom_87 (kV' (fun G29 h => ?_)) (kO C E0 hex)
    refine r_aloadR_n C 0 dX1_copyFrom_90 rfl rfl ?_
    refine r_aloadR_n C 1 dX1_copyFrom_91 rfl rfl ?_
    obtain ⟨ht, h⟩ := h
    refine r_getI C fw_RX1_53 rfl ht dX1_copyFrom_92 ?_
    obtain ⟨ht, h⟩ := h
    refine r_putI C cw_2 fp_RX1_53 rfl ht dX1_copyFrom_95 ?_
    refine r_nm (fun G30 hG30 => ?_)
    replace h := h G30 hG30
    refine r_aloadR_n C 0 dX1_copyFrom_98 rfl rfl ?_
    refine r_aloadR_n C 1 dX1_copyFrom_99 rfl rfl ?_
    obtain ⟨ht, h⟩ := h
    refine r_getI C fw_RX1_57 rfl ht dX1_copyFrom_100 ?_
    obtain ⟨ht, h⟩ := h
    refine r_putI C cw_2 fp_RX1_57 rfl ht dX1_copyFrom_103 ?_
    refine r_nm (fun G31 hG31 => ?_)
    replace h := h G31 hG31
    refine r_aloadR_n C 0 dX1_copyFrom_106 rfl rfl ?_
    refine r_aloadR_n C 1 dX1_copyFrom_107 rfl rfl ?_
    obtain ⟨ht, h⟩ := h
    refine r_getI C fw_RX1_60 rfl ht dX1_copyFrom_108 ?_
    obtain ⟨ht, h⟩ := h
    obtain ⟨hz, h⟩ := h
    refine r_putZ C cw_2 fp_RX1_60 rfl ht hz dX1_copyFrom_111 ?_
    refine r_nm (fun G32 hG32 => ?_)
    replace h := h G32 hG32
    refine r_aloadR_n C 0 dX1_copyFrom_114 rfl rfl ?_
    refine r_iconst C 0 dX1_copyFrom_115 (by decide) ?_
    obtain ⟨ht, h⟩ := h
    refine r_putZ C cw_2 fp_RX1_64 rfl ht (Or.inl rfl) dX1_copyFrom_116 ?_
    refine r_nm (fun G33 hG33 => ?_)
    replace h := h G33 hG33
    exact r_vret C E0 hr ⟨rfl, h⟩ dX1_copyFrom_119
  · replace h := h.2 c
    refine r_aloadR_n C 0 dX1_copyFrom_36 rfl rfl ?_
    obtain ⟨ht, h⟩ := h
    obtain ⟨b41, hb, h⟩ := h
    refine r_getR C fw_RX1_21 rfl ht hb dX1_copyFrom_37 ?_
    refine r_iload_n C 2 dX1_copyFrom_40 rfl rfl ?_
    obtain ⟨ht, hi, h⟩ := h
    obtain ⟨b42, hb, h⟩ := h
    refine r_aald4P C ht hi hb dX1_copyFrom_41 ?_
    refine r_aloadR_n C 1 dX1_copyFrom_42 rfl rfl ?_
    obtain ⟨ht, h⟩ := h
    obtain ⟨b43, hb, h⟩ := h
    refine r_getR C fw_RX1_21 rfl ht hb dX1_copyFrom_43 ?_
    refine r_iload_n C 2 dX1_copyFrom_46 rfl rfl ?_
    obtain ⟨ht, hi, h⟩ := h
    obtain ⟨b44, hb, h⟩ := h
    refine r_aald4P C ht hi hb dX1_copyFrom_47 ?_
    obtain ⟨ht, h⟩ := h
    refine r_callV C (r := (RX2, TX2, 7)) hL yw_X2_copyFrom vw_RX1_73 rfl rfl ht rfl rfl (Nat.le_of_ble_eq_true rfl) ⟨(Nat.le_of_ble_eq_true rfl), (Nat.le_of_ble_eq_true rfl)⟩ (mX2_copyFrom hfl h) rfl dX1_copyFrom_48 (kV' (fun G45 h => ?_)) kN
    refine r_iinc C 1 (lv' := [some (.ref a0), some (.ref a1), some (.int (x2 + 1))]) dX1_copyFrom_51 rfl (by decide) rfl rfl ?_
    refine r_goto C 31 dX1_copyFrom_54 (by decide) ?_
    exact hk31 _ _ _ _ h
theorem lX1_copyFrom_31 {X : Xt} {K : Kt} {l : Launch} {G0 : Gt} {Pr : Gt → Prop} {Px : String → Gt → Prop} (B : BX X K l cX1_copyFrom 3 RX1 9 215 G0 none "copyFrom") (I : Gt → Nat → Nat → Int32 → Prop) (μ : Gt → Nat → Nat → Int32 → Nat) (hS : ∀ (G : Gt) (a0 : Nat) (a1 : Nat) (x2 : Int32), I G a0 a1 x2 → wX1_copyFrom_31 X Pr Px (fun G' a0' a1' x2' => I G' a0' a1' x2' ∧ μ G' a0' a1' x2' < μ G a0 a1 x2) G a0 a1 x2) : ∀ (n : Nat) (G : Gt) (a0 : Nat) (a1 : Nat) (x2 : Int32), μ G a0 a1 x2 < n → I G a0 a1 x2 → WM X K (QM X K G0 (rV Pr) Px) G 31 [some (.ref a0), some (.ref a1), some (.int x2)] [] := by
  intro n
  induction n with
  | zero => intro G a0 a1 x2 hm; exact absurd hm (Nat.not_lt_zero _)
  | succ n ih =>
    intro G a0 a1 x2 hm hi
    exact bX1_copyFrom_31 B (fun G' a0' a1' x2' hk => ih G' a0' a1' x2' (Nat.lt_of_lt_of_le hk.2 (Nat.le_of_lt_succ hm)) hk.1) (hS G a0 a1 x2 hi)
def wX1_copyFrom (X : Xt) (G : Gt) (a0 : Nat) (a1 : Nat) (Pr : Gt → Prop) (Px : String → Gt → Prop) : Prop := gT G a1 = (1, 2) ∧ ∃ b1, gR G 64 a1 = some b1 ∧ gT G a0 = (1, 2) ∧ ∃ b2, gR G 64 a0 = some b2 ∧ (gT G b1).1 = 2 ∧ (gT G b2).1 = 2 ∧ ¬ (0 : Int32) < 0 ∧ ¬ (0 : Int32) < 0 ∧ ¬ (5 : Int32) < 0 ∧ (0 : Int32).toNatClampNeg + (5 : Int32).toNatClampNeg ≤ (gT G b1).2 ∧ (0 : Int32).toNatClampNeg + (5 : Int32).toNatClampNeg ≤ (gT G b2).2 ∧ ∀ G3, G3 = sA G b2 (va_cpy (gA G b1) (gA G b2) (0 : Int32).toNatClampNeg (0 : Int32).toNatClampNeg (5 : Int32).toNatClampNeg) → gT G3 a1 = (1, 2) ∧ ∃ b4, gR G3 65 a1 = some b4 ∧ gT G3 a0 = (1, 2) ∧ ∃ b5, gR G3 65 a0 = some b5 ∧ (gT G3 b4).1 = 2 ∧ (gT G3 b5).1 = 2 ∧ ¬ (0 : Int32) < 0 ∧ ¬ (0 : Int32) < 0 ∧ ¬ (6 : Int32) < 0 ∧ (0 : Int32).toNatClampNeg + (6 : Int32).toNatClampNeg ≤ (gT G3 b4).2 ∧ (0 : Int32).toNatClampNeg + (6 : Int32).toNatClampNeg ≤ (gT G3 b5).2 ∧ ∀ G6, G6 = sA G3 b5 (va_cpy (gA G3 b4) (gA G3 b5) (0 : Int32).toNatClampNeg (0 : Int32).toNatClampNeg (6 : Int32).toNatClampNeg) → ∃ (I : Gt → Nat → Nat → Int32 → Prop) (μ : Gt → Nat → Nat → Int32 → Nat), I G6 a0 a1 (0 : Int32) ∧ ∀ (G : Gt) (a0 : Nat) (a1 : Nat) (x2 : Int32), I G a0 a1 x2 → wX1_copyFrom_31 X Pr Px (fun G' a0' a1' x2' => I G' a0' a1' x2' ∧ μ G' a0' a1' x2' < μ G a0 a1 x2) G a0 a1 x2
set_option maxRecDepth 20000 in
theorem mX1_copyFrom {X : Xt} {l : Launch} (hfl : l.stackTraces = false) {G : Gt} {a0 : Nat} {a1 : Nat} {Pr : Gt → Prop} {Px : String → Gt → Prop} (h : wX1_copyFrom X G a0 a1 Pr Px) : Mc X l yX1_copyFrom (.code yX1_copyFrom cX1_copyFrom 3 none) 9 215 [.ref a0, .ref a1] G (rV Pr) Px := by
  refine Mc.of (by decide +kernel) hfl [some (.ref a0), some (.ref a1), none] rfl (Nat.le_of_ble_eq_true rfl) rfl ?_
  intro K hL C E0 hr hnm hex
  have B : BX X K l cX1_copyFrom 3 RX1 9 215 G none "copyFrom" := ⟨hL, C, E0, hr, hnm, hex, hfl⟩
  have C : Cx X K cX1_copyFrom 3 RX1 9 215 := C
  unfold wX1_copyFrom at h
  refine r_aloadR_n C 1 dX1_copyFrom_0 rfl rfl ?_
  obtain ⟨ht, h⟩ := h
  obtain ⟨b1, hb, h⟩ := h
  refine r_getR C fw_RX1_9 rfl ht hb dX1_copyFrom_1 ?_
  refine r_iconst C 0 dX1_copyFrom_4 (by decide) ?_
  refine r_aloadR_n C 0 dX1_copyFrom_5 rfl rfl ?_
  obtain ⟨ht, h⟩ := h
  obtain ⟨b2, hb, h⟩ := h
  refine r_getR C fw_RX1_9 rfl ht hb dX1_copyFrom_6 ?_
  refine r_iconst C 0 dX1_copyFrom_9 (by decide) ?_
  refine r_iconst C 5 dX1_copyFrom_10 (by decide) ?_
  obtain ⟨q1, q2, q3, q4, q5, q6, q7, h⟩ := h
  refine r_copyI C ac_RX1_67 q1 q2 q3 q4 q5 q6 q7 rfl (Nat.le_of_ble_eq_true rfl) (Nat.le_of_ble_eq_true rfl) dX1_copyFrom_11 ?_
  refine r_nm (fun G3 hG3 => ?_)
  replace h := h G3 hG3
  refine r_aloadR_n C 1 dX1_copyFrom_14 rfl rfl ?_
  obtain ⟨ht, h⟩ := h
  obtain ⟨b4, hb, h⟩ := h
  refine r_getR C fw_RX1_15 rfl ht hb dX1_copyFrom_15 ?_
  refine r_iconst C 0 dX1_copyFrom_18 (by decide) ?_
  refine r_aloadR_n C 0 dX1_copyFrom_19 rfl rfl ?_
  obtain ⟨ht, h⟩ := h
  obtain ⟨b5, hb, h⟩ := h
  refine r_getR C fw_RX1_15 rfl ht hb dX1_copyFrom_20 ?_
  refine r_iconst C 0 dX1_copyFrom_23 (by decide) ?_
  refine r_bipush C 6 dX1_copyFrom_24 (by decide) ?_
  obtain ⟨q1, q2, q3, q4, q5, q6, q7, h⟩ := h
  refine r_copyI C ac_RX1_67 q1 q2 q3 q4 q5 q6 q7 rfl (Nat.le_of_ble_eq_true rfl) (Nat.le_of_ble_eq_true rfl) dX1_copyFrom_26 ?_
  refine r_nm (fun G6 hG6 => ?_)
  replace h := h G6 hG6
  refine r_iconst C 0 dX1_copyFrom_29 (by decide) ?_
  refine r_istore_n C 2 (lv' := [some (.ref a0), some (.ref a1), some (.int 0)]) dX1_copyFrom_30 rfl (Nat.le_of_ble_eq_true rfl) rfl rfl ?_
  obtain ⟨I, μ, hI, hS⟩ := h
  exact lX1_copyFrom_31 B I μ hS _ _ _ _ _ (Nat.lt_succ_self _) hI
def wX6_openGroup_7 (X : Xt) (Pr : Option Nat → Gt → Prop) (Px : String → Gt → Prop) (k7 : Gt → Nat → Int32 → Prop) (G : Gt) (a0 : Nat) (x1 : Int32) : Prop := gT G a0 = (1, 7) ∧ ∃ b1, gR G 224 a0 = some b1 ∧ gT G b1 = (1, 0) ∧ wJx4a65c_size_8abf5 X G b1 (fun r2 G3 => (r2 ≤ x1 → Pr none G3) ∧ (¬ (r2 ≤ x1) → gT G3 a0 = (1, 7) ∧ ∃ b44, gR G3 224 a0 = some b44 ∧ gT G3 b44 = (1, 0) ∧ wJx4a65c_get_915e3 X G3 b44 x1 (fun r45 G46 => ∃ b47, r45 = some b47 ∧ gT G46 b47 = (1, 9) ∧ gT G46 b47 = (1, 9) ∧ (¬ (gI G46 295 b47) = 0 → k7 G46 a0 (x1 + 1)) ∧ ((gI G46 295 b47) = 0 → gT G46 a0 = (1, 7) ∧ ∀ G88, G88 = sJ G46 225 a0 ((1 : Int64) <<< ((x1 : Int32).toInt64 &&& 63)) → gT G88 a0 = (1, 7) ∧ ∀ G89, G89 = sI G88 226 a0 x1 → gT G89 b47 = (1, 9) ∧ gT G89 a0 = (1, 7) ∧ ∀ G90, G90 = sI G89 227 a0 (gI G89 289 b47) → gT G90 b47 = (1, 9) ∧ gT G90 a0 = (1, 7) ∧ ((gI G90 293 b47) = 0 ∨ (gI G90 293 b47) = 1) ∧ ∀ G91, G91 = sI G90 228 a0 (gI G90 293 b47) → gT G91 b47 = (1, 9) ∧ gT G91 a0 = (1, 7) ∧ ∀ G92, G92 = sI G91 229 a0 (gI G91 290 b47) → gT G92 b47 = (1, 9) ∧ gT G92 a0 = (1, 7) ∧ ∀ G93, G93 = sI G92 230 a0 (gI G92 292 b47) → Pr (some b47) G93)) Px))
set_option maxRecDepth 20000 in
theorem bX6_openGroup_7 {X : Xt} {K : Kt} {l : Launch} {G0 : Gt} {Pr : Option Nat → Gt → Prop} {Px : String → Gt → Prop} (B : BX X K l cX6_openGroup 3 RX6 3 64 G0 (some (.object "RegisterGateway$Request")) "openGroup") {k7 : Gt → Nat → Int32 → Prop} (hk7 : ∀ (G : Gt) (a0 : Nat) (x1 : Int32), k7 G a0 x1 → WM X K (QM X K G0 (rA Pr) Px) G 7 [some (.ref a0), some (.int x1), none] []) {G : Gt} {a0 : Nat} {x1 : Int32} (h : wX6_openGroup_7 X Pr Px k7 G a0 x1) : WM X K (QM X K G0 (rA Pr) Px) G 7 [some (.ref a0), some (.int x1), none] [] := by
  obtain ⟨hL, C, E0, hr, hnm, hex, hfl⟩ := id B
  unfold wX6_openGroup_7 at h
  refine r_iload_n C 1 dX6_openGroup_7 rfl rfl ?_
  refine r_aloadR_n C 0 dX6_openGroup_8 rfl rfl ?_
  obtain ⟨ht, h⟩ := h
  obtain ⟨b1, hb, h⟩ := h
  refine r_getR C fw_RX6_12 rfl ht hb dX6_openGroup_9 ?_
  obtain ⟨ht, h⟩ := h
  refine r_callV C (r := (RJx4a65c, TJx4a65c, 3)) hL yw_Jx4a65c_size_8abf5 vw_RX6_39 rfl rfl ht rfl rfl (Nat.le_of_ble_eq_true rfl) ⟨(Nat.le_of_ble_eq_true rfl), (Nat.le_of_ble_eq_true rfl)⟩ (mJx4a65c_size_8abf5 hfl h) rfl dX6_openGroup_12 (kI (fun r2 G3 h => ?_)) kN
  refine r_icmp_ge C 89 dX6_openGroup_15 (by decide) (fun c => ?_) (fun c => ?_)
  · replace h := h.1 c
    refine r_aconst_null C dX6_openGroup_89 ?_
    exact r_aret C E0 hr (Or.inl ⟨_, rfl⟩) (x := none) ⟨_, rfl, h⟩ dX6_openGroup_90
  · replace h := h.2 c
    refine r_aloadR_n C 0 dX6_openGroup_18 rfl rfl ?_
    obtain ⟨ht, h⟩ := h
    obtain ⟨b44, hb, h⟩ := h
    refine r_getR C fw_RX6_12 rfl ht hb dX6_openGroup_19 ?_
    refine r_iload_n C 1 dX6_openGroup_22 rfl rfl ?_
    obtain ⟨ht, h⟩ := h
    refine r_callV C (r := (RJx4a65c, TJx4a65c, 3)) hL yw_Jx4a65c_get_915e3 vw_RX6_43 rfl rfl ht rfl rfl (Nat.le_of_ble_eq_true rfl) ⟨(Nat.le_of_ble_eq_true rfl), (Nat.le_of_ble_eq_true rfl)⟩ (mJx4a65c_get_915e3 hfl h) rfl dX6_openGroup_23 (kA' (fun r45 G46 h => ?_)) (kO C E0 hex)
    obtain ⟨b47, hb, ht, h⟩ := h
    subst hb
    refine r_cast C (r := (RX8, TX8, 11)) rfl cl_RX6_47 ht dX6_openGroup_26 ?_
    refine r_astoreR_n C 2 (lv' := [some (.ref a0), some (.int x1), some (.ref b47)]) dX6_openGroup_29 rfl (Nat.le_of_ble_eq_true rfl) rfl rfl ?_
    refine r_aloadR_n C 2 dX6_openGroup_30 rfl rfl ?_
    obtain ⟨ht, h⟩ := h
    refine r_getI C fw_RX6_65 rfl ht dX6_openGroup_31 ?_
    refine r_if_ne C 83 dX6_openGroup_34 (by decide) (fun c => ?_) (fun c => ?_)
    · replace h := h.1 c
      refine r_iinc C 1 (lv' := [some (.ref a0), some (.int (x1 + 1)), some (.ref b47)]) dX6_openGroup_83 rfl (by decide) rfl rfl ?_
      refine r_goto C 7 dX6_openGroup_86 (by decide) ?_
      refine r_fg (lv' := [some (.ref a0), some (.int (x1 + 1)), none]) (show fgt _ _ from ⟨rfl, ⟨rfl, trivial⟩⟩) ?_
      exact hk7 _ _ _ h
    · replace h := h.2 c
      refine r_aloadR_n C 0 dX6_openGroup_37 rfl rfl ?_
      refine r_lconst C 1 dX6_openGroup_38 (by decide) ?_
      refine r_iload_n C 1 dX6_openGroup_39 rfl rfl ?_
      refine r_lshl C dX6_openGroup_40 ?_
      obtain ⟨ht, h⟩ := h
      refine r_putJ C cw_7 fp_RX6_18 rfl ht dX6_openGroup_41 ?_
      refine r_nm (fun G88 hG88 => ?_)
      replace h := h G88 hG88
      refine r_aloadR_n C 0 dX6_openGroup_44 rfl rfl ?_
      refine r_iload_n C 1 dX6_openGroup_45 rfl rfl ?_
      obtain ⟨ht, h⟩ := h
      refine r_putI C cw_7 fp_RX6_22 rfl ht dX6_openGroup_46 ?_
      refine r_nm (fun G89 hG89 => ?_)
      replace h := h G89 hG89
      refine r_aloadR_n C 0 dX6_openGroup_49 rfl rfl ?_
      refine r_aloadR_n C 2 dX6_openGroup_50 rfl rfl ?_
      obtain ⟨ht, h⟩ := h
      refine r_getI C fw_RX6_52 rfl ht dX6_openGroup_51 ?_
      obtain ⟨ht, h⟩ := h
      refine r_putI C cw_7 fp_RX6_26 rfl ht dX6_openGroup_54 ?_
      refine r_nm (fun G90 hG90 => ?_)
      replace h := h G90 hG90
      refine r_aloadR_n C 0 dX6_openGroup_57 rfl rfl ?_
      refine r_aloadR_n C 2 dX6_openGroup_58 rfl rfl ?_
      obtain ⟨ht, h⟩ := h
      refine r_getI C fw_RX6_57 rfl ht dX6_openGroup_59 ?_
      obtain ⟨ht, h⟩ := h
      obtain ⟨hz, h⟩ := h
      refine r_putZ C cw_7 fp_RX6_29 rfl ht hz dX6_openGroup_62 ?_
      refine r_nm (fun G91 hG91 => ?_)
      replace h := h G91 hG91
      refine r_aloadR_n C 0 dX6_openGroup_65 rfl rfl ?_
      refine r_aloadR_n C 2 dX6_openGroup_66 rfl rfl ?_
      obtain ⟨ht, h⟩ := h
      refine r_getI C fw_RX6_53 rfl ht dX6_openGroup_67 ?_
      obtain ⟨ht, h⟩ := h
      refine r_putI C cw_7 fp_RX6_33 rfl ht dX6_openGroup_70 ?_
      refine r_nm (fun G92 hG92 => ?_)
      replace h := h G92 hG92
      refine r_aloadR_n C 0 dX6_openGroup_73 rfl rfl ?_
      refine r_aloadR_n C 2 dX6_openGroup_74 rfl rfl ?_
      obtain ⟨ht, h⟩ := h
      refine r_getI C fw_RX6_82 rfl ht dX6_openGroup_75 ?_
      obtain ⟨ht, h⟩ := h
      refine r_putI C cw_7 fp_RX6_36 rfl ht dX6_openGroup_78 ?_
      refine r_nm (fun G93 hG93 => ?_)
      replace h := h G93 hG93
      refine r_aloadR_n C 2 dX6_openGroup_81 rfl rfl ?_
      exact r_aret C E0 hr (Or.inl ⟨_, rfl⟩) (x := (some b47)) ⟨_, rfl, h⟩ dX6_openGroup_82
theorem lX6_openGroup_7 {X : Xt} {K : Kt} {l : Launch} {G0 : Gt} {Pr : Option Nat → Gt → Prop} {Px : String → Gt → Prop} (B : BX X K l cX6_openGroup 3 RX6 3 64 G0 (some (.object "RegisterGateway$Request")) "openGroup") (I : Gt → Nat → Int32 → Prop) (μ : Gt → Nat → Int32 → Nat) (hS : ∀ (G : Gt) (a0 : Nat) (x1 : Int32), I G a0 x1 → wX6_openGroup_7 X Pr Px (fun G' a0' x1' => I G' a0' x1' ∧ μ G' a0' x1' < μ G a0 x1) G a0 x1) : ∀ (n : Nat) (G : Gt) (a0 : Nat) (x1 : Int32), μ G a0 x1 < n → I G a0 x1 → WM X K (QM X K G0 (rA Pr) Px) G 7 [some (.ref a0), some (.int x1), none] [] := by
  intro n
  induction n with
  | zero => intro G a0 x1 hm; exact absurd hm (Nat.not_lt_zero _)
  | succ n ih =>
    intro G a0 x1 hm hi
    exact bX6_openGroup_7 B (fun G' a0' x1' hk => ih G' a0' x1' (Nat.lt_of_lt_of_le hk.2 (Nat.le_of_lt_succ hm)) hk.1) (hS G a0 x1 hi)
def wX6_openGroup (X : Xt) (G : Gt) (a0 : Nat) (Pr : Option Nat → Gt → Prop) (Px : String → Gt → Prop) : Prop := gT G a0 = (1, 7) ∧ ∀ G1, G1 = sJ G 225 a0 (0 : Int64) → ∃ (I : Gt → Nat → Int32 → Prop) (μ : Gt → Nat → Int32 → Nat), I G1 a0 (0 : Int32) ∧ ∀ (G : Gt) (a0 : Nat) (x1 : Int32), I G a0 x1 → wX6_openGroup_7 X Pr Px (fun G' a0' x1' => I G' a0' x1' ∧ μ G' a0' x1' < μ G a0 x1) G a0 x1
set_option maxRecDepth 20000 in
theorem mX6_openGroup {X : Xt} {l : Launch} (hfl : l.stackTraces = false) {G : Gt} {a0 : Nat} {Pr : Option Nat → Gt → Prop} {Px : String → Gt → Prop} (h : wX6_openGroup X G a0 Pr Px) : Mc X l yX6_openGroup (.code yX6_openGroup cX6_openGroup 3 (some (.object "RegisterGateway$Request"))) 3 64 [.ref a0] G (rA Pr) Px := by
  refine Mc.of (by decide +kernel) hfl [some (.ref a0), none, none] rfl (Nat.le_of_ble_eq_true rfl) rfl ?_
  intro K hL C E0 hr hnm hex
  have B : BX X K l cX6_openGroup 3 RX6 3 64 G (some (.object "RegisterGateway$Request")) "openGroup" := ⟨hL, C, E0, hr, hnm, hex, hfl⟩
  have C : Cx X K cX6_openGroup 3 RX6 3 64 := C
  unfold wX6_openGroup at h
  refine r_aloadR_n C 0 dX6_openGroup_0 rfl rfl ?_
  refine r_lconst C 0 dX6_openGroup_1 (by decide) ?_
  obtain ⟨ht, h⟩ := h
  refine r_putJ C cw_7 fp_RX6_18 rfl ht dX6_openGroup_2 ?_
  refine r_nm (fun G1 hG1 => ?_)
  replace h := h G1 hG1
  refine r_iconst C 0 dX6_openGroup_5 (by decide) ?_
  refine r_istore_n C 1 (lv' := [some (.ref a0), some (.int 0), none]) dX6_openGroup_6 rfl (Nat.le_of_ble_eq_true rfl) rfl rfl ?_
  obtain ⟨I, μ, hI, hS⟩ := h
  exact lX6_openGroup_7 B I μ hS _ _ _ _ (Nat.lt_succ_self _) hI
def wX1_cacheAnswers_14 (X : Xt) (Pr : Int32 → Gt → Prop) (k14 : Gt → Nat → Nat → Int32 → Prop) (G : Gt) (a0 : Nat) (a1 : Nat) (x2 : Int32) : Prop := gT G a1 = (1, 9) ∧ ((gI G 292 a1) ≤ x2 → Pr 1 G) ∧ (¬ ((gI G 292 a1) ≤ x2) → gT G a0 = (1, 2) ∧ ∃ b41, gR G 67 a0 = some b41 ∧ gT G a1 = (1, 9) ∧ gT G a0 = (1, 2) ∧ gT G a0 = (1, 2) ∧ ∃ b42, gR G 64 a0 = some b42 ∧ (gT G b42).1 = 2 ∧ vp_in 0 (gT G b42).2 ∧ gT G b41 = (1, 1) ∧ wX0_isFresh X G b41 (gI G 289 a1) x2 (gI G 71 a0) (gA G b42 (0 : Int32).toNatClampNeg) (fun r43 G44 => (¬ r43 = 0 → k14 G44 a0 a1 (x2 + 1)) ∧ (r43 = 0 → Pr 0 G44)))
set_option maxRecDepth 20000 in
theorem bX1_cacheAnswers_14 {X : Xt} {K : Kt} {l : Launch} {G0 : Gt} {Pr : Int32 → Gt → Prop} (B : BX X K l cX1_cacheAnswers 3 RX1 3 70 G0 (some (.boolean)) "cacheAnswers") {k14 : Gt → Nat → Nat → Int32 → Prop} (hk14 : ∀ (G : Gt) (a0 : Nat) (a1 : Nat) (x2 : Int32), k14 G a0 a1 x2 → WM X K (QM X K G0 (rI Pr) noX) G 14 [some (.ref a0), some (.ref a1), some (.int x2)] []) {G : Gt} {a0 : Nat} {a1 : Nat} {x2 : Int32} (h : wX1_cacheAnswers_14 X Pr k14 G a0 a1 x2) : WM X K (QM X K G0 (rI Pr) noX) G 14 [some (.ref a0), some (.ref a1), some (.int x2)] [] := by
  obtain ⟨hL, C, E0, hr, hnm, hex, hfl⟩ := id B
  unfold wX1_cacheAnswers_14 at h
  refine r_iload_n C 2 dX1_cacheAnswers_14 rfl rfl ?_
  refine r_aloadR_n C 1 dX1_cacheAnswers_15 rfl rfl ?_
  obtain ⟨ht, h⟩ := h
  refine r_getI C fw_RX1_131 rfl ht dX1_cacheAnswers_16 ?_
  refine r_icmp_ge C 55 dX1_cacheAnswers_19 (by decide) (fun c => ?_) (fun c => ?_)
  · replace h := h.1 c
    refine r_iconst C 1 dX1_cacheAnswers_55 (by decide) ?_
    exact r_zret C E0 hr (Or.inr rfl) ⟨_, rfl, h⟩ dX1_cacheAnswers_56
  · replace h := h.2 c
    refine r_aloadR_n C 0 dX1_cacheAnswers_22 rfl rfl ?_
    obtain ⟨ht, h⟩ := h
    obtain ⟨b41, hb, h⟩ := h
    refine r_getR C fw_RX1_28 rfl ht hb dX1_cacheAnswers_23 ?_
    refine r_aloadR_n C 1 dX1_cacheAnswers_26 rfl rfl ?_
    obtain ⟨ht, h⟩ := h
    refine r_getI C fw_RX1_134 rfl ht dX1_cacheAnswers_27 ?_
    refine r_iload_n C 2 dX1_cacheAnswers_30 rfl rfl ?_
    refine r_aloadR_n C 0 dX1_cacheAnswers_31 rfl rfl ?_
    obtain ⟨ht, h⟩ := h
    refine r_getI C fw_RX1_53 rfl ht dX1_cacheAnswers_32 ?_
    refine r_aloadR_n C 0 dX1_cacheAnswers_35 rfl rfl ?_
    obtain ⟨ht, h⟩ := h
    obtain ⟨b42, hb, h⟩ := h
    refine r_getR C fw_RX1_9 rfl ht hb dX1_cacheAnswers_36 ?_
    refine r_iconst C 0 dX1_cacheAnswers_39 (by decide) ?_
    obtain ⟨ht, hi, h⟩ := h
    refine r_ialdP C ht hi dX1_cacheAnswers_40 ?_
    obtain ⟨ht, h⟩ := h
    refine r_callV C (r := (RX0, TX0, 2)) hL yw_X0_isFresh vw_RX1_135 rfl rfl ht rfl rfl (Nat.le_of_ble_eq_true rfl) ⟨(Nat.le_of_ble_eq_true rfl), (Nat.le_of_ble_eq_true rfl)⟩ (mX0_isFresh hfl h) rfl dX1_cacheAnswers_41 (kI (fun r43 G44 h => ?_)) kN
    refine r_if_ne C 49 dX1_cacheAnswers_44 (by decide) (fun c => ?_) (fun c => ?_)
    · replace h := h.1 c
      refine r_iinc C 1 (lv' := [some (.ref a0), some (.ref a1), some (.int (x2 + 1))]) dX1_cacheAnswers_49 rfl (by decide) rfl rfl ?_
      refine r_goto C 14 dX1_cacheAnswers_52 (by decide) ?_
      exact hk14 _ _ _ _ h
    · replace h := h.2 c
      refine r_iconst C 0 dX1_cacheAnswers_47 (by decide) ?_
      exact r_zret C E0 hr (Or.inl rfl) ⟨_, rfl, h⟩ dX1_cacheAnswers_48
theorem lX1_cacheAnswers_14 {X : Xt} {K : Kt} {l : Launch} {G0 : Gt} {Pr : Int32 → Gt → Prop} (B : BX X K l cX1_cacheAnswers 3 RX1 3 70 G0 (some (.boolean)) "cacheAnswers") (I : Gt → Nat → Nat → Int32 → Prop) (μ : Gt → Nat → Nat → Int32 → Nat) (hS : ∀ (G : Gt) (a0 : Nat) (a1 : Nat) (x2 : Int32), I G a0 a1 x2 → wX1_cacheAnswers_14 X Pr (fun G' a0' a1' x2' => I G' a0' a1' x2' ∧ μ G' a0' a1' x2' < μ G a0 a1 x2) G a0 a1 x2) : ∀ (n : Nat) (G : Gt) (a0 : Nat) (a1 : Nat) (x2 : Int32), μ G a0 a1 x2 < n → I G a0 a1 x2 → WM X K (QM X K G0 (rI Pr) noX) G 14 [some (.ref a0), some (.ref a1), some (.int x2)] [] := by
  intro n
  induction n with
  | zero => intro G a0 a1 x2 hm; exact absurd hm (Nat.not_lt_zero _)
  | succ n ih =>
    intro G a0 a1 x2 hm hi
    exact bX1_cacheAnswers_14 B (fun G' a0' a1' x2' hk => ih G' a0' a1' x2' (Nat.lt_of_lt_of_le hk.2 (Nat.le_of_lt_succ hm)) hk.1) (hS G a0 a1 x2 hi)
def wX1_cacheAnswers (X : Xt) (G : Gt) (a0 : Nat) (a1 : Nat) (Pr : Int32 → Gt → Prop) : Prop := gT G a1 = (1, 9) ∧ ((gI G 293 a1) = 0 → gT G a1 = (1, 9) ∧ ∃ (I : Gt → Nat → Nat → Int32 → Prop) (μ : Gt → Nat → Nat → Int32 → Nat), I G a0 a1 (gI G 290 a1) ∧ ∀ (G : Gt) (a0 : Nat) (a1 : Nat) (x2 : Int32), I G a0 a1 x2 → wX1_cacheAnswers_14 X Pr (fun G' a0' a1' x2' => I G' a0' a1' x2' ∧ μ G' a0' a1' x2' < μ G a0 a1 x2) G a0 a1 x2) ∧ (¬ ((gI G 293 a1) = 0) → Pr 0 G)
set_option maxRecDepth 20000 in
theorem mX1_cacheAnswers {X : Xt} {l : Launch} (hfl : l.stackTraces = false) {G : Gt} {a0 : Nat} {a1 : Nat} {Pr : Int32 → Gt → Prop} (h : wX1_cacheAnswers X G a0 a1 Pr) : Mc X l yX1_cacheAnswers (.code yX1_cacheAnswers cX1_cacheAnswers 3 (some (.boolean))) 3 70 [.ref a0, .ref a1] G (rI Pr) noX := by
  refine Mc.of (by decide +kernel) hfl [some (.ref a0), some (.ref a1), none] rfl (Nat.le_of_ble_eq_true rfl) rfl ?_
  intro K hL C E0 hr hnm hex
  have B : BX X K l cX1_cacheAnswers 3 RX1 3 70 G (some (.boolean)) "cacheAnswers" := ⟨hL, C, E0, hr, hnm, hex, hfl⟩
  have C : Cx X K cX1_cacheAnswers 3 RX1 3 70 := C
  unfold wX1_cacheAnswers at h
  refine r_aloadR_n C 1 dX1_cacheAnswers_0 rfl rfl ?_
  obtain ⟨ht, h⟩ := h
  refine r_getI C fw_RX1_127 rfl ht dX1_cacheAnswers_1 ?_
  refine r_if_eq C 9 dX1_cacheAnswers_4 (by decide) (fun c => ?_) (fun c => ?_)
  · replace h := h.1 c
    refine r_aloadR_n C 1 dX1_cacheAnswers_9 rfl rfl ?_
    obtain ⟨ht, h⟩ := h
    refine r_getI C fw_RX1_130 rfl ht dX1_cacheAnswers_10 ?_
    refine r_istore_n C 2 (lv' := [some (.ref a0), some (.ref a1), some (.int (gI G 290 a1))]) dX1_cacheAnswers_13 rfl (Nat.le_of_ble_eq_true rfl) rfl rfl ?_
    obtain ⟨I, μ, hI, hS⟩ := h
    exact lX1_cacheAnswers_14 B I μ hS _ _ _ _ _ (Nat.lt_succ_self _) hI
  · replace h := h.2 c
    refine r_iconst C 0 dX1_cacheAnswers_7 (by decide) ?_
    exact r_zret C E0 hr (Or.inl rfl) ⟨_, rfl, h⟩ dX1_cacheAnswers_8
def wX6_fitsBeside_94 (X : Xt) (Pr : Int32 → Gt → Prop) (G : Gt) (sx0 : Int32) (sx1 : Int32) : Prop := (sx1 < sx0 → Pr 0 G) ∧ (¬ (sx1 < sx0) → Pr 1 G)
set_option maxRecDepth 20000 in
theorem bX6_fitsBeside_94 {X : Xt} {K : Kt} {l : Launch} {G0 : Gt} {Pr : Int32 → Gt → Prop} (B : BX X K l cX6_fitsBeside 3 RX6 1 21 G0 (some (.boolean)) "fitsBeside") {G : Gt} {sx0 : Int32} {sx1 : Int32} (h : wX6_fitsBeside_94 X Pr G sx0 sx1) : WM X K (QM X K G0 (rI Pr) noX) G 94 [none, none, none] [.int sx1, .int sx0] := by
  obtain ⟨hL, C, E0, hr, hnm, hex, hfl⟩ := id B
  unfold wX6_fitsBeside_94 at h
  refine r_icmp_gt C 101 dX6_fitsBeside_94 (by decide) (fun c => ?_) (fun c => ?_)
  · replace h := h.1 c
    refine r_iconst C 0 dX6_fitsBeside_101 (by decide) ?_
    exact r_zret C E0 hr (Or.inl rfl) ⟨_, rfl, h⟩ dX6_fitsBeside_102
  · replace h := h.2 c
    refine r_iconst C 1 dX6_fitsBeside_97 (by decide) ?_
    refine r_goto C 102 dX6_fitsBeside_98 (by decide) ?_
    exact r_zret C E0 hr (Or.inr rfl) ⟨_, rfl, h⟩ dX6_fitsBeside_102
def wX6_fitsBeside (X : Xt) (G : Gt) (a0 : Nat) (a1 : Nat) (Pr : Int32 → Gt → Prop) : Prop := gT G a1 = (1, 9) ∧ (¬ (gI G 295 a1) = 0 → Pr 0 G) ∧ ((gI G 295 a1) = 0 → gT G a1 = (1, 9) ∧ gT G a0 = (1, 7) ∧ (¬ (gI G 289 a1) = (gI G 227 a0) → Pr 0 G) ∧ ((gI G 289 a1) = (gI G 227 a0) → gT G a1 = (1, 9) ∧ gT G a0 = (1, 7) ∧ ((gI G 293 a1) = (gI G 228 a0) → gT G a1 = (1, 9) ∧ gT G a0 = (1, 7) ∧ ((gI G 230 a0) < (gI G 290 a1) → Pr 0 G) ∧ (¬ ((gI G 230 a0) < (gI G 290 a1)) → gT G a1 = (1, 9) ∧ gT G a0 = (1, 7) ∧ ((gI G 229 a0) ≤ (gI G 292 a1) → gT G a0 = (1, 7) ∧ gT G a1 = (1, 9) ∧ wJ9_max_7cf53 X G (gI G 230 a0) (gI G 292 a1) (fun r161 G162 => gT G162 a0 = (1, 7) ∧ gT G162 a1 = (1, 9) ∧ wJ9_min_7cf53 X G162 (gI G162 229 a0) (gI G162 290 a1) (fun r163 G164 => gT G164 a0 = (1, 7) ∧ ((gI G164 228 a0) = 0 → wX6_fitsBeside_94 X Pr G164 (r161 - r163) (16 : Int32)) ∧ (¬ ((gI G164 228 a0) = 0) → wX6_fitsBeside_94 X Pr G164 (r161 - r163) (8 : Int32))))) ∧ (¬ ((gI G 229 a0) ≤ (gI G 292 a1)) → Pr 0 G))) ∧ (¬ ((gI G 293 a1) = (gI G 228 a0)) → Pr 0 G)))
set_option maxRecDepth 20000 in
theorem mX6_fitsBeside {X : Xt} {l : Launch} (hfl : l.stackTraces = false) {G : Gt} {a0 : Nat} {a1 : Nat} {Pr : Int32 → Gt → Prop} (h : wX6_fitsBeside X G a0 a1 Pr) : Mc X l yX6_fitsBeside (.code yX6_fitsBeside cX6_fitsBeside 3 (some (.boolean))) 1 21 [.ref a0, .ref a1] G (rI Pr) noX := by
  refine Mc.of (by decide +kernel) hfl [some (.ref a0), some (.ref a1), none] rfl (Nat.le_of_ble_eq_true rfl) rfl ?_
  intro K hL C E0 hr hnm hex
  have B : BX X K l cX6_fitsBeside 3 RX6 1 21 G (some (.boolean)) "fitsBeside" := ⟨hL, C, E0, hr, hnm, hex, hfl⟩
  have C : Cx X K cX6_fitsBeside 3 RX6 1 21 := C
  unfold wX6_fitsBeside at h
  refine r_aloadR_n C 1 dX6_fitsBeside_0 rfl rfl ?_
  obtain ⟨ht, h⟩ := h
  refine r_getI C fw_RX6_65 rfl ht dX6_fitsBeside_1 ?_
  refine r_if_ne C 29 dX6_fitsBeside_4 (by decide) (fun c => ?_) (fun c => ?_)
  · replace h := h.1 c
    refine r_iconst C 0 dX6_fitsBeside_29 (by decide) ?_
    exact r_zret C E0 hr (Or.inl rfl) ⟨_, rfl, h⟩ dX6_fitsBeside_30
  · replace h := h.2 c
    refine r_aloadR_n C 1 dX6_fitsBeside_7 rfl rfl ?_
    obtain ⟨ht, h⟩ := h
    refine r_getI C fw_RX6_52 rfl ht dX6_fitsBeside_8 ?_
    refine r_aloadR_n C 0 dX6_fitsBeside_11 rfl rfl ?_
    obtain ⟨ht, h⟩ := h
    refine r_getI C fw_RX6_26 rfl ht dX6_fitsBeside_12 ?_
    refine r_icmp_ne C 29 dX6_fitsBeside_15 (by decide) (fun c => ?_) (fun c => ?_)
    · replace h := h.1 c
      refine r_iconst C 0 dX6_fitsBeside_29 (by decide) ?_
      exact r_zret C E0 hr (Or.inl rfl) ⟨_, rfl, h⟩ dX6_fitsBeside_30
    · replace h := h.2 c
      refine r_aloadR_n C 1 dX6_fitsBeside_18 rfl rfl ?_
      obtain ⟨ht, h⟩ := h
      refine r_getI C fw_RX6_57 rfl ht dX6_fitsBeside_19 ?_
      refine r_aloadR_n C 0 dX6_fitsBeside_22 rfl rfl ?_
      obtain ⟨ht, h⟩ := h
      refine r_getI C fw_RX6_29 rfl ht dX6_fitsBeside_23 ?_
      refine r_icmp_eq C 31 dX6_fitsBeside_26 (by decide) (fun c => ?_) (fun c => ?_)
      · replace h := h.1 c
        refine r_aloadR_n C 1 dX6_fitsBeside_31 rfl rfl ?_
        obtain ⟨ht, h⟩ := h
        refine r_getI C fw_RX6_53 rfl ht dX6_fitsBeside_32 ?_
        refine r_aloadR_n C 0 dX6_fitsBeside_35 rfl rfl ?_
        obtain ⟨ht, h⟩ := h
        refine r_getI C fw_RX6_36 rfl ht dX6_fitsBeside_36 ?_
        refine r_icmp_gt C 53 dX6_fitsBeside_39 (by decide) (fun c => ?_) (fun c => ?_)
        · replace h := h.1 c
          refine r_iconst C 0 dX6_fitsBeside_53 (by decide) ?_
          exact r_zret C E0 hr (Or.inl rfl) ⟨_, rfl, h⟩ dX6_fitsBeside_54
        · replace h := h.2 c
          refine r_aloadR_n C 1 dX6_fitsBeside_42 rfl rfl ?_
          obtain ⟨ht, h⟩ := h
          refine r_getI C fw_RX6_82 rfl ht dX6_fitsBeside_43 ?_
          refine r_aloadR_n C 0 dX6_fitsBeside_46 rfl rfl ?_
          obtain ⟨ht, h⟩ := h
          refine r_getI C fw_RX6_33 rfl ht dX6_fitsBeside_47 ?_
          refine r_icmp_ge C 55 dX6_fitsBeside_50 (by decide) (fun c => ?_) (fun c => ?_)
          · replace h := h.1 c
            refine r_aloadR_n C 0 dX6_fitsBeside_55 rfl rfl ?_
            obtain ⟨ht, h⟩ := h
            refine r_getI C fw_RX6_36 rfl ht dX6_fitsBeside_56 ?_
            refine r_aloadR_n C 1 dX6_fitsBeside_59 rfl rfl ?_
            obtain ⟨ht, h⟩ := h
            refine r_getI C fw_RX6_82 rfl ht dX6_fitsBeside_60 ?_
            refine r_callS C hL yw_J9_max_7cf53 sw_RX6_97 rfl rfl (Nat.le_of_ble_eq_true rfl) ⟨(Nat.le_of_ble_eq_true rfl), (Nat.le_of_ble_eq_true rfl)⟩ (mJ9_max_7cf53 hfl h) rfl dX6_fitsBeside_63 (kI (fun r161 G162 h => ?_)) kN
            refine r_aloadR_n C 0 dX6_fitsBeside_66 rfl rfl ?_
            obtain ⟨ht, h⟩ := h
            refine r_getI C fw_RX6_33 rfl ht dX6_fitsBeside_67 ?_
            refine r_aloadR_n C 1 dX6_fitsBeside_70 rfl rfl ?_
            obtain ⟨ht, h⟩ := h
            refine r_getI C fw_RX6_53 rfl ht dX6_fitsBeside_71 ?_
            refine r_callS C hL yw_J9_min_7cf53 sw_RX6_91 rfl rfl (Nat.le_of_ble_eq_true rfl) ⟨(Nat.le_of_ble_eq_true rfl), (Nat.le_of_ble_eq_true rfl)⟩ (mJ9_min_7cf53 hfl h) rfl dX6_fitsBeside_74 (kI (fun r163 G164 h => ?_)) kN
            refine r_isub C dX6_fitsBeside_77 ?_
            refine r_istore_n C 2 (lv' := [some (.ref a0), some (.ref a1), some (.int (r161 - r163))]) dX6_fitsBeside_78 rfl (Nat.le_of_ble_eq_true rfl) rfl rfl ?_
            refine r_iload_n C 2 dX6_fitsBeside_79 rfl rfl ?_
            refine r_aloadR_n C 0 dX6_fitsBeside_80 rfl rfl ?_
            obtain ⟨ht, h⟩ := h
            refine r_getI C fw_RX6_29 rfl ht dX6_fitsBeside_81 ?_
            refine r_if_eq C 92 dX6_fitsBeside_84 (by decide) (fun c => ?_) (fun c => ?_)
            · replace h := h.1 c
              refine r_bipush C 16 dX6_fitsBeside_92 (by decide) ?_
              refine r_fg (lv' := [none, none, none]) (show fgt _ _ from trivial) ?_
              exact bX6_fitsBeside_94 B h
            · replace h := h.2 c
              refine r_bipush C 8 dX6_fitsBeside_87 (by decide) ?_
              refine r_goto C 94 dX6_fitsBeside_89 (by decide) ?_
              refine r_fg (lv' := [none, none, none]) (show fgt _ _ from trivial) ?_
              exact bX6_fitsBeside_94 B h
          · replace h := h.2 c
            refine r_iconst C 0 dX6_fitsBeside_53 (by decide) ?_
            exact r_zret C E0 hr (Or.inl rfl) ⟨_, rfl, h⟩ dX6_fitsBeside_54
      · replace h := h.2 c
        refine r_iconst C 0 dX6_fitsBeside_29 (by decide) ?_
        exact r_zret C E0 hr (Or.inl rfl) ⟨_, rfl, h⟩ dX6_fitsBeside_30
def wX6_isMember (X : Xt) (G : Gt) (a0 : Nat) (x1 : Int32) (Pr : Int32 → Gt → Prop) : Prop := gT G a0 = (1, 7) ∧ (¬ (lg_cmp ((((gJ G 225 a0).toUInt64 >>> ((x1 : Int32).toInt64.toUInt64 &&& Int64.toUInt64 63)).toInt64) &&& (1 : Int64)) (1 : Int64)) = 0 → Pr 0 G) ∧ ((lg_cmp ((((gJ G 225 a0).toUInt64 >>> ((x1 : Int32).toInt64.toUInt64 &&& Int64.toUInt64 63)).toInt64) &&& (1 : Int64)) (1 : Int64)) = 0 → Pr 1 G)
set_option maxRecDepth 20000 in
theorem mX6_isMember {X : Xt} {l : Launch} (hfl : l.stackTraces = false) {G : Gt} {a0 : Nat} {x1 : Int32} {Pr : Int32 → Gt → Prop} (h : wX6_isMember X G a0 x1 Pr) : Mc X l yX6_isMember (.code yX6_isMember cX6_isMember 2 (some (.boolean))) 0 0 [.ref a0, .int x1] G (rI Pr) noX := by
  refine Mc.of (by decide +kernel) hfl [some (.ref a0), some (.int x1)] rfl (Nat.le_of_ble_eq_true rfl) rfl ?_
  intro K hL C E0 hr hnm hex
  have B : BX X K l cX6_isMember 2 RX6 0 0 G (some (.boolean)) "isMember" := ⟨hL, C, E0, hr, hnm, hex, hfl⟩
  have C : Cx X K cX6_isMember 2 RX6 0 0 := C
  unfold wX6_isMember at h
  refine r_aloadR_n C 0 dX6_isMember_0 rfl rfl ?_
  obtain ⟨ht, h⟩ := h
  refine r_getJ C fw_RX6_18 rfl ht dX6_isMember_1 ?_
  refine r_iload_n C 1 dX6_isMember_4 rfl rfl ?_
  refine r_lushr C dX6_isMember_5 ?_
  refine r_lconst C 1 dX6_isMember_6 (by decide) ?_
  refine r_land C dX6_isMember_7 ?_
  refine r_lconst C 1 dX6_isMember_8 (by decide) ?_
  refine r_lcmp C dX6_isMember_9 ?_
  refine r_if_ne C 17 dX6_isMember_10 (by decide) (fun c => ?_) (fun c => ?_)
  · replace h := h.1 c
    refine r_iconst C 0 dX6_isMember_17 (by decide) ?_
    exact r_zret C E0 hr (Or.inl rfl) ⟨_, rfl, h⟩ dX6_isMember_18
  · replace h := h.2 c
    refine r_iconst C 1 dX6_isMember_13 (by decide) ?_
    refine r_goto C 18 dX6_isMember_14 (by decide) ?_
    exact r_zret C E0 hr (Or.inr rfl) ⟨_, rfl, h⟩ dX6_isMember_18
def wX8_overlaps (X : Xt) (G : Gt) (a0 : Nat) (a1 : Nat) (Pr : Int32 → Gt → Prop) : Prop := gT G a0 = (1, 9) ∧ gT G a1 = (1, 9) ∧ ((gI G 292 a1) ≤ (gI G 290 a0) → Pr 0 G) ∧ (¬ ((gI G 292 a1) ≤ (gI G 290 a0)) → gT G a1 = (1, 9) ∧ gT G a0 = (1, 9) ∧ ((gI G 292 a0) ≤ (gI G 290 a1) → Pr 0 G) ∧ (¬ ((gI G 292 a0) ≤ (gI G 290 a1)) → Pr 1 G))
set_option maxRecDepth 20000 in
theorem mX8_overlaps {X : Xt} {l : Launch} (hfl : l.stackTraces = false) {G : Gt} {a0 : Nat} {a1 : Nat} {Pr : Int32 → Gt → Prop} (h : wX8_overlaps X G a0 a1 Pr) : Mc X l yX8_overlaps (.code yX8_overlaps cX8_overlaps 2 (some (.boolean))) 0 0 [.ref a0, .ref a1] G (rI Pr) noX := by
  refine Mc.of (by decide +kernel) hfl [some (.ref a0), some (.ref a1)] rfl (Nat.le_of_ble_eq_true rfl) rfl ?_
  intro K hL C E0 hr hnm hex
  have B : BX X K l cX8_overlaps 2 RX8 0 0 G (some (.boolean)) "overlaps" := ⟨hL, C, E0, hr, hnm, hex, hfl⟩
  have C : Cx X K cX8_overlaps 2 RX8 0 0 := C
  unfold wX8_overlaps at h
  refine r_aloadR_n C 0 dX8_overlaps_0 rfl rfl ?_
  obtain ⟨ht, h⟩ := h
  refine r_getI C fw_RX8_31 rfl ht dX8_overlaps_1 ?_
  refine r_aloadR_n C 1 dX8_overlaps_4 rfl rfl ?_
  obtain ⟨ht, h⟩ := h
  refine r_getI C fw_RX8_37 rfl ht dX8_overlaps_5 ?_
  refine r_icmp_ge C 26 dX8_overlaps_8 (by decide) (fun c => ?_) (fun c => ?_)
  · replace h := h.1 c
    refine r_iconst C 0 dX8_overlaps_26 (by decide) ?_
    exact r_zret C E0 hr (Or.inl rfl) ⟨_, rfl, h⟩ dX8_overlaps_27
  · replace h := h.2 c
    refine r_aloadR_n C 1 dX8_overlaps_11 rfl rfl ?_
    obtain ⟨ht, h⟩ := h
    refine r_getI C fw_RX8_31 rfl ht dX8_overlaps_12 ?_
    refine r_aloadR_n C 0 dX8_overlaps_15 rfl rfl ?_
    obtain ⟨ht, h⟩ := h
    refine r_getI C fw_RX8_37 rfl ht dX8_overlaps_16 ?_
    refine r_icmp_ge C 26 dX8_overlaps_19 (by decide) (fun c => ?_) (fun c => ?_)
    · replace h := h.1 c
      refine r_iconst C 0 dX8_overlaps_26 (by decide) ?_
      exact r_zret C E0 hr (Or.inl rfl) ⟨_, rfl, h⟩ dX8_overlaps_27
    · replace h := h.2 c
      refine r_iconst C 1 dX8_overlaps_22 (by decide) ?_
      refine r_goto C 27 dX8_overlaps_23 (by decide) ?_
      exact r_zret C E0 hr (Or.inr rfl) ⟨_, rfl, h⟩ dX8_overlaps_27
def wX6_isBarred_2 (X : Xt) (Pr : Int32 → Gt → Prop) (Px : String → Gt → Prop) (k2 : Gt → Nat → Int32 → Nat → Int32 → Prop) (G : Gt) (a0 : Nat) (x1 : Int32) (a2 : Nat) (x3 : Int32) : Prop := (x1 ≤ x3 → Pr 0 G) ∧ (¬ (x1 ≤ x3) → gT G a0 = (1, 7) ∧ ∃ b41, gR G 224 a0 = some b41 ∧ gT G b41 = (1, 0) ∧ wJx4a65c_get_915e3 X G b41 x3 (fun r42 G43 => ∃ b44, r42 = some b44 ∧ gT G43 b44 = (1, 9) ∧ gT G43 b44 = (1, 9) ∧ (¬ (gI G43 295 b44) = 0 → k2 G43 a0 x1 a2 (x3 + 1)) ∧ ((gI G43 295 b44) = 0 → gT G43 b44 = (1, 9) ∧ gT G43 a0 = (1, 7) ∧ (¬ (gI G43 289 b44) = (gI G43 227 a0) → k2 G43 a0 x1 a2 (x3 + 1)) ∧ ((gI G43 289 b44) = (gI G43 227 a0) → gT G43 a0 = (1, 7) ∧ wX6_isMember X G43 a0 x3 (fun r125 G126 => (¬ r125 = 0 → k2 G126 a0 x1 a2 (x3 + 1)) ∧ (r125 = 0 → gT G126 b44 = (1, 9) ∧ wX8_overlaps X G126 b44 a2 (fun r167 G168 => (r167 = 0 → k2 G168 a0 x1 a2 (x3 + 1)) ∧ (¬ (r167 = 0) → gT G168 b44 = (1, 9) ∧ (¬ (gI G168 293 b44) = 0 → Pr 1 G168) ∧ ((gI G168 293 b44) = 0 → gT G168 a2 = (1, 9) ∧ ((gI G168 293 a2) = 0 → k2 G168 a0 x1 a2 (x3 + 1)) ∧ (¬ ((gI G168 293 a2) = 0) → Pr 1 G168))))))))) Px)
set_option maxRecDepth 20000 in
theorem bX6_isBarred_2 {X : Xt} {K : Kt} {l : Launch} {G0 : Gt} {Pr : Int32 → Gt → Prop} {Px : String → Gt → Prop} (B : BX X K l cX6_isBarred 5 RX6 3 64 G0 (some (.boolean)) "isBarred") {k2 : Gt → Nat → Int32 → Nat → Int32 → Prop} (hk2 : ∀ (G : Gt) (a0 : Nat) (x1 : Int32) (a2 : Nat) (x3 : Int32), k2 G a0 x1 a2 x3 → WM X K (QM X K G0 (rI Pr) Px) G 2 [some (.ref a0), some (.int x1), some (.ref a2), some (.int x3), none] []) {G : Gt} {a0 : Nat} {x1 : Int32} {a2 : Nat} {x3 : Int32} (h : wX6_isBarred_2 X Pr Px k2 G a0 x1 a2 x3) : WM X K (QM X K G0 (rI Pr) Px) G 2 [some (.ref a0), some (.int x1), some (.ref a2), some (.int x3), none] [] := by
  obtain ⟨hL, C, E0, hr, hnm, hex, hfl⟩ := id B
  unfold wX6_isBarred_2 at h
  refine r_iload_n C 3 dX6_isBarred_2 rfl rfl ?_
  refine r_iload_n C 1 dX6_isBarred_3 rfl rfl ?_
  refine r_icmp_ge C 80 dX6_isBarred_4 (by decide) (fun c => ?_) (fun c => ?_)
  · replace h := h.1 c
    refine r_iconst C 0 dX6_isBarred_80 (by decide) ?_
    exact r_zret C E0 hr (Or.inl rfl) ⟨_, rfl, h⟩ dX6_isBarred_81
  · replace h := h.2 c
    refine r_aloadR_n C 0 dX6_isBarred_7 rfl rfl ?_
    obtain ⟨ht, h⟩ := h
    obtain ⟨b41, hb, h⟩ := h
    refine r_getR C fw_RX6_12 rfl ht hb dX6_isBarred_8 ?_
    refine r_iload_n C 3 dX6_isBarred_11 rfl rfl ?_
    obtain ⟨ht, h⟩ := h
    refine r_callV C (r := (RJx4a65c, TJx4a65c, 3)) hL yw_Jx4a65c_get_915e3 vw_RX6_43 rfl rfl ht rfl rfl (Nat.le_of_ble_eq_true rfl) ⟨(Nat.le_of_ble_eq_true rfl), (Nat.le_of_ble_eq_true rfl)⟩ (mJx4a65c_get_915e3 hfl h) rfl dX6_isBarred_12 (kA' (fun r42 G43 h => ?_)) (kO C E0 hex)
    obtain ⟨b44, hb, ht, h⟩ := h
    subst hb
    refine r_cast C (r := (RX8, TX8, 11)) rfl cl_RX6_47 ht dX6_isBarred_15 ?_
    refine r_astoreR C (lv' := [some (.ref a0), some (.int x1), some (.ref a2), some (.int x3), some (.ref b44)]) dX6_isBarred_18 (Nat.le_of_ble_eq_true rfl) rfl rfl ?_
    refine r_aloadR C dX6_isBarred_20 rfl ?_
    obtain ⟨ht, h⟩ := h
    refine r_getI C fw_RX6_65 rfl ht dX6_isBarred_22 ?_
    refine r_if_ne C 74 dX6_isBarred_25 (by decide) (fun c => ?_) (fun c => ?_)
    · replace h := h.1 c
      refine r_iinc C 1 (lv' := [some (.ref a0), some (.int x1), some (.ref a2), some (.int (x3 + 1)), some (.ref b44)]) dX6_isBarred_74 rfl (by decide) rfl rfl ?_
      refine r_goto C 2 dX6_isBarred_77 (by decide) ?_
      refine r_fg (lv' := [some (.ref a0), some (.int x1), some (.ref a2), some (.int (x3 + 1)), none]) (show fgt _ _ from ⟨rfl, ⟨rfl, ⟨rfl, ⟨rfl, trivial⟩⟩⟩⟩) ?_
      exact hk2 _ _ _ _ _ h
    · replace h := h.2 c
      refine r_aloadR C dX6_isBarred_28 rfl ?_
      obtain ⟨ht, h⟩ := h
      refine r_getI C fw_RX6_52 rfl ht dX6_isBarred_30 ?_
      refine r_aloadR_n C 0 dX6_isBarred_33 rfl rfl ?_
      obtain ⟨ht, h⟩ := h
      refine r_getI C fw_RX6_26 rfl ht dX6_isBarred_34 ?_
      refine r_icmp_ne C 74 dX6_isBarred_37 (by decide) (fun c => ?_) (fun c => ?_)
      · replace h := h.1 c
        refine r_iinc C 1 (lv' := [some (.ref a0), some (.int x1), some (.ref a2), some (.int (x3 + 1)), some (.ref b44)]) dX6_isBarred_74 rfl (by decide) rfl rfl ?_
        refine r_goto C 2 dX6_isBarred_77 (by decide) ?_
        refine r_fg (lv' := [some (.ref a0), some (.int x1), some (.ref a2), some (.int (x3 + 1)), none]) (show fgt _ _ from ⟨rfl, ⟨rfl, ⟨rfl, ⟨rfl, trivial⟩⟩⟩⟩) ?_
        exact hk2 _ _ _ _ _ h
      · replace h := h.2 c
        refine r_aloadR_n C 0 dX6_isBarred_40 rfl rfl ?_
        refine r_iload_n C 3 dX6_isBarred_41 rfl rfl ?_
        obtain ⟨ht, h⟩ := h
        refine r_callV C (r := (RX6, TX6, 7)) hL yw_X6_isMember vw_RX6_100 rfl rfl ht rfl rfl (Nat.le_of_ble_eq_true rfl) ⟨(Nat.le_of_ble_eq_true rfl), (Nat.le_of_ble_eq_true rfl)⟩ (mX6_isMember hfl h) rfl dX6_isBarred_42 (kI (fun r125 G126 h => ?_)) kN
        refine r_if_ne C 74 dX6_isBarred_45 (by decide) (fun c => ?_) (fun c => ?_)
        · replace h := h.1 c
          refine r_iinc C 1 (lv' := [some (.ref a0), some (.int x1), some (.ref a2), some (.int (x3 + 1)), some (.ref b44)]) dX6_isBarred_74 rfl (by decide) rfl rfl ?_
          refine r_goto C 2 dX6_isBarred_77 (by decide) ?_
          refine r_fg (lv' := [some (.ref a0), some (.int x1), some (.ref a2), some (.int (x3 + 1)), none]) (show fgt _ _ from ⟨rfl, ⟨rfl, ⟨rfl, ⟨rfl, trivial⟩⟩⟩⟩) ?_
          exact hk2 _ _ _ _ _ h
        · replace h := h.2 c
          refine r_aloadR C dX6_isBarred_48 rfl ?_
          refine r_aloadR_n C 2 dX6_isBarred_50 rfl rfl ?_
          obtain ⟨ht, h⟩ := h
          refine r_callV C (r := (RX8, TX8, 11)) hL yw_X8_overlaps vw_RX6_104 rfl rfl ht rfl rfl (Nat.le_of_ble_eq_true rfl) ⟨(Nat.le_of_ble_eq_true rfl), (Nat.le_of_ble_eq_true rfl)⟩ (mX8_overlaps hfl h) rfl dX6_isBarred_51 (kI (fun r167 G168 h => ?_)) kN
          refine r_if_eq C 74 dX6_isBarred_54 (by decide) (fun c => ?_) (fun c => ?_)
          · replace h := h.1 c
            refine r_iinc C 1 (lv' := [some (.ref a0), some (.int x1), some (.ref a2), some (.int (x3 + 1)), some (.ref b44)]) dX6_isBarred_74 rfl (by decide) rfl rfl ?_
            refine r_goto C 2 dX6_isBarred_77 (by decide) ?_
            refine r_fg (lv' := [some (.ref a0), some (.int x1), some (.ref a2), some (.int (x3 + 1)), none]) (show fgt _ _ from ⟨rfl, ⟨rfl, ⟨rfl, ⟨rfl, trivial⟩⟩⟩⟩) ?_
            exact hk2 _ _ _ _ _ h
          · replace h := h.2 c
            refine r_aloadR C dX6_isBarred_57 rfl ?_
            obtain ⟨ht, h⟩ := h
            refine r_getI C fw_RX6_57 rfl ht dX6_isBarred_59 ?_
            refine r_if_ne C 72 dX6_isBarred_62 (by decide) (fun c => ?_) (fun c => ?_)
            · replace h := h.1 c
              refine r_iconst C 1 dX6_isBarred_72 (by decide) ?_
              exact r_zret C E0 hr (Or.inr rfl) ⟨_, rfl, h⟩ dX6_isBarred_73
            · replace h := h.2 c
              refine r_aloadR_n C 2 dX6_isBarred_65 rfl rfl ?_
              obtain ⟨ht, h⟩ := h
              refine r_getI C fw_RX6_57 rfl ht dX6_isBarred_66 ?_
              refine r_if_eq C 74 dX6_isBarred_69 (by decide) (fun c => ?_) (fun c => ?_)
              · replace h := h.1 c
                refine r_iinc C 1 (lv' := [some (.ref a0), some (.int x1), some (.ref a2), some (.int (x3 + 1)), some (.ref b44)]) dX6_isBarred_74 rfl (by decide) rfl rfl ?_
                refine r_goto C 2 dX6_isBarred_77 (by decide) ?_
                refine r_fg (lv' := [some (.ref a0), some (.int x1), some (.ref a2), some (.int (x3 + 1)), none]) (show fgt _ _ from ⟨rfl, ⟨rfl, ⟨rfl, ⟨rfl, trivial⟩⟩⟩⟩) ?_
                exact hk2 _ _ _ _ _ h
              · replace h := h.2 c
                refine r_iconst C 1 dX6_isBarred_72 (by decide) ?_
                exact r_zret C E0 hr (Or.inr rfl) ⟨_, rfl, h⟩ dX6_isBarred_73
theorem lX6_isBarred_2 {X : Xt} {K : Kt} {l : Launch} {G0 : Gt} {Pr : Int32 → Gt → Prop} {Px : String → Gt → Prop} (B : BX X K l cX6_isBarred 5 RX6 3 64 G0 (some (.boolean)) "isBarred") (I : Gt → Nat → Int32 → Nat → Int32 → Prop) (μ : Gt → Nat → Int32 → Nat → Int32 → Nat) (hS : ∀ (G : Gt) (a0 : Nat) (x1 : Int32) (a2 : Nat) (x3 : Int32), I G a0 x1 a2 x3 → wX6_isBarred_2 X Pr Px (fun G' a0' x1' a2' x3' => I G' a0' x1' a2' x3' ∧ μ G' a0' x1' a2' x3' < μ G a0 x1 a2 x3) G a0 x1 a2 x3) : ∀ (n : Nat) (G : Gt) (a0 : Nat) (x1 : Int32) (a2 : Nat) (x3 : Int32), μ G a0 x1 a2 x3 < n → I G a0 x1 a2 x3 → WM X K (QM X K G0 (rI Pr) Px) G 2 [some (.ref a0), some (.int x1), some (.ref a2), some (.int x3), none] [] := by
  intro n
  induction n with
  | zero => intro G a0 x1 a2 x3 hm; exact absurd hm (Nat.not_lt_zero _)
  | succ n ih =>
    intro G a0 x1 a2 x3 hm hi
    exact bX6_isBarred_2 B (fun G' a0' x1' a2' x3' hk => ih G' a0' x1' a2' x3' (Nat.lt_of_lt_of_le hk.2 (Nat.le_of_lt_succ hm)) hk.1) (hS G a0 x1 a2 x3 hi)
def wX6_isBarred (X : Xt) (G : Gt) (a0 : Nat) (x1 : Int32) (a2 : Nat) (Pr : Int32 → Gt → Prop) (Px : String → Gt → Prop) : Prop := ∃ (I : Gt → Nat → Int32 → Nat → Int32 → Prop) (μ : Gt → Nat → Int32 → Nat → Int32 → Nat), I G a0 x1 a2 (0 : Int32) ∧ ∀ (G : Gt) (a0 : Nat) (x1 : Int32) (a2 : Nat) (x3 : Int32), I G a0 x1 a2 x3 → wX6_isBarred_2 X Pr Px (fun G' a0' x1' a2' x3' => I G' a0' x1' a2' x3' ∧ μ G' a0' x1' a2' x3' < μ G a0 x1 a2 x3) G a0 x1 a2 x3
set_option maxRecDepth 20000 in
theorem mX6_isBarred {X : Xt} {l : Launch} (hfl : l.stackTraces = false) {G : Gt} {a0 : Nat} {x1 : Int32} {a2 : Nat} {Pr : Int32 → Gt → Prop} {Px : String → Gt → Prop} (h : wX6_isBarred X G a0 x1 a2 Pr Px) : Mc X l yX6_isBarred (.code yX6_isBarred cX6_isBarred 5 (some (.boolean))) 3 64 [.ref a0, .int x1, .ref a2] G (rI Pr) Px := by
  refine Mc.of (by decide +kernel) hfl [some (.ref a0), some (.int x1), some (.ref a2), none, none] rfl (Nat.le_of_ble_eq_true rfl) rfl ?_
  intro K hL C E0 hr hnm hex
  have B : BX X K l cX6_isBarred 5 RX6 3 64 G (some (.boolean)) "isBarred" := ⟨hL, C, E0, hr, hnm, hex, hfl⟩
  have C : Cx X K cX6_isBarred 5 RX6 3 64 := C
  unfold wX6_isBarred at h
  refine r_iconst C 0 dX6_isBarred_0 (by decide) ?_
  refine r_istore_n C 3 (lv' := [some (.ref a0), some (.int x1), some (.ref a2), some (.int 0), none]) dX6_isBarred_1 rfl (Nat.le_of_ble_eq_true rfl) rfl rfl ?_
  obtain ⟨I, μ, hI, hS⟩ := h
  exact lX6_isBarred_2 B I μ hS _ _ _ _ _ _ (Nat.lt_succ_self _) hI
def wX6_gather_7 (X : Xt) (Pr : Gt → Prop) (Px : String → Gt → Prop) (k7 : Gt → Nat → Int32 → Prop) (G : Gt) (a0 : Nat) (x1 : Int32) : Prop := gT G a0 = (1, 7) ∧ ∃ b1, gR G 224 a0 = some b1 ∧ gT G b1 = (1, 0) ∧ wJx4a65c_size_8abf5 X G b1 (fun r2 G3 => (r2 ≤ x1 → Pr G3) ∧ (¬ (r2 ≤ x1) → gT G3 a0 = (1, 7) ∧ ∃ b44, gR G3 224 a0 = some b44 ∧ gT G3 b44 = (1, 0) ∧ wJx4a65c_get_915e3 X G3 b44 x1 (fun r45 G46 => ∃ b47, r45 = some b47 ∧ gT G46 b47 = (1, 9) ∧ gT G46 a0 = (1, 7) ∧ wX6_fitsBeside X G46 a0 b47 (fun r48 G49 => (r48 = 0 → k7 G49 a0 (x1 + 1)) ∧ (¬ (r48 = 0) → gT G49 a0 = (1, 7) ∧ wX6_isBarred X G49 a0 x1 b47 (fun r90 G91 => (¬ r90 = 0 → k7 G91 a0 (x1 + 1)) ∧ (r90 = 0 → gT G91 a0 = (1, 7) ∧ gT G91 a0 = (1, 7) ∧ ∀ G132, G132 = sJ G91 225 a0 ((gJ G91 225 a0) ||| ((1 : Int64) <<< ((x1 : Int32).toInt64 &&& 63))) → gT G132 a0 = (1, 7) ∧ gT G132 b47 = (1, 9) ∧ wJ9_min_7cf53 X G132 (gI G132 229 a0) (gI G132 290 b47) (fun r133 G134 => gT G134 a0 = (1, 7) ∧ ∀ G135, G135 = sI G134 229 a0 r133 → gT G135 a0 = (1, 7) ∧ gT G135 b47 = (1, 9) ∧ wJ9_max_7cf53 X G135 (gI G135 230 a0) (gI G135 292 b47) (fun r136 G137 => gT G137 a0 = (1, 7) ∧ ∀ G138, G138 = sI G137 230 a0 r136 → k7 G138 a0 (x1 + 1))))) Px))) Px))
set_option maxRecDepth 20000 in
theorem bX6_gather_7 {X : Xt} {K : Kt} {l : Launch} {G0 : Gt} {Pr : Gt → Prop} {Px : String → Gt → Prop} (B : BX X K l cX6_gather 3 RX6 4 88 G0 none "gather") {k7 : Gt → Nat → Int32 → Prop} (hk7 : ∀ (G : Gt) (a0 : Nat) (x1 : Int32), k7 G a0 x1 → WM X K (QM X K G0 (rV Pr) Px) G 7 [some (.ref a0), some (.int x1), none] []) {G : Gt} {a0 : Nat} {x1 : Int32} (h : wX6_gather_7 X Pr Px k7 G a0 x1) : WM X K (QM X K G0 (rV Pr) Px) G 7 [some (.ref a0), some (.int x1), none] [] := by
  obtain ⟨hL, C, E0, hr, hnm, hex, hfl⟩ := id B
  unfold wX6_gather_7 at h
  refine r_iload_n C 1 dX6_gather_7 rfl rfl ?_
  refine r_aloadR_n C 0 dX6_gather_8 rfl rfl ?_
  obtain ⟨ht, h⟩ := h
  obtain ⟨b1, hb, h⟩ := h
  refine r_getR C fw_RX6_12 rfl ht hb dX6_gather_9 ?_
  obtain ⟨ht, h⟩ := h
  refine r_callV C (r := (RJx4a65c, TJx4a65c, 3)) hL yw_Jx4a65c_size_8abf5 vw_RX6_39 rfl rfl ht rfl rfl (Nat.le_of_ble_eq_true rfl) ⟨(Nat.le_of_ble_eq_true rfl), (Nat.le_of_ble_eq_true rfl)⟩ (mJx4a65c_size_8abf5 hfl h) rfl dX6_gather_12 (kI (fun r2 G3 h => ?_)) kN
  refine r_icmp_ge C 95 dX6_gather_15 (by decide) (fun c => ?_) (fun c => ?_)
  · replace h := h.1 c
    exact r_vret C E0 hr ⟨rfl, h⟩ dX6_gather_95
  · replace h := h.2 c
    refine r_aloadR_n C 0 dX6_gather_18 rfl rfl ?_
    obtain ⟨ht, h⟩ := h
    obtain ⟨b44, hb, h⟩ := h
    refine r_getR C fw_RX6_12 rfl ht hb dX6_gather_19 ?_
    refine r_iload_n C 1 dX6_gather_22 rfl rfl ?_
    obtain ⟨ht, h⟩ := h
    refine r_callV C (r := (RJx4a65c, TJx4a65c, 3)) hL yw_Jx4a65c_get_915e3 vw_RX6_43 rfl rfl ht rfl rfl (Nat.le_of_ble_eq_true rfl) ⟨(Nat.le_of_ble_eq_true rfl), (Nat.le_of_ble_eq_true rfl)⟩ (mJx4a65c_get_915e3 hfl h) rfl dX6_gather_23 (kA' (fun r45 G46 h => ?_)) (kO C E0 hex)
    obtain ⟨b47, hb, ht, h⟩ := h
    subst hb
    refine r_cast C (r := (RX8, TX8, 11)) rfl cl_RX6_47 ht dX6_gather_26 ?_
    refine r_astoreR_n C 2 (lv' := [some (.ref a0), some (.int x1), some (.ref b47)]) dX6_gather_29 rfl (Nat.le_of_ble_eq_true rfl) rfl rfl ?_
    refine r_aloadR_n C 0 dX6_gather_30 rfl rfl ?_
    refine r_aloadR_n C 2 dX6_gather_31 rfl rfl ?_
    obtain ⟨ht, h⟩ := h
    refine r_callV C (r := (RX6, TX6, 7)) hL yw_X6_fitsBeside vw_RX6_83 rfl rfl ht rfl rfl (Nat.le_of_ble_eq_true rfl) ⟨(Nat.le_of_ble_eq_true rfl), (Nat.le_of_ble_eq_true rfl)⟩ (mX6_fitsBeside hfl h) rfl dX6_gather_32 (kI (fun r48 G49 h => ?_)) kN
    refine r_if_eq C 89 dX6_gather_35 (by decide) (fun c => ?_) (fun c => ?_)
    · replace h := h.1 c
      refine r_iinc C 1 (lv' := [some (.ref a0), some (.int (x1 + 1)), some (.ref b47)]) dX6_gather_89 rfl (by decide) rfl rfl ?_
      refine r_goto C 7 dX6_gather_92 (by decide) ?_
      refine r_fg (lv' := [some (.ref a0), some (.int (x1 + 1)), none]) (show fgt _ _ from ⟨rfl, ⟨rfl, trivial⟩⟩) ?_
      exact hk7 _ _ _ h
    · replace h := h.2 c
      refine r_aloadR_n C 0 dX6_gather_38 rfl rfl ?_
      refine r_iload_n C 1 dX6_gather_39 rfl rfl ?_
      refine r_aloadR_n C 2 dX6_gather_40 rfl rfl ?_
      obtain ⟨ht, h⟩ := h
      refine r_callV C (r := (RX6, TX6, 7)) hL yw_X6_isBarred vw_RX6_87 rfl rfl ht rfl rfl (Nat.le_of_ble_eq_true rfl) ⟨(Nat.le_of_ble_eq_true rfl), (Nat.le_of_ble_eq_true rfl)⟩ (mX6_isBarred hfl h) rfl dX6_gather_41 (kI (fun r90 G91 h => ?_)) (kO C E0 hex)
      refine r_if_ne C 89 dX6_gather_44 (by decide) (fun c => ?_) (fun c => ?_)
      · replace h := h.1 c
        refine r_iinc C 1 (lv' := [some (.ref a0), some (.int (x1 + 1)), some (.ref b47)]) dX6_gather_89 rfl (by decide) rfl rfl ?_
        refine r_goto C 7 dX6_gather_92 (by decide) ?_
        refine r_fg (lv' := [some (.ref a0), some (.int (x1 + 1)), none]) (show fgt _ _ from ⟨rfl, ⟨rfl, trivial⟩⟩) ?_
        exact hk7 _ _ _ h
      · replace h := h.2 c
        refine r_aloadR_n C 0 dX6_gather_47 rfl rfl ?_
        refine r_dup C dX6_gather_48 rfl ?_
        obtain ⟨ht, h⟩ := h
        refine r_getJ C fw_RX6_18 rfl ht dX6_gather_49 ?_
        refine r_lconst C 1 dX6_gather_52 (by decide) ?_
        refine r_iload_n C 1 dX6_gather_53 rfl rfl ?_
        refine r_lshl C dX6_gather_54 ?_
        refine r_lor C dX6_gather_55 ?_
        obtain ⟨ht, h⟩ := h
        refine r_putJ C cw_7 fp_RX6_18 rfl ht dX6_gather_56 ?_
        refine r_nm (fun G132 hG132 => ?_)
        replace h := h G132 hG132
        refine r_aloadR_n C 0 dX6_gather_59 rfl rfl ?_
        refine r_aloadR_n C 0 dX6_gather_60 rfl rfl ?_
        obtain ⟨ht, h⟩ := h
        refine r_getI C fw_RX6_33 rfl ht dX6_gather_61 ?_
        refine r_aloadR_n C 2 dX6_gather_64 rfl rfl ?_
        obtain ⟨ht, h⟩ := h
        refine r_getI C fw_RX6_53 rfl ht dX6_gather_65 ?_
        refine r_callS C hL yw_J9_min_7cf53 sw_RX6_91 rfl rfl (Nat.le_of_ble_eq_true rfl) ⟨(Nat.le_of_ble_eq_true rfl), (Nat.le_of_ble_eq_true rfl)⟩ (mJ9_min_7cf53 hfl h) rfl dX6_gather_68 (kI (fun r133 G134 h => ?_)) kN
        obtain ⟨ht, h⟩ := h
        refine r_putI C cw_7 fp_RX6_33 rfl ht dX6_gather_71 ?_
        refine r_nm (fun G135 hG135 => ?_)
        replace h := h G135 hG135
        refine r_aloadR_n C 0 dX6_gather_74 rfl rfl ?_
        refine r_aloadR_n C 0 dX6_gather_75 rfl rfl ?_
        obtain ⟨ht, h⟩ := h
        refine r_getI C fw_RX6_36 rfl ht dX6_gather_76 ?_
        refine r_aloadR_n C 2 dX6_gather_79 rfl rfl ?_
        obtain ⟨ht, h⟩ := h
        refine r_getI C fw_RX6_82 rfl ht dX6_gather_80 ?_
        refine r_callS C hL yw_J9_max_7cf53 sw_RX6_97 rfl rfl (Nat.le_of_ble_eq_true rfl) ⟨(Nat.le_of_ble_eq_true rfl), (Nat.le_of_ble_eq_true rfl)⟩ (mJ9_max_7cf53 hfl h) rfl dX6_gather_83 (kI (fun r136 G137 h => ?_)) kN
        obtain ⟨ht, h⟩ := h
        refine r_putI C cw_7 fp_RX6_36 rfl ht dX6_gather_86 ?_
        refine r_nm (fun G138 hG138 => ?_)
        replace h := h G138 hG138
        refine r_iinc C 1 (lv' := [some (.ref a0), some (.int (x1 + 1)), some (.ref b47)]) dX6_gather_89 rfl (by decide) rfl rfl ?_
        refine r_goto C 7 dX6_gather_92 (by decide) ?_
        refine r_fg (lv' := [some (.ref a0), some (.int (x1 + 1)), none]) (show fgt _ _ from ⟨rfl, ⟨rfl, trivial⟩⟩) ?_
        exact hk7 _ _ _ h
theorem lX6_gather_7 {X : Xt} {K : Kt} {l : Launch} {G0 : Gt} {Pr : Gt → Prop} {Px : String → Gt → Prop} (B : BX X K l cX6_gather 3 RX6 4 88 G0 none "gather") (I : Gt → Nat → Int32 → Prop) (μ : Gt → Nat → Int32 → Nat) (hS : ∀ (G : Gt) (a0 : Nat) (x1 : Int32), I G a0 x1 → wX6_gather_7 X Pr Px (fun G' a0' x1' => I G' a0' x1' ∧ μ G' a0' x1' < μ G a0 x1) G a0 x1) : ∀ (n : Nat) (G : Gt) (a0 : Nat) (x1 : Int32), μ G a0 x1 < n → I G a0 x1 → WM X K (QM X K G0 (rV Pr) Px) G 7 [some (.ref a0), some (.int x1), none] [] := by
  intro n
  induction n with
  | zero => intro G a0 x1 hm; exact absurd hm (Nat.not_lt_zero _)
  | succ n ih =>
    intro G a0 x1 hm hi
    exact bX6_gather_7 B (fun G' a0' x1' hk => ih G' a0' x1' (Nat.lt_of_lt_of_le hk.2 (Nat.le_of_lt_succ hm)) hk.1) (hS G a0 x1 hi)
def wX6_gather (X : Xt) (G : Gt) (a0 : Nat) (Pr : Gt → Prop) (Px : String → Gt → Prop) : Prop := gT G a0 = (1, 7) ∧ ∃ (I : Gt → Nat → Int32 → Prop) (μ : Gt → Nat → Int32 → Nat), I G a0 ((gI G 226 a0) + 1) ∧ ∀ (G : Gt) (a0 : Nat) (x1 : Int32), I G a0 x1 → wX6_gather_7 X Pr Px (fun G' a0' x1' => I G' a0' x1' ∧ μ G' a0' x1' < μ G a0 x1) G a0 x1
set_option maxRecDepth 20000 in
theorem mX6_gather {X : Xt} {l : Launch} (hfl : l.stackTraces = false) {G : Gt} {a0 : Nat} {Pr : Gt → Prop} {Px : String → Gt → Prop} (h : wX6_gather X G a0 Pr Px) : Mc X l yX6_gather (.code yX6_gather cX6_gather 3 none) 4 88 [.ref a0] G (rV Pr) Px := by
  refine Mc.of (by decide +kernel) hfl [some (.ref a0), none, none] rfl (Nat.le_of_ble_eq_true rfl) rfl ?_
  intro K hL C E0 hr hnm hex
  have B : BX X K l cX6_gather 3 RX6 4 88 G none "gather" := ⟨hL, C, E0, hr, hnm, hex, hfl⟩
  have C : Cx X K cX6_gather 3 RX6 4 88 := C
  unfold wX6_gather at h
  refine r_aloadR_n C 0 dX6_gather_0 rfl rfl ?_
  obtain ⟨ht, h⟩ := h
  refine r_getI C fw_RX6_22 rfl ht dX6_gather_1 ?_
  refine r_iconst C 1 dX6_gather_4 (by decide) ?_
  refine r_iadd C dX6_gather_5 ?_
  refine r_istore_n C 1 (lv' := [some (.ref a0), some (.int ((gI G 226 a0) + 1)), none]) dX6_gather_6 rfl (Nat.le_of_ble_eq_true rfl) rfl rfl ?_
  obtain ⟨I, μ, hI, hS⟩ := h
  exact lX6_gather_7 B I μ hS _ _ _ _ (Nat.lt_succ_self _) hI
def wX6_width (X : Xt) (G : Gt) (a0 : Nat) (Pr : Int32 → Gt → Prop) : Prop := gT G a0 = (1, 7) ∧ gT G a0 = (1, 7) ∧ Pr ((gI G 230 a0) - (gI G 229 a0)) G
set_option maxRecDepth 20000 in
theorem mX6_width {X : Xt} {l : Launch} (hfl : l.stackTraces = false) {G : Gt} {a0 : Nat} {Pr : Int32 → Gt → Prop} (h : wX6_width X G a0 Pr) : Mc X l yX6_width (.code yX6_width cX6_width 1 (some (.int))) 0 0 [.ref a0] G (rI Pr) noX := by
  refine Mc.of (by decide +kernel) hfl [some (.ref a0)] rfl (Nat.le_of_ble_eq_true rfl) rfl ?_
  intro K hL C E0 hr hnm hex
  have B : BX X K l cX6_width 1 RX6 0 0 G (some (.int)) "width" := ⟨hL, C, E0, hr, hnm, hex, hfl⟩
  have C : Cx X K cX6_width 1 RX6 0 0 := C
  unfold wX6_width at h
  refine r_aloadR_n C 0 dX6_width_0 rfl rfl ?_
  obtain ⟨ht, h⟩ := h
  refine r_getI C fw_RX6_36 rfl ht dX6_width_1 ?_
  refine r_aloadR_n C 0 dX6_width_4 rfl rfl ?_
  obtain ⟨ht, h⟩ := h
  refine r_getI C fw_RX6_33 rfl ht dX6_width_5 ?_
  refine r_isub C dX6_width_8 ?_
  exact r_iret C E0 hr ⟨_, rfl, h⟩ dX6_width_9
def wX3_putByte (X : Xt) (G : Gt) (a0 : Nat) (x1 : Int32) (Pr : Gt → Prop) : Prop := gT G a0 = (1, 4) ∧ (37 ≤ (gI G 129 a0) → Pr G) ∧ (¬ (37 ≤ (gI G 129 a0)) → gT G a0 = (1, 4) ∧ ∃ b41, gR G 128 a0 = some b41 ∧ gT G a0 = (1, 4) ∧ (gT G b41).1 = 2 ∧ vp_in (gI G 129 a0) (gT G b41).2 ∧ ∀ G42, G42 = sA G b41 (upd (gA G b41) (gI G 129 a0).toNatClampNeg (x1 &&& 255)) → gT G42 a0 = (1, 4) ∧ gT G42 a0 = (1, 4) ∧ ∀ G43, G43 = sI G42 129 a0 ((gI G42 129 a0) + 1) → Pr G43)
set_option maxRecDepth 20000 in
theorem mX3_putByte {X : Xt} {l : Launch} (hfl : l.stackTraces = false) {G : Gt} {a0 : Nat} {x1 : Int32} {Pr : Gt → Prop} (h : wX3_putByte X G a0 x1 Pr) : Mc X l yX3_putByte (.code yX3_putByte cX3_putByte 2 none) 0 0 [.ref a0, .int x1] G (rV Pr) noX := by
  refine Mc.of (by decide +kernel) hfl [some (.ref a0), some (.int x1)] rfl (Nat.le_of_ble_eq_true rfl) rfl ?_
  intro K hL C E0 hr hnm hex
  have B : BX X K l cX3_putByte 2 RX3 0 0 G none "putByte" := ⟨hL, C, E0, hr, hnm, hex, hfl⟩
  have C : Cx X K cX3_putByte 2 RX3 0 0 := C
  unfold wX3_putByte at h
  refine r_aloadR_n C 0 dX3_putByte_0 rfl rfl ?_
  obtain ⟨ht, h⟩ := h
  refine r_getI C fw_RX3_15 rfl ht dX3_putByte_1 ?_
  refine r_bipush C 37 dX3_putByte_4 (by decide) ?_
  refine r_icmp_ge C 33 dX3_putByte_6 (by decide) (fun c => ?_) (fun c => ?_)
  · replace h := h.1 c
    exact r_vret C E0 hr ⟨rfl, h⟩ dX3_putByte_33
  · replace h := h.2 c
    refine r_aloadR_n C 0 dX3_putByte_9 rfl rfl ?_
    obtain ⟨ht, h⟩ := h
    obtain ⟨b41, hb, h⟩ := h
    refine r_getR C fw_RX3_9 rfl ht hb dX3_putByte_10 ?_
    refine r_aloadR_n C 0 dX3_putByte_13 rfl rfl ?_
    obtain ⟨ht, h⟩ := h
    refine r_getI C fw_RX3_15 rfl ht dX3_putByte_14 ?_
    refine r_iload_n C 1 dX3_putByte_17 rfl rfl ?_
    refine r_sipush C 255 dX3_putByte_18 (by decide) ?_
    refine r_iand C dX3_putByte_21 ?_
    obtain ⟨ht, hi, h⟩ := h
    refine r_iastP C ht hi dX3_putByte_22 ?_
    refine r_nm (fun G42 hG42 => ?_)
    replace h := h G42 hG42
    refine r_aloadR_n C 0 dX3_putByte_23 rfl rfl ?_
    refine r_dup C dX3_putByte_24 rfl ?_
    obtain ⟨ht, h⟩ := h
    refine r_getI C fw_RX3_15 rfl ht dX3_putByte_25 ?_
    refine r_iconst C 1 dX3_putByte_28 (by decide) ?_
    refine r_iadd C dX3_putByte_29 ?_
    obtain ⟨ht, h⟩ := h
    refine r_putI C cw_4 fp_RX3_15 rfl ht dX3_putByte_30 ?_
    refine r_nm (fun G43 hG43 => ?_)
    replace h := h G43 hG43
    exact r_vret C E0 hr ⟨rfl, h⟩ dX3_putByte_33
def wX3_open (X : Xt) (G : Gt) (a0 : Nat) (x1 : Int32) (x2 : Int32) (Pr : Gt → Prop) : Prop := gT G a0 = (1, 4) ∧ ∀ G1, G1 = sI G 129 a0 0 → gT G1 a0 = (1, 4) ∧ wX3_putByte X G1 a0 x1 (fun G2 => gT G2 a0 = (1, 4) ∧ wX3_putByte X G2 a0 x2 (fun G3 => Pr G3))
set_option maxRecDepth 20000 in
theorem mX3_open {X : Xt} {l : Launch} (hfl : l.stackTraces = false) {G : Gt} {a0 : Nat} {x1 : Int32} {x2 : Int32} {Pr : Gt → Prop} (h : wX3_open X G a0 x1 x2 Pr) : Mc X l yX3_open (.code yX3_open cX3_open 3 none) 1 21 [.ref a0, .int x1, .int x2] G (rV Pr) noX := by
  refine Mc.of (by decide +kernel) hfl [some (.ref a0), some (.int x1), some (.int x2)] rfl (Nat.le_of_ble_eq_true rfl) rfl ?_
  intro K hL C E0 hr hnm hex
  have B : BX X K l cX3_open 3 RX3 1 21 G none "open" := ⟨hL, C, E0, hr, hnm, hex, hfl⟩
  have C : Cx X K cX3_open 3 RX3 1 21 := C
  unfold wX3_open at h
  refine r_aloadR_n C 0 dX3_open_0 rfl rfl ?_
  refine r_iconst C 0 dX3_open_1 (by decide) ?_
  obtain ⟨ht, h⟩ := h
  refine r_putI C cw_4 fp_RX3_15 rfl ht dX3_open_2 ?_
  refine r_nm (fun G1 hG1 => ?_)
  replace h := h G1 hG1
  refine r_aloadR_n C 0 dX3_open_5 rfl rfl ?_
  refine r_iload_n C 1 dX3_open_6 rfl rfl ?_
  obtain ⟨ht, h⟩ := h
  refine r_callV C (r := (RX3, TX3, 2)) hL yw_X3_putByte vw_RX3_25 rfl rfl ht rfl rfl (Nat.le_of_ble_eq_true rfl) ⟨(Nat.le_of_ble_eq_true rfl), (Nat.le_of_ble_eq_true rfl)⟩ (mX3_putByte hfl h) rfl dX3_open_7 (kV' (fun G2 h => ?_)) kN
  refine r_aloadR_n C 0 dX3_open_10 rfl rfl ?_
  refine r_iload_n C 2 dX3_open_11 rfl rfl ?_
  obtain ⟨ht, h⟩ := h
  refine r_callV C (r := (RX3, TX3, 2)) hL yw_X3_putByte vw_RX3_25 rfl rfl ht rfl rfl (Nat.le_of_ble_eq_true rfl) ⟨(Nat.le_of_ble_eq_true rfl), (Nat.le_of_ble_eq_true rfl)⟩ (mX3_putByte hfl h) rfl dX3_open_12 (kV' (fun G3 h => ?_)) kN
  exact r_vret C E0 hr ⟨rfl, h⟩ dX3_open_15
def wX3_putWord (X : Xt) (G : Gt) (a0 : Nat) (x1 : Int32) (Pr : Gt → Prop) : Prop := gT G a0 = (1, 4) ∧ wX3_putByte X G a0 (x1 >>> (8 &&& 31)) (fun G1 => gT G1 a0 = (1, 4) ∧ wX3_putByte X G1 a0 x1 (fun G2 => Pr G2))
set_option maxRecDepth 20000 in
theorem mX3_putWord {X : Xt} {l : Launch} (hfl : l.stackTraces = false) {G : Gt} {a0 : Nat} {x1 : Int32} {Pr : Gt → Prop} (h : wX3_putWord X G a0 x1 Pr) : Mc X l yX3_putWord (.code yX3_putWord cX3_putWord 2 none) 1 21 [.ref a0, .int x1] G (rV Pr) noX := by
  refine Mc.of (by decide +kernel) hfl [some (.ref a0), some (.int x1)] rfl (Nat.le_of_ble_eq_true rfl) rfl ?_
  intro K hL C E0 hr hnm hex
  have B : BX X K l cX3_putWord 2 RX3 1 21 G none "putWord" := ⟨hL, C, E0, hr, hnm, hex, hfl⟩
  have C : Cx X K cX3_putWord 2 RX3 1 21 := C
  unfold wX3_putWord at h
  refine r_aloadR_n C 0 dX3_putWord_0 rfl rfl ?_
  refine r_iload_n C 1 dX3_putWord_1 rfl rfl ?_
  refine r_bipush C 8 dX3_putWord_2 (by decide) ?_
  refine r_ishr C dX3_putWord_4 ?_
  obtain ⟨ht, h⟩ := h
  refine r_callV C (r := (RX3, TX3, 2)) hL yw_X3_putByte vw_RX3_25 rfl rfl ht rfl rfl (Nat.le_of_ble_eq_true rfl) ⟨(Nat.le_of_ble_eq_true rfl), (Nat.le_of_ble_eq_true rfl)⟩ (mX3_putByte hfl h) rfl dX3_putWord_5 (kV' (fun G1 h => ?_)) kN
  refine r_aloadR_n C 0 dX3_putWord_8 rfl rfl ?_
  refine r_iload_n C 1 dX3_putWord_9 rfl rfl ?_
  obtain ⟨ht, h⟩ := h
  refine r_callV C (r := (RX3, TX3, 2)) hL yw_X3_putByte vw_RX3_25 rfl rfl ht rfl rfl (Nat.le_of_ble_eq_true rfl) ⟨(Nat.le_of_ble_eq_true rfl), (Nat.le_of_ble_eq_true rfl)⟩ (mX3_putByte hfl h) rfl dX3_putWord_10 (kV' (fun G2 h => ?_)) kN
  exact r_vret C E0 hr ⟨rfl, h⟩ dX3_putWord_13
def wX6_valueToWrite_10 (X : Xt) (Pr : Int32 → Gt → Prop) (Px : String → Gt → Prop) (k10 : Gt → Nat → Int32 → Int32 → Prop) (G : Gt) (a0 : Nat) (x1 : Int32) (x2 : Int32) : Prop := gT G a0 = (1, 7) ∧ (x2 < (gI G 226 a0) → Pr 0 G) ∧ (¬ (x2 < (gI G 226 a0)) → gT G a0 = (1, 7) ∧ ∃ b41, gR G 224 a0 = some b41 ∧ gT G b41 = (1, 0) ∧ wJx4a65c_get_915e3 X G b41 x2 (fun r42 G43 => ∃ b44, r42 = some b44 ∧ gT G43 b44 = (1, 9) ∧ gT G43 a0 = (1, 7) ∧ wX6_isMember X G43 a0 x2 (fun r45 G46 => (r45 = 0 → k10 G46 a0 x1 (x2 + (-1))) ∧ (¬ (r45 = 0) → gT G46 b44 = (1, 9) ∧ (¬ (gI G46 290 b44) = x1 → k10 G46 a0 x1 (x2 + (-1))) ∧ ((gI G46 290 b44) = x1 → gT G46 b44 = (1, 9) ∧ ∃ b127, gR G46 294 b44 = some b127 ∧ (gT G46 b127).1 = 2 ∧ vp_in 0 (gT G46 b127).2 ∧ Pr (gA G46 b127 (0 : Int32).toNatClampNeg) G46)))) Px)
set_option maxRecDepth 20000 in
theorem bX6_valueToWrite_10 {X : Xt} {K : Kt} {l : Launch} {G0 : Gt} {Pr : Int32 → Gt → Prop} {Px : String → Gt → Prop} (B : BX X K l cX6_valueToWrite 4 RX6 3 64 G0 (some (.int)) "valueToWrite") {k10 : Gt → Nat → Int32 → Int32 → Prop} (hk10 : ∀ (G : Gt) (a0 : Nat) (x1 : Int32) (x2 : Int32), k10 G a0 x1 x2 → WM X K (QM X K G0 (rI Pr) Px) G 10 [some (.ref a0), some (.int x1), some (.int x2), none] []) {G : Gt} {a0 : Nat} {x1 : Int32} {x2 : Int32} (h : wX6_valueToWrite_10 X Pr Px k10 G a0 x1 x2) : WM X K (QM X K G0 (rI Pr) Px) G 10 [some (.ref a0), some (.int x1), some (.int x2), none] [] := by
  obtain ⟨hL, C, E0, hr, hnm, hex, hfl⟩ := id B
  unfold wX6_valueToWrite_10 at h
  refine r_iload_n C 2 dX6_valueToWrite_10 rfl rfl ?_
  refine r_aloadR_n C 0 dX6_valueToWrite_11 rfl rfl ?_
  obtain ⟨ht, h⟩ := h
  refine r_getI C fw_RX6_22 rfl ht dX6_valueToWrite_12 ?_
  refine r_icmp_lt C 59 dX6_valueToWrite_15 (by decide) (fun c => ?_) (fun c => ?_)
  · replace h := h.1 c
    refine r_iconst C 0 dX6_valueToWrite_59 (by decide) ?_
    exact r_iret C E0 hr ⟨_, rfl, h⟩ dX6_valueToWrite_60
  · replace h := h.2 c
    refine r_aloadR_n C 0 dX6_valueToWrite_18 rfl rfl ?_
    obtain ⟨ht, h⟩ := h
    obtain ⟨b41, hb, h⟩ := h
    refine r_getR C fw_RX6_12 rfl ht hb dX6_valueToWrite_19 ?_
    refine r_iload_n C 2 dX6_valueToWrite_22 rfl rfl ?_
    obtain ⟨ht, h⟩ := h
    refine r_callV C (r := (RJx4a65c, TJx4a65c, 3)) hL yw_Jx4a65c_get_915e3 vw_RX6_43 rfl rfl ht rfl rfl (Nat.le_of_ble_eq_true rfl) ⟨(Nat.le_of_ble_eq_true rfl), (Nat.le_of_ble_eq_true rfl)⟩ (mJx4a65c_get_915e3 hfl h) rfl dX6_valueToWrite_23 (kA' (fun r42 G43 h => ?_)) (kO C E0 hex)
    obtain ⟨b44, hb, ht, h⟩ := h
    subst hb
    refine r_cast C (r := (RX8, TX8, 11)) rfl cl_RX6_47 ht dX6_valueToWrite_26 ?_
    refine r_astoreR_n C 3 (lv' := [some (.ref a0), some (.int x1), some (.int x2), some (.ref b44)]) dX6_valueToWrite_29 rfl (Nat.le_of_ble_eq_true rfl) rfl rfl ?_
    refine r_aloadR_n C 0 dX6_valueToWrite_30 rfl rfl ?_
    refine r_iload_n C 2 dX6_valueToWrite_31 rfl rfl ?_
    obtain ⟨ht, h⟩ := h
    refine r_callV C (r := (RX6, TX6, 7)) hL yw_X6_isMember vw_RX6_100 rfl rfl ht rfl rfl (Nat.le_of_ble_eq_true rfl) ⟨(Nat.le_of_ble_eq_true rfl), (Nat.le_of_ble_eq_true rfl)⟩ (mX6_isMember hfl h) rfl dX6_valueToWrite_32 (kI (fun r45 G46 h => ?_)) kN
    refine r_if_eq C 53 dX6_valueToWrite_35 (by decide) (fun c => ?_) (fun c => ?_)
    · replace h := h.1 c
      refine r_iinc C (-1) (lv' := [some (.ref a0), some (.int x1), some (.int (x2 + (-1))), some (.ref b44)]) dX6_valueToWrite_53 rfl (by decide) rfl rfl ?_
      refine r_goto C 10 dX6_valueToWrite_56 (by decide) ?_
      refine r_fg (lv' := [some (.ref a0), some (.int x1), some (.int (x2 + (-1))), none]) (show fgt _ _ from ⟨rfl, ⟨rfl, ⟨rfl, trivial⟩⟩⟩) ?_
      exact hk10 _ _ _ _ h
    · replace h := h.2 c
      refine r_aloadR_n C 3 dX6_valueToWrite_38 rfl rfl ?_
      obtain ⟨ht, h⟩ := h
      refine r_getI C fw_RX6_53 rfl ht dX6_valueToWrite_39 ?_
      refine r_iload_n C 1 dX6_valueToWrite_42 rfl rfl ?_
      refine r_icmp_ne C 53 dX6_valueToWrite_43 (by decide) (fun c => ?_) (fun c => ?_)
      · replace h := h.1 c
        refine r_iinc C (-1) (lv' := [some (.ref a0), some (.int x1), some (.int (x2 + (-1))), some (.ref b44)]) dX6_valueToWrite_53 rfl (by decide) rfl rfl ?_
        refine r_goto C 10 dX6_valueToWrite_56 (by decide) ?_
        refine r_fg (lv' := [some (.ref a0), some (.int x1), some (.int (x2 + (-1))), none]) (show fgt _ _ from ⟨rfl, ⟨rfl, ⟨rfl, trivial⟩⟩⟩) ?_
        exact hk10 _ _ _ _ h
      · replace h := h.2 c
        refine r_aloadR_n C 3 dX6_valueToWrite_46 rfl rfl ?_
        obtain ⟨ht, h⟩ := h
        obtain ⟨b127, hb, h⟩ := h
        refine r_getR C fw_RX6_78 rfl ht hb dX6_valueToWrite_47 ?_
        refine r_iconst C 0 dX6_valueToWrite_50 (by decide) ?_
        obtain ⟨ht, hi, h⟩ := h
        refine r_ialdP C ht hi dX6_valueToWrite_51 ?_
        exact r_iret C E0 hr ⟨_, rfl, h⟩ dX6_valueToWrite_52
theorem lX6_valueToWrite_10 {X : Xt} {K : Kt} {l : Launch} {G0 : Gt} {Pr : Int32 → Gt → Prop} {Px : String → Gt → Prop} (B : BX X K l cX6_valueToWrite 4 RX6 3 64 G0 (some (.int)) "valueToWrite") (I : Gt → Nat → Int32 → Int32 → Prop) (μ : Gt → Nat → Int32 → Int32 → Nat) (hS : ∀ (G : Gt) (a0 : Nat) (x1 : Int32) (x2 : Int32), I G a0 x1 x2 → wX6_valueToWrite_10 X Pr Px (fun G' a0' x1' x2' => I G' a0' x1' x2' ∧ μ G' a0' x1' x2' < μ G a0 x1 x2) G a0 x1 x2) : ∀ (n : Nat) (G : Gt) (a0 : Nat) (x1 : Int32) (x2 : Int32), μ G a0 x1 x2 < n → I G a0 x1 x2 → WM X K (QM X K G0 (rI Pr) Px) G 10 [some (.ref a0), some (.int x1), some (.int x2), none] [] := by
  intro n
  induction n with
  | zero => intro G a0 x1 x2 hm; exact absurd hm (Nat.not_lt_zero _)
  | succ n ih =>
    intro G a0 x1 x2 hm hi
    exact bX6_valueToWrite_10 B (fun G' a0' x1' x2' hk => ih G' a0' x1' x2' (Nat.lt_of_lt_of_le hk.2 (Nat.le_of_lt_succ hm)) hk.1) (hS G a0 x1 x2 hi)
def wX6_valueToWrite (X : Xt) (G : Gt) (a0 : Nat) (x1 : Int32) (Pr : Int32 → Gt → Prop) (Px : String → Gt → Prop) : Prop := gT G a0 = (1, 7) ∧ ∃ b1, gR G 224 a0 = some b1 ∧ gT G b1 = (1, 0) ∧ wJx4a65c_size_8abf5 X G b1 (fun r2 G3 => ∃ (I : Gt → Nat → Int32 → Int32 → Prop) (μ : Gt → Nat → Int32 → Int32 → Nat), I G3 a0 x1 (r2 - 1) ∧ ∀ (G : Gt) (a0 : Nat) (x1 : Int32) (x2 : Int32), I G a0 x1 x2 → wX6_valueToWrite_10 X Pr Px (fun G' a0' x1' x2' => I G' a0' x1' x2' ∧ μ G' a0' x1' x2' < μ G a0 x1 x2) G a0 x1 x2)
set_option maxRecDepth 20000 in
theorem mX6_valueToWrite {X : Xt} {l : Launch} (hfl : l.stackTraces = false) {G : Gt} {a0 : Nat} {x1 : Int32} {Pr : Int32 → Gt → Prop} {Px : String → Gt → Prop} (h : wX6_valueToWrite X G a0 x1 Pr Px) : Mc X l yX6_valueToWrite (.code yX6_valueToWrite cX6_valueToWrite 4 (some (.int))) 3 64 [.ref a0, .int x1] G (rI Pr) Px := by
  refine Mc.of (by decide +kernel) hfl [some (.ref a0), some (.int x1), none, none] rfl (Nat.le_of_ble_eq_true rfl) rfl ?_
  intro K hL C E0 hr hnm hex
  have B : BX X K l cX6_valueToWrite 4 RX6 3 64 G (some (.int)) "valueToWrite" := ⟨hL, C, E0, hr, hnm, hex, hfl⟩
  have C : Cx X K cX6_valueToWrite 4 RX6 3 64 := C
  unfold wX6_valueToWrite at h
  refine r_aloadR_n C 0 dX6_valueToWrite_0 rfl rfl ?_
  obtain ⟨ht, h⟩ := h
  obtain ⟨b1, hb, h⟩ := h
  refine r_getR C fw_RX6_12 rfl ht hb dX6_valueToWrite_1 ?_
  obtain ⟨ht, h⟩ := h
  refine r_callV C (r := (RJx4a65c, TJx4a65c, 3)) hL yw_Jx4a65c_size_8abf5 vw_RX6_39 rfl rfl ht rfl rfl (Nat.le_of_ble_eq_true rfl) ⟨(Nat.le_of_ble_eq_true rfl), (Nat.le_of_ble_eq_true rfl)⟩ (mJx4a65c_size_8abf5 hfl h) rfl dX6_valueToWrite_4 (kI (fun r2 G3 h => ?_)) kN
  refine r_iconst C 1 dX6_valueToWrite_7 (by decide) ?_
  refine r_isub C dX6_valueToWrite_8 ?_
  refine r_istore_n C 2 (lv' := [some (.ref a0), some (.int x1), some (.int (r2 - 1)), none]) dX6_valueToWrite_9 rfl (Nat.le_of_ble_eq_true rfl) rfl rfl ?_
  obtain ⟨I, μ, hI, hS⟩ := h
  exact lX6_valueToWrite_10 B I μ hS _ _ _ _ _ (Nat.lt_succ_self _) hI
def wX1_buildWriteFrame_79 (X : Xt) (Pr : Gt → Prop) (Px : String → Gt → Prop) (k79 : Gt → Nat → Int32 → Prop) (G : Gt) (a0 : Nat) (x2 : Int32) : Prop := gT G a0 = (1, 2) ∧ ∃ b1, gR G 68 a0 = some b1 ∧ gT G b1 = (1, 7) ∧ ((gI G 230 b1) ≤ x2 → Pr G) ∧ (¬ ((gI G 230 b1) ≤ x2) → gT G a0 = (1, 2) ∧ ∃ b42, gR G 70 a0 = some b42 ∧ gT G a0 = (1, 2) ∧ ∃ b43, gR G 68 a0 = some b43 ∧ gT G b43 = (1, 7) ∧ wX6_valueToWrite X G b43 x2 (fun r44 G45 => gT G45 b42 = (1, 4) ∧ wX3_putWord X G45 b42 r44 (fun G46 => k79 G46 a0 (x2 + 1))) Px)
set_option maxRecDepth 20000 in
theorem bX1_buildWriteFrame_79 {X : Xt} {K : Kt} {l : Launch} {G0 : Gt} {Pr : Gt → Prop} {Px : String → Gt → Prop} (B : BX X K l cX1_buildWriteFrame 3 RX1 4 87 G0 none "buildWriteFrame") {k79 : Gt → Nat → Int32 → Prop} (hk79 : ∀ (G : Gt) (a0 : Nat) (x2 : Int32), k79 G a0 x2 → WM X K (QM X K G0 (rV Pr) Px) G 79 [some (.ref a0), none, some (.int x2)] []) {G : Gt} {a0 : Nat} {x2 : Int32} (h : wX1_buildWriteFrame_79 X Pr Px k79 G a0 x2) : WM X K (QM X K G0 (rV Pr) Px) G 79 [some (.ref a0), none, some (.int x2)] [] := by
  obtain ⟨hL, C, E0, hr, hnm, hex, hfl⟩ := id B
  unfold wX1_buildWriteFrame_79 at h
  refine r_iload_n C 2 dX1_buildWriteFrame_79 rfl rfl ?_
  refine r_aloadR_n C 0 dX1_buildWriteFrame_80 rfl rfl ?_
  obtain ⟨ht, h⟩ := h
  obtain ⟨b1, hb, h⟩ := h
  refine r_getR C fw_RX1_35 rfl ht hb dX1_buildWriteFrame_81 ?_
  obtain ⟨ht, h⟩ := h
  refine r_getI C fw_RX1_142 rfl ht dX1_buildWriteFrame_84 ?_
  refine r_icmp_ge C 111 dX1_buildWriteFrame_87 (by decide) (fun c => ?_) (fun c => ?_)
  · replace h := h.1 c
    exact r_vret C E0 hr ⟨rfl, h⟩ dX1_buildWriteFrame_111
  · replace h := h.2 c
    refine r_aloadR_n C 0 dX1_buildWriteFrame_90 rfl rfl ?_
    obtain ⟨ht, h⟩ := h
    obtain ⟨b42, hb, h⟩ := h
    refine r_getR C fw_RX1_49 rfl ht hb dX1_buildWriteFrame_91 ?_
    refine r_aloadR_n C 0 dX1_buildWriteFrame_94 rfl rfl ?_
    obtain ⟨ht, h⟩ := h
    obtain ⟨b43, hb, h⟩ := h
    refine r_getR C fw_RX1_35 rfl ht hb dX1_buildWriteFrame_95 ?_
    refine r_iload_n C 2 dX1_buildWriteFrame_98 rfl rfl ?_
    obtain ⟨ht, h⟩ := h
    refine r_callV C (r := (RX6, TX6, 7)) hL yw_X6_valueToWrite vw_RX1_143 rfl rfl ht rfl rfl (Nat.le_of_ble_eq_true rfl) ⟨(Nat.le_of_ble_eq_true rfl), (Nat.le_of_ble_eq_true rfl)⟩ (mX6_valueToWrite hfl h) rfl dX1_buildWriteFrame_99 (kI (fun r44 G45 h => ?_)) (kO C E0 hex)
    obtain ⟨ht, h⟩ := h
    refine r_callV C (r := (RX3, TX3, 2)) hL yw_X3_putWord vw_RX1_116 rfl rfl ht rfl rfl (Nat.le_of_ble_eq_true rfl) ⟨(Nat.le_of_ble_eq_true rfl), (Nat.le_of_ble_eq_true rfl)⟩ (mX3_putWord hfl h) rfl dX1_buildWriteFrame_102 (kV' (fun G46 h => ?_)) kN
    refine r_iinc C 1 (lv' := [some (.ref a0), none, some (.int (x2 + 1))]) dX1_buildWriteFrame_105 rfl (by decide) rfl rfl ?_
    refine r_goto C 79 dX1_buildWriteFrame_108 (by decide) ?_
    exact hk79 _ _ _ h
theorem lX1_buildWriteFrame_79 {X : Xt} {K : Kt} {l : Launch} {G0 : Gt} {Pr : Gt → Prop} {Px : String → Gt → Prop} (B : BX X K l cX1_buildWriteFrame 3 RX1 4 87 G0 none "buildWriteFrame") (I : Gt → Nat → Int32 → Prop) (μ : Gt → Nat → Int32 → Nat) (hS : ∀ (G : Gt) (a0 : Nat) (x2 : Int32), I G a0 x2 → wX1_buildWriteFrame_79 X Pr Px (fun G' a0' x2' => I G' a0' x2' ∧ μ G' a0' x2' < μ G a0 x2) G a0 x2) : ∀ (n : Nat) (G : Gt) (a0 : Nat) (x2 : Int32), μ G a0 x2 < n → I G a0 x2 → WM X K (QM X K G0 (rV Pr) Px) G 79 [some (.ref a0), none, some (.int x2)] [] := by
  intro n
  induction n with
  | zero => intro G a0 x2 hm; exact absurd hm (Nat.not_lt_zero _)
  | succ n ih =>
    intro G a0 x2 hm hi
    exact bX1_buildWriteFrame_79 B (fun G' a0' x2' hk => ih G' a0' x2' (Nat.lt_of_lt_of_le hk.2 (Nat.le_of_lt_succ hm)) hk.1) (hS G a0 x2 hi)
def wX1_buildWriteFrame_31 (X : Xt) (Pr : Gt → Prop) (Px : String → Gt → Prop) (G : Gt) (a0 : Nat) (x1 : Int32) (sa0 : Nat) (sx1 : Int32) (sx2 : Int32) : Prop := gT G sa0 = (1, 4) ∧ wX3_open X G sa0 sx1 sx2 (fun G1 => gT G1 a0 = (1, 2) ∧ ∃ b2, gR G1 70 a0 = some b2 ∧ gT G1 a0 = (1, 2) ∧ ∃ b3, gR G1 68 a0 = some b3 ∧ gT G1 b3 = (1, 7) ∧ gT G1 b2 = (1, 4) ∧ wX3_putWord X G1 b2 (gI G1 229 b3) (fun G4 => (x1 ≤ 1 → gT G4 a0 = (1, 2) ∧ ∃ b25, gR G4 68 a0 = some b25 ∧ gT G4 b25 = (1, 7) ∧ ∃ (I : Gt → Nat → Int32 → Prop) (μ : Gt → Nat → Int32 → Nat), I G4 a0 (gI G4 229 b25) ∧ ∀ (G : Gt) (a0 : Nat) (x2 : Int32), I G a0 x2 → wX1_buildWriteFrame_79 X Pr Px (fun G' a0' x2' => I G' a0' x2' ∧ μ G' a0' x2' < μ G a0 x2) G a0 x2) ∧ (¬ (x1 ≤ 1) → gT G4 a0 = (1, 2) ∧ ∃ b45, gR G4 70 a0 = some b45 ∧ gT G4 b45 = (1, 4) ∧ wX3_putWord X G4 b45 x1 (fun G46 => gT G46 a0 = (1, 2) ∧ ∃ b47, gR G46 70 a0 = some b47 ∧ gT G46 b47 = (1, 4) ∧ wX3_putByte X G46 b47 (2 * x1) (fun G48 => gT G48 a0 = (1, 2) ∧ ∃ b49, gR G48 68 a0 = some b49 ∧ gT G48 b49 = (1, 7) ∧ ∃ (I : Gt → Nat → Int32 → Prop) (μ : Gt → Nat → Int32 → Nat), I G48 a0 (gI G48 229 b49) ∧ ∀ (G : Gt) (a0 : Nat) (x2 : Int32), I G a0 x2 → wX1_buildWriteFrame_79 X Pr Px (fun G' a0' x2' => I G' a0' x2' ∧ μ G' a0' x2' < μ G a0 x2) G a0 x2)))))
set_option maxRecDepth 20000 in
theorem bX1_buildWriteFrame_31 {X : Xt} {K : Kt} {l : Launch} {G0 : Gt} {Pr : Gt → Prop} {Px : String → Gt → Prop} (B : BX X K l cX1_buildWriteFrame 3 RX1 4 87 G0 none "buildWriteFrame") {G : Gt} {a0 : Nat} {x1 : Int32} {sa0 : Nat} {sx1 : Int32} {sx2 : Int32} (h : wX1_buildWriteFrame_31 X Pr Px G a0 x1 sa0 sx1 sx2) : WM X K (QM X K G0 (rV Pr) Px) G 31 [some (.ref a0), some (.int x1), none] [.int sx2, .int sx1, .ref sa0] := by
  obtain ⟨hL, C, E0, hr, hnm, hex, hfl⟩ := id B
  unfold wX1_buildWriteFrame_31 at h
  obtain ⟨ht, h⟩ := h
  refine r_callV C (r := (RX3, TX3, 2)) hL yw_X3_open vw_RX1_109 rfl rfl ht rfl rfl (Nat.le_of_ble_eq_true rfl) ⟨(Nat.le_of_ble_eq_true rfl), (Nat.le_of_ble_eq_true rfl)⟩ (mX3_open hfl h) rfl dX1_buildWriteFrame_31 (kV' (fun G1 h => ?_)) kN
  refine r_aloadR_n C 0 dX1_buildWriteFrame_34 rfl rfl ?_
  obtain ⟨ht, h⟩ := h
  obtain ⟨b2, hb, h⟩ := h
  refine r_getR C fw_RX1_49 rfl ht hb dX1_buildWriteFrame_35 ?_
  refine r_aloadR_n C 0 dX1_buildWriteFrame_38 rfl rfl ?_
  obtain ⟨ht, h⟩ := h
  obtain ⟨b3, hb, h⟩ := h
  refine r_getR C fw_RX1_35 rfl ht hb dX1_buildWriteFrame_39 ?_
  obtain ⟨ht, h⟩ := h
  refine r_getI C fw_RX1_113 rfl ht dX1_buildWriteFrame_42 ?_
  obtain ⟨ht, h⟩ := h
  refine r_callV C (r := (RX3, TX3, 2)) hL yw_X3_putWord vw_RX1_116 rfl rfl ht rfl rfl (Nat.le_of_ble_eq_true rfl) ⟨(Nat.le_of_ble_eq_true rfl), (Nat.le_of_ble_eq_true rfl)⟩ (mX3_putWord hfl h) rfl dX1_buildWriteFrame_45 (kV' (fun G4 h => ?_)) kN
  refine r_iload_n C 1 dX1_buildWriteFrame_48 rfl rfl ?_
  refine r_iconst C 1 dX1_buildWriteFrame_49 (by decide) ?_
  refine r_icmp_le C 71 dX1_buildWriteFrame_50 (by decide) (fun c => ?_) (fun c => ?_)
  · replace h := h.1 c
    refine r_aloadR_n C 0 dX1_buildWriteFrame_71 rfl rfl ?_
    obtain ⟨ht, h⟩ := h
    obtain ⟨b25, hb, h⟩ := h
    refine r_getR C fw_RX1_35 rfl ht hb dX1_buildWriteFrame_72 ?_
    obtain ⟨ht, h⟩ := h
    refine r_getI C fw_RX1_113 rfl ht dX1_buildWriteFrame_75 ?_
    refine r_istore_n C 2 (lv' := [some (.ref a0), some (.int x1), some (.int (gI G4 229 b25))]) dX1_buildWriteFrame_78 rfl (Nat.le_of_ble_eq_true rfl) rfl rfl ?_
    refine r_fg (lv' := [some (.ref a0), none, some (.int (gI G4 229 b25))]) (show fgt _ _ from ⟨rfl, ⟨rfl, trivial⟩⟩) ?_
    obtain ⟨I, μ, hI, hS⟩ := h
    exact lX1_buildWriteFrame_79 B I μ hS _ _ _ _ (Nat.lt_succ_self _) hI
  · replace h := h.2 c
    refine r_aloadR_n C 0 dX1_buildWriteFrame_53 rfl rfl ?_
    obtain ⟨ht, h⟩ := h
    obtain ⟨b45, hb, h⟩ := h
    refine r_getR C fw_RX1_49 rfl ht hb dX1_buildWriteFrame_54 ?_
    refine r_iload_n C 1 dX1_buildWriteFrame_57 rfl rfl ?_
    obtain ⟨ht, h⟩ := h
    refine r_callV C (r := (RX3, TX3, 2)) hL yw_X3_putWord vw_RX1_116 rfl rfl ht rfl rfl (Nat.le_of_ble_eq_true rfl) ⟨(Nat.le_of_ble_eq_true rfl), (Nat.le_of_ble_eq_true rfl)⟩ (mX3_putWord hfl h) rfl dX1_buildWriteFrame_58 (kV' (fun G46 h => ?_)) kN
    refine r_aloadR_n C 0 dX1_buildWriteFrame_61 rfl rfl ?_
    obtain ⟨ht, h⟩ := h
    obtain ⟨b47, hb, h⟩ := h
    refine r_getR C fw_RX1_49 rfl ht hb dX1_buildWriteFrame_62 ?_
    refine r_iconst C 2 dX1_buildWriteFrame_65 (by decide) ?_
    refine r_iload_n C 1 dX1_buildWriteFrame_66 rfl rfl ?_
    refine r_imul C dX1_buildWriteFrame_67 ?_
    obtain ⟨ht, h⟩ := h
    refine r_callV C (r := (RX3, TX3, 2)) hL yw_X3_putByte vw_RX1_139 rfl rfl ht rfl rfl (Nat.le_of_ble_eq_true rfl) ⟨(Nat.le_of_ble_eq_true rfl), (Nat.le_of_ble_eq_true rfl)⟩ (mX3_putByte hfl h) rfl dX1_buildWriteFrame_68 (kV' (fun G48 h => ?_)) kN
    refine r_aloadR_n C 0 dX1_buildWriteFrame_71 rfl rfl ?_
    obtain ⟨ht, h⟩ := h
    obtain ⟨b49, hb, h⟩ := h
    refine r_getR C fw_RX1_35 rfl ht hb dX1_buildWriteFrame_72 ?_
    obtain ⟨ht, h⟩ := h
    refine r_getI C fw_RX1_113 rfl ht dX1_buildWriteFrame_75 ?_
    refine r_istore_n C 2 (lv' := [some (.ref a0), some (.int x1), some (.int (gI G48 229 b49))]) dX1_buildWriteFrame_78 rfl (Nat.le_of_ble_eq_true rfl) rfl rfl ?_
    refine r_fg (lv' := [some (.ref a0), none, some (.int (gI G48 229 b49))]) (show fgt _ _ from ⟨rfl, ⟨rfl, trivial⟩⟩) ?_
    obtain ⟨I, μ, hI, hS⟩ := h
    exact lX1_buildWriteFrame_79 B I μ hS _ _ _ _ (Nat.lt_succ_self _) hI
def wX1_buildWriteFrame (X : Xt) (G : Gt) (a0 : Nat) (Pr : Gt → Prop) (Px : String → Gt → Prop) : Prop := gT G a0 = (1, 2) ∧ ∃ b1, gR G 68 a0 = some b1 ∧ gT G b1 = (1, 7) ∧ wX6_width X G b1 (fun r2 G3 => gT G3 a0 = (1, 2) ∧ ∃ b4, gR G3 70 a0 = some b4 ∧ gT G3 a0 = (1, 2) ∧ ∃ b5, gR G3 68 a0 = some b5 ∧ gT G3 b5 = (1, 7) ∧ (¬ r2 = 1 → wX1_buildWriteFrame_31 X Pr Px G3 a0 r2 b4 (gI G3 227 b5) (16 : Int32)) ∧ (r2 = 1 → wX1_buildWriteFrame_31 X Pr Px G3 a0 r2 b4 (gI G3 227 b5) (6 : Int32)))
set_option maxRecDepth 20000 in
theorem mX1_buildWriteFrame {X : Xt} {l : Launch} (hfl : l.stackTraces = false) {G : Gt} {a0 : Nat} {Pr : Gt → Prop} {Px : String → Gt → Prop} (h : wX1_buildWriteFrame X G a0 Pr Px) : Mc X l yX1_buildWriteFrame (.code yX1_buildWriteFrame cX1_buildWriteFrame 3 none) 4 87 [.ref a0] G (rV Pr) Px := by
  refine Mc.of (by decide +kernel) hfl [some (.ref a0), none, none] rfl (Nat.le_of_ble_eq_true rfl) rfl ?_
  intro K hL C E0 hr hnm hex
  have B : BX X K l cX1_buildWriteFrame 3 RX1 4 87 G none "buildWriteFrame" := ⟨hL, C, E0, hr, hnm, hex, hfl⟩
  have C : Cx X K cX1_buildWriteFrame 3 RX1 4 87 := C
  unfold wX1_buildWriteFrame at h
  refine r_aloadR_n C 0 dX1_buildWriteFrame_0 rfl rfl ?_
  obtain ⟨ht, h⟩ := h
  obtain ⟨b1, hb, h⟩ := h
  refine r_getR C fw_RX1_35 rfl ht hb dX1_buildWriteFrame_1 ?_
  obtain ⟨ht, h⟩ := h
  refine r_callV C (r := (RX6, TX6, 7)) hL yw_X6_width vw_RX1_120 rfl rfl ht rfl rfl (Nat.le_of_ble_eq_true rfl) ⟨(Nat.le_of_ble_eq_true rfl), (Nat.le_of_ble_eq_true rfl)⟩ (mX6_width hfl h) rfl dX1_buildWriteFrame_4 (kI (fun r2 G3 h => ?_)) kN
  refine r_istore_n C 1 (lv' := [some (.ref a0), some (.int r2), none]) dX1_buildWriteFrame_7 rfl (Nat.le_of_ble_eq_true rfl) rfl rfl ?_
  refine r_aloadR_n C 0 dX1_buildWriteFrame_8 rfl rfl ?_
  obtain ⟨ht, h⟩ := h
  obtain ⟨b4, hb, h⟩ := h
  refine r_getR C fw_RX1_49 rfl ht hb dX1_buildWriteFrame_9 ?_
  refine r_aloadR_n C 0 dX1_buildWriteFrame_12 rfl rfl ?_
  obtain ⟨ht, h⟩ := h
  obtain ⟨b5, hb, h⟩ := h
  refine r_getR C fw_RX1_35 rfl ht hb dX1_buildWriteFrame_13 ?_
  obtain ⟨ht, h⟩ := h
  refine r_getI C fw_RX1_106 rfl ht dX1_buildWriteFrame_16 ?_
  refine r_iload_n C 1 dX1_buildWriteFrame_19 rfl rfl ?_
  refine r_iconst C 1 dX1_buildWriteFrame_20 (by decide) ?_
  refine r_icmp_ne C 29 dX1_buildWriteFrame_21 (by decide) (fun c => ?_) (fun c => ?_)
  · replace h := h.1 c
    refine r_bipush C 16 dX1_buildWriteFrame_29 (by decide) ?_
    exact bX1_buildWriteFrame_31 B h
  · replace h := h.2 c
    refine r_bipush C 6 dX1_buildWriteFrame_24 (by decide) ?_
    refine r_goto C 31 dX1_buildWriteFrame_26 (by decide) ?_
    exact bX1_buildWriteFrame_31 B h
def wX9_nextSum_6 (X : Xt) (Pr : Int32 → Gt → Prop) (k6 : Gt → Int32 → Int32 → Prop) (G : Gt) (x2 : Int32) (x3 : Int32) : Prop := (8 ≤ x3 → Pr x2 G) ∧ (¬ (8 ≤ x3) → (¬ (x2 &&& 1) = 1 → k6 G (x2 >>> (1 &&& 31)) (x3 + 1)) ∧ ((x2 &&& 1) = 1 → k6 G ((x2 >>> (1 &&& 31)) ^^^ 40961) (x3 + 1)))
set_option maxRecDepth 20000 in
theorem bX9_nextSum_6 {X : Xt} {K : Kt} {l : Launch} {G0 : Gt} {Pr : Int32 → Gt → Prop} (B : BX X K l cX9_nextSum 4 RX9 0 0 G0 (some (.int)) "nextSum") {k6 : Gt → Int32 → Int32 → Prop} (hk6 : ∀ (G : Gt) (x2 : Int32) (x3 : Int32), k6 G x2 x3 → WM X K (QM X K G0 (rI Pr) noX) G 6 [none, none, some (.int x2), some (.int x3)] []) {G : Gt} {x2 : Int32} {x3 : Int32} (h : wX9_nextSum_6 X Pr k6 G x2 x3) : WM X K (QM X K G0 (rI Pr) noX) G 6 [none, none, some (.int x2), some (.int x3)] [] := by
  obtain ⟨hL, C, E0, hr, hnm, hex, hfl⟩ := id B
  unfold wX9_nextSum_6 at h
  refine r_iload_n C 3 dX9_nextSum_6 rfl rfl ?_
  refine r_bipush C 8 dX9_nextSum_7 (by decide) ?_
  refine r_icmp_ge C 39 dX9_nextSum_9 (by decide) (fun c => ?_) (fun c => ?_)
  · replace h := h.1 c
    refine r_iload_n C 2 dX9_nextSum_39 rfl rfl ?_
    exact r_iret C E0 hr ⟨_, rfl, h⟩ dX9_nextSum_40
  · replace h := h.2 c
    refine r_iload_n C 2 dX9_nextSum_12 rfl rfl ?_
    refine r_iconst C 1 dX9_nextSum_13 (by decide) ?_
    refine r_iand C dX9_nextSum_14 ?_
    refine r_iconst C 1 dX9_nextSum_15 (by decide) ?_
    refine r_icmp_ne C 29 dX9_nextSum_16 (by decide) (fun c => ?_) (fun c => ?_)
    · replace h := h.1 c
      refine r_iload_n C 2 dX9_nextSum_29 rfl rfl ?_
      refine r_iconst C 1 dX9_nextSum_30 (by decide) ?_
      refine r_ishr C dX9_nextSum_31 ?_
      refine r_istore_n C 2 (lv' := [none, none, some (.int (x2 >>> (1 &&& 31))), some (.int x3)]) dX9_nextSum_32 rfl (Nat.le_of_ble_eq_true rfl) rfl rfl ?_
      refine r_iinc C 1 (lv' := [none, none, some (.int (x2 >>> (1 &&& 31))), some (.int (x3 + 1))]) dX9_nextSum_33 rfl (by decide) rfl rfl ?_
      refine r_goto C 6 dX9_nextSum_36 (by decide) ?_
      exact hk6 _ _ _ h
    · replace h := h.2 c
      refine r_iload_n C 2 dX9_nextSum_19 rfl rfl ?_
      refine r_iconst C 1 dX9_nextSum_20 (by decide) ?_
      refine r_ishr C dX9_nextSum_21 ?_
      refine r_ldcw C kc_RX9_298 dX9_nextSum_22 ?_
      refine r_ixor C dX9_nextSum_25 ?_
      refine r_goto C 32 dX9_nextSum_26 (by decide) ?_
      refine r_istore_n C 2 (lv' := [none, none, some (.int ((x2 >>> (1 &&& 31)) ^^^ 40961)), some (.int x3)]) dX9_nextSum_32 rfl (Nat.le_of_ble_eq_true rfl) rfl rfl ?_
      refine r_iinc C 1 (lv' := [none, none, some (.int ((x2 >>> (1 &&& 31)) ^^^ 40961)), some (.int (x3 + 1))]) dX9_nextSum_33 rfl (by decide) rfl rfl ?_
      refine r_goto C 6 dX9_nextSum_36 (by decide) ?_
      exact hk6 _ _ _ h
theorem lX9_nextSum_6 {X : Xt} {K : Kt} {l : Launch} {G0 : Gt} {Pr : Int32 → Gt → Prop} (B : BX X K l cX9_nextSum 4 RX9 0 0 G0 (some (.int)) "nextSum") (I : Gt → Int32 → Int32 → Prop) (μ : Gt → Int32 → Int32 → Nat) (hS : ∀ (G : Gt) (x2 : Int32) (x3 : Int32), I G x2 x3 → wX9_nextSum_6 X Pr (fun G' x2' x3' => I G' x2' x3' ∧ μ G' x2' x3' < μ G x2 x3) G x2 x3) : ∀ (n : Nat) (G : Gt) (x2 : Int32) (x3 : Int32), μ G x2 x3 < n → I G x2 x3 → WM X K (QM X K G0 (rI Pr) noX) G 6 [none, none, some (.int x2), some (.int x3)] [] := by
  intro n
  induction n with
  | zero => intro G x2 x3 hm; exact absurd hm (Nat.not_lt_zero _)
  | succ n ih =>
    intro G x2 x3 hm hi
    exact bX9_nextSum_6 B (fun G' x2' x3' hk => ih G' x2' x3' (Nat.lt_of_lt_of_le hk.2 (Nat.le_of_lt_succ hm)) hk.1) (hS G x2 x3 hi)
def wX9_nextSum (X : Xt) (G : Gt) (x0 : Int32) (x1 : Int32) (Pr : Int32 → Gt → Prop) : Prop := ∃ (I : Gt → Int32 → Int32 → Prop) (μ : Gt → Int32 → Int32 → Nat), I G (x0 ^^^ x1) (0 : Int32) ∧ ∀ (G : Gt) (x2 : Int32) (x3 : Int32), I G x2 x3 → wX9_nextSum_6 X Pr (fun G' x2' x3' => I G' x2' x3' ∧ μ G' x2' x3' < μ G x2 x3) G x2 x3
set_option maxRecDepth 20000 in
theorem mX9_nextSum {X : Xt} {l : Launch} (hfl : l.stackTraces = false) {G : Gt} {x0 : Int32} {x1 : Int32} {Pr : Int32 → Gt → Prop} (h : wX9_nextSum X G x0 x1 Pr) : Mc X l yX9_nextSum (.code yX9_nextSum cX9_nextSum 4 (some (.int))) 0 0 [.int x0, .int x1] G (rI Pr) noX := by
  refine Mc.of (by decide +kernel) hfl [some (.int x0), some (.int x1), none, none] rfl (Nat.le_of_ble_eq_true rfl) rfl ?_
  intro K hL C E0 hr hnm hex
  have B : BX X K l cX9_nextSum 4 RX9 0 0 G (some (.int)) "nextSum" := ⟨hL, C, E0, hr, hnm, hex, hfl⟩
  have C : Cx X K cX9_nextSum 4 RX9 0 0 := C
  unfold wX9_nextSum at h
  refine r_iload_n C 0 dX9_nextSum_0 rfl rfl ?_
  refine r_iload_n C 1 dX9_nextSum_1 rfl rfl ?_
  refine r_ixor C dX9_nextSum_2 ?_
  refine r_istore_n C 2 (lv' := [some (.int x0), some (.int x1), some (.int (x0 ^^^ x1)), none]) dX9_nextSum_3 rfl (Nat.le_of_ble_eq_true rfl) rfl rfl ?_
  refine r_iconst C 0 dX9_nextSum_4 (by decide) ?_
  refine r_istore_n C 3 (lv' := [some (.int x0), some (.int x1), some (.int (x0 ^^^ x1)), some (.int 0)]) dX9_nextSum_5 rfl (Nat.le_of_ble_eq_true rfl) rfl rfl ?_
  refine r_fg (lv' := [none, none, some (.int (x0 ^^^ x1)), some (.int 0)]) (show fgt _ _ from ⟨rfl, ⟨rfl, trivial⟩⟩) ?_
  obtain ⟨I, μ, hI, hS⟩ := h
  exact lX9_nextSum_6 B I μ hS _ _ _ _ (Nat.lt_succ_self _) hI
def wX3_sumOf_5 (X : Xt) (Pr : Int32 → Gt → Prop) (k5 : Gt → Nat → Int32 → Int32 → Int32 → Prop) (G : Gt) (a0 : Nat) (x1 : Int32) (x2 : Int32) (x3 : Int32) : Prop := (x1 ≤ x3 → Pr x2 G) ∧ (¬ (x1 ≤ x3) → (37 ≤ x3 → Pr x2 G) ∧ (¬ (37 ≤ x3) → gT G a0 = (1, 4) ∧ ∃ b81, gR G 128 a0 = some b81 ∧ (gT G b81).1 = 2 ∧ vp_in x3 (gT G b81).2 ∧ wX9_nextSum X G x2 (gA G b81 x3.toNatClampNeg) (fun r82 G83 => k5 G83 a0 x1 r82 (x3 + 1))))
set_option maxRecDepth 20000 in
theorem bX3_sumOf_5 {X : Xt} {K : Kt} {l : Launch} {G0 : Gt} {Pr : Int32 → Gt → Prop} (B : BX X K l cX3_sumOf 4 RX3 1 23 G0 (some (.int)) "sumOf") {k5 : Gt → Nat → Int32 → Int32 → Int32 → Prop} (hk5 : ∀ (G : Gt) (a0 : Nat) (x1 : Int32) (x2 : Int32) (x3 : Int32), k5 G a0 x1 x2 x3 → WM X K (QM X K G0 (rI Pr) noX) G 5 [some (.ref a0), some (.int x1), some (.int x2), some (.int x3)] []) {G : Gt} {a0 : Nat} {x1 : Int32} {x2 : Int32} {x3 : Int32} (h : wX3_sumOf_5 X Pr k5 G a0 x1 x2 x3) : WM X K (QM X K G0 (rI Pr) noX) G 5 [some (.ref a0), some (.int x1), some (.int x2), some (.int x3)] [] := by
  obtain ⟨hL, C, E0, hr, hnm, hex, hfl⟩ := id B
  unfold wX3_sumOf_5 at h
  refine r_iload_n C 3 dX3_sumOf_5 rfl rfl ?_
  refine r_iload_n C 1 dX3_sumOf_6 rfl rfl ?_
  refine r_icmp_ge C 33 dX3_sumOf_7 (by decide) (fun c => ?_) (fun c => ?_)
  · replace h := h.1 c
    refine r_iload_n C 2 dX3_sumOf_33 rfl rfl ?_
    exact r_iret C E0 hr ⟨_, rfl, h⟩ dX3_sumOf_34
  · replace h := h.2 c
    refine r_iload_n C 3 dX3_sumOf_10 rfl rfl ?_
    refine r_bipush C 37 dX3_sumOf_11 (by decide) ?_
    refine r_icmp_ge C 33 dX3_sumOf_13 (by decide) (fun c => ?_) (fun c => ?_)
    · replace h := h.1 c
      refine r_iload_n C 2 dX3_sumOf_33 rfl rfl ?_
      exact r_iret C E0 hr ⟨_, rfl, h⟩ dX3_sumOf_34
    · replace h := h.2 c
      refine r_iload_n C 2 dX3_sumOf_16 rfl rfl ?_
      refine r_aloadR_n C 0 dX3_sumOf_17 rfl rfl ?_
      obtain ⟨ht, h⟩ := h
      obtain ⟨b81, hb, h⟩ := h
      refine r_getR C fw_RX3_9 rfl ht hb dX3_sumOf_18 ?_
      refine r_iload_n C 3 dX3_sumOf_21 rfl rfl ?_
      obtain ⟨ht, hi, h⟩ := h
      refine r_ialdP C ht hi dX3_sumOf_22 ?_
      refine r_callNS C hL yw_X9_nextSum ns_RX3_34 rfl rfl (Nat.le_of_ble_eq_true rfl) ⟨(Nat.le_of_ble_eq_true rfl), (Nat.le_of_ble_eq_true rfl)⟩ (mX9_nextSum hfl h) rfl dX3_sumOf_23 (kI (fun r82 G83 h => ?_)) kN
      refine r_istore_n C 2 (lv' := [some (.ref a0), some (.int x1), some (.int r82), some (.int x3)]) dX3_sumOf_26 rfl (Nat.le_of_ble_eq_true rfl) rfl rfl ?_
      refine r_iinc C 1 (lv' := [some (.ref a0), some (.int x1), some (.int r82), some (.int (x3 + 1))]) dX3_sumOf_27 rfl (by decide) rfl rfl ?_
      refine r_goto C 5 dX3_sumOf_30 (by decide) ?_
      exact hk5 _ _ _ _ _ h
theorem lX3_sumOf_5 {X : Xt} {K : Kt} {l : Launch} {G0 : Gt} {Pr : Int32 → Gt → Prop} (B : BX X K l cX3_sumOf 4 RX3 1 23 G0 (some (.int)) "sumOf") (I : Gt → Nat → Int32 → Int32 → Int32 → Prop) (μ : Gt → Nat → Int32 → Int32 → Int32 → Nat) (hS : ∀ (G : Gt) (a0 : Nat) (x1 : Int32) (x2 : Int32) (x3 : Int32), I G a0 x1 x2 x3 → wX3_sumOf_5 X Pr (fun G' a0' x1' x2' x3' => I G' a0' x1' x2' x3' ∧ μ G' a0' x1' x2' x3' < μ G a0 x1 x2 x3) G a0 x1 x2 x3) : ∀ (n : Nat) (G : Gt) (a0 : Nat) (x1 : Int32) (x2 : Int32) (x3 : Int32), μ G a0 x1 x2 x3 < n → I G a0 x1 x2 x3 → WM X K (QM X K G0 (rI Pr) noX) G 5 [some (.ref a0), some (.int x1), some (.int x2), some (.int x3)] [] := by
  intro n
  induction n with
  | zero => intro G a0 x1 x2 x3 hm; exact absurd hm (Nat.not_lt_zero _)
  | succ n ih =>
    intro G a0 x1 x2 x3 hm hi
    exact bX3_sumOf_5 B (fun G' a0' x1' x2' x3' hk => ih G' a0' x1' x2' x3' (Nat.lt_of_lt_of_le hk.2 (Nat.le_of_lt_succ hm)) hk.1) (hS G a0 x1 x2 x3 hi)
def wX3_sumOf (X : Xt) (G : Gt) (a0 : Nat) (x1 : Int32) (Pr : Int32 → Gt → Prop) : Prop := ∃ (I : Gt → Nat → Int32 → Int32 → Int32 → Prop) (μ : Gt → Nat → Int32 → Int32 → Int32 → Nat), I G a0 x1 (65535 : Int32) (0 : Int32) ∧ ∀ (G : Gt) (a0 : Nat) (x1 : Int32) (x2 : Int32) (x3 : Int32), I G a0 x1 x2 x3 → wX3_sumOf_5 X Pr (fun G' a0' x1' x2' x3' => I G' a0' x1' x2' x3' ∧ μ G' a0' x1' x2' x3' < μ G a0 x1 x2 x3) G a0 x1 x2 x3
set_option maxRecDepth 20000 in
theorem mX3_sumOf {X : Xt} {l : Launch} (hfl : l.stackTraces = false) {G : Gt} {a0 : Nat} {x1 : Int32} {Pr : Int32 → Gt → Prop} (h : wX3_sumOf X G a0 x1 Pr) : Mc X l yX3_sumOf (.code yX3_sumOf cX3_sumOf 4 (some (.int))) 1 23 [.ref a0, .int x1] G (rI Pr) noX := by
  refine Mc.of (by decide +kernel) hfl [some (.ref a0), some (.int x1), none, none] rfl (Nat.le_of_ble_eq_true rfl) rfl ?_
  intro K hL C E0 hr hnm hex
  have B : BX X K l cX3_sumOf 4 RX3 1 23 G (some (.int)) "sumOf" := ⟨hL, C, E0, hr, hnm, hex, hfl⟩
  have C : Cx X K cX3_sumOf 4 RX3 1 23 := C
  unfold wX3_sumOf at h
  refine r_ldc C kc_RX3_33 dX3_sumOf_0 ?_
  refine r_istore_n C 2 (lv' := [some (.ref a0), some (.int x1), some (.int 65535), none]) dX3_sumOf_2 rfl (Nat.le_of_ble_eq_true rfl) rfl rfl ?_
  refine r_iconst C 0 dX3_sumOf_3 (by decide) ?_
  refine r_istore_n C 3 (lv' := [some (.ref a0), some (.int x1), some (.int 65535), some (.int 0)]) dX3_sumOf_4 rfl (Nat.le_of_ble_eq_true rfl) rfl rfl ?_
  obtain ⟨I, μ, hI, hS⟩ := h
  exact lX3_sumOf_5 B I μ hS _ _ _ _ _ _ (Nat.lt_succ_self _) hI
def wX3_seal (X : Xt) (G : Gt) (a0 : Nat) (Pr : Gt → Prop) : Prop := gT G a0 = (1, 4) ∧ gT G a0 = (1, 4) ∧ wX3_sumOf X G a0 (gI G 129 a0) (fun r1 G2 => gT G2 a0 = (1, 4) ∧ wX3_putByte X G2 a0 r1 (fun G3 => gT G3 a0 = (1, 4) ∧ wX3_putByte X G3 a0 (r1 >>> (8 &&& 31)) (fun G4 => Pr G4)))
set_option maxRecDepth 20000 in
theorem mX3_seal {X : Xt} {l : Launch} (hfl : l.stackTraces = false) {G : Gt} {a0 : Nat} {Pr : Gt → Prop} (h : wX3_seal X G a0 Pr) : Mc X l yX3_seal (.code yX3_seal cX3_seal 2 none) 2 46 [.ref a0] G (rV Pr) noX := by
  refine Mc.of (by decide +kernel) hfl [some (.ref a0), none] rfl (Nat.le_of_ble_eq_true rfl) rfl ?_
  intro K hL C E0 hr hnm hex
  have B : BX X K l cX3_seal 2 RX3 2 46 G none "seal" := ⟨hL, C, E0, hr, hnm, hex, hfl⟩
  have C : Cx X K cX3_seal 2 RX3 2 46 := C
  unfold wX3_seal at h
  refine r_aloadR_n C 0 dX3_seal_0 rfl rfl ?_
  refine r_aloadR_n C 0 dX3_seal_1 rfl rfl ?_
  obtain ⟨ht, h⟩ := h
  refine r_getI C fw_RX3_15 rfl ht dX3_seal_2 ?_
  obtain ⟨ht, h⟩ := h
  refine r_callV C (r := (RX3, TX3, 2)) hL yw_X3_sumOf vw_RX3_29 rfl rfl ht rfl rfl (Nat.le_of_ble_eq_true rfl) ⟨(Nat.le_of_ble_eq_true rfl), (Nat.le_of_ble_eq_true rfl)⟩ (mX3_sumOf hfl h) rfl dX3_seal_5 (kI (fun r1 G2 h => ?_)) kN
  refine r_istore_n C 1 (lv' := [some (.ref a0), some (.int r1)]) dX3_seal_8 rfl (Nat.le_of_ble_eq_true rfl) rfl rfl ?_
  refine r_aloadR_n C 0 dX3_seal_9 rfl rfl ?_
  refine r_iload_n C 1 dX3_seal_10 rfl rfl ?_
  obtain ⟨ht, h⟩ := h
  refine r_callV C (r := (RX3, TX3, 2)) hL yw_X3_putByte vw_RX3_25 rfl rfl ht rfl rfl (Nat.le_of_ble_eq_true rfl) ⟨(Nat.le_of_ble_eq_true rfl), (Nat.le_of_ble_eq_true rfl)⟩ (mX3_putByte hfl h) rfl dX3_seal_11 (kV' (fun G3 h => ?_)) kN
  refine r_aloadR_n C 0 dX3_seal_14 rfl rfl ?_
  refine r_iload_n C 1 dX3_seal_15 rfl rfl ?_
  refine r_bipush C 8 dX3_seal_16 (by decide) ?_
  refine r_ishr C dX3_seal_18 ?_
  obtain ⟨ht, h⟩ := h
  refine r_callV C (r := (RX3, TX3, 2)) hL yw_X3_putByte vw_RX3_25 rfl rfl ht rfl rfl (Nat.le_of_ble_eq_true rfl) ⟨(Nat.le_of_ble_eq_true rfl), (Nat.le_of_ble_eq_true rfl)⟩ (mX3_putByte hfl h) rfl dX3_seal_19 (kV' (fun G4 h => ?_)) kN
  exact r_vret C E0 hr ⟨rfl, h⟩ dX3_seal_22
def wX1_plan_46 (X : Xt) (Pr : Gt → Prop) (Px : String → Gt → Prop) (G : Gt) (a0 : Nat) : Prop := gT G a0 = (1, 2) ∧ ∃ b1, gR G 68 a0 = some b1 ∧ gT G b1 = (1, 7) ∧ ((gI G 228 b1) = 0 → gT G a0 = (1, 2) ∧ ∃ b22, gR G 70 a0 = some b22 ∧ gT G a0 = (1, 2) ∧ ∃ b23, gR G 68 a0 = some b23 ∧ gT G b23 = (1, 7) ∧ gT G b22 = (1, 4) ∧ wX3_open X G b22 (gI G 227 b23) 3 (fun G24 => gT G24 a0 = (1, 2) ∧ ∃ b25, gR G24 70 a0 = some b25 ∧ gT G24 a0 = (1, 2) ∧ ∃ b26, gR G24 68 a0 = some b26 ∧ gT G24 b26 = (1, 7) ∧ gT G24 b25 = (1, 4) ∧ wX3_putWord X G24 b25 (gI G24 229 b26) (fun G27 => gT G27 a0 = (1, 2) ∧ ∃ b28, gR G27 70 a0 = some b28 ∧ gT G27 a0 = (1, 2) ∧ ∃ b29, gR G27 68 a0 = some b29 ∧ gT G27 b29 = (1, 7) ∧ wX6_width X G27 b29 (fun r30 G31 => gT G31 b28 = (1, 4) ∧ wX3_putWord X G31 b28 r30 (fun G32 => gT G32 a0 = (1, 2) ∧ ∃ b33, gR G32 70 a0 = some b33 ∧ gT G32 b33 = (1, 4) ∧ wX3_seal X G32 b33 (fun G34 => Pr G34)))))) ∧ (¬ ((gI G 228 b1) = 0) → gT G a0 = (1, 2) ∧ wX1_buildWriteFrame X G a0 (fun G42 => gT G42 a0 = (1, 2) ∧ ∃ b43, gR G42 70 a0 = some b43 ∧ gT G42 b43 = (1, 4) ∧ wX3_seal X G42 b43 (fun G44 => Pr G44)) Px)
set_option maxRecDepth 20000 in
theorem bX1_plan_46 {X : Xt} {K : Kt} {l : Launch} {G0 : Gt} {Pr : Gt → Prop} {Px : String → Gt → Prop} (B : BX X K l cX1_plan 2 RX1 5 110 G0 none "plan") {G : Gt} {a0 : Nat} (h : wX1_plan_46 X Pr Px G a0) : WM X K (QM X K G0 (rV Pr) Px) G 46 [some (.ref a0), none] [] := by
  obtain ⟨hL, C, E0, hr, hnm, hex, hfl⟩ := id B
  unfold wX1_plan_46 at h
  refine r_aloadR_n C 0 dX1_plan_46 rfl rfl ?_
  obtain ⟨ht, h⟩ := h
  obtain ⟨b1, hb, h⟩ := h
  refine r_getR C fw_RX1_35 rfl ht hb dX1_plan_47 ?_
  obtain ⟨ht, h⟩ := h
  refine r_getI C fw_RX1_100 rfl ht dX1_plan_50 ?_
  refine r_if_eq C 63 dX1_plan_53 (by decide) (fun c => ?_) (fun c => ?_)
  · replace h := h.1 c
    refine r_aloadR_n C 0 dX1_plan_63 rfl rfl ?_
    obtain ⟨ht, h⟩ := h
    obtain ⟨b22, hb, h⟩ := h
    refine r_getR C fw_RX1_49 rfl ht hb dX1_plan_64 ?_
    refine r_aloadR_n C 0 dX1_plan_67 rfl rfl ?_
    obtain ⟨ht, h⟩ := h
    obtain ⟨b23, hb, h⟩ := h
    refine r_getR C fw_RX1_35 rfl ht hb dX1_plan_68 ?_
    obtain ⟨ht, h⟩ := h
    refine r_getI C fw_RX1_106 rfl ht dX1_plan_71 ?_
    refine r_iconst C 3 dX1_plan_74 (by decide) ?_
    obtain ⟨ht, h⟩ := h
    refine r_callV C (r := (RX3, TX3, 2)) hL yw_X3_open vw_RX1_109 rfl rfl ht rfl rfl (Nat.le_of_ble_eq_true rfl) ⟨(Nat.le_of_ble_eq_true rfl), (Nat.le_of_ble_eq_true rfl)⟩ (mX3_open hfl h) rfl dX1_plan_75 (kV' (fun G24 h => ?_)) kN
    refine r_aloadR_n C 0 dX1_plan_78 rfl rfl ?_
    obtain ⟨ht, h⟩ := h
    obtain ⟨b25, hb, h⟩ := h
    refine r_getR C fw_RX1_49 rfl ht hb dX1_plan_79 ?_
    refine r_aloadR_n C 0 dX1_plan_82 rfl rfl ?_
    obtain ⟨ht, h⟩ := h
    obtain ⟨b26, hb, h⟩ := h
    refine r_getR C fw_RX1_35 rfl ht hb dX1_plan_83 ?_
    obtain ⟨ht, h⟩ := h
    refine r_getI C fw_RX1_113 rfl ht dX1_plan_86 ?_
    obtain ⟨ht, h⟩ := h
    refine r_callV C (r := (RX3, TX3, 2)) hL yw_X3_putWord vw_RX1_116 rfl rfl ht rfl rfl (Nat.le_of_ble_eq_true rfl) ⟨(Nat.le_of_ble_eq_true rfl), (Nat.le_of_ble_eq_true rfl)⟩ (mX3_putWord hfl h) rfl dX1_plan_89 (kV' (fun G27 h => ?_)) kN
    refine r_aloadR_n C 0 dX1_plan_92 rfl rfl ?_
    obtain ⟨ht, h⟩ := h
    obtain ⟨b28, hb, h⟩ := h
    refine r_getR C fw_RX1_49 rfl ht hb dX1_plan_93 ?_
    refine r_aloadR_n C 0 dX1_plan_96 rfl rfl ?_
    obtain ⟨ht, h⟩ := h
    obtain ⟨b29, hb, h⟩ := h
    refine r_getR C fw_RX1_35 rfl ht hb dX1_plan_97 ?_
    obtain ⟨ht, h⟩ := h
    refine r_callV C (r := (RX6, TX6, 7)) hL yw_X6_width vw_RX1_120 rfl rfl ht rfl rfl (Nat.le_of_ble_eq_true rfl) ⟨(Nat.le_of_ble_eq_true rfl), (Nat.le_of_ble_eq_true rfl)⟩ (mX6_width hfl h) rfl dX1_plan_100 (kI (fun r30 G31 h => ?_)) kN
    obtain ⟨ht, h⟩ := h
    refine r_callV C (r := (RX3, TX3, 2)) hL yw_X3_putWord vw_RX1_116 rfl rfl ht rfl rfl (Nat.le_of_ble_eq_true rfl) ⟨(Nat.le_of_ble_eq_true rfl), (Nat.le_of_ble_eq_true rfl)⟩ (mX3_putWord hfl h) rfl dX1_plan_103 (kV' (fun G32 h => ?_)) kN
    refine r_aloadR_n C 0 dX1_plan_106 rfl rfl ?_
    obtain ⟨ht, h⟩ := h
    obtain ⟨b33, hb, h⟩ := h
    refine r_getR C fw_RX1_49 rfl ht hb dX1_plan_107 ?_
    obtain ⟨ht, h⟩ := h
    refine r_callV C (r := (RX3, TX3, 2)) hL yw_X3_seal vw_RX1_124 rfl rfl ht rfl rfl (Nat.le_of_ble_eq_true rfl) ⟨(Nat.le_of_ble_eq_true rfl), (Nat.le_of_ble_eq_true rfl)⟩ (mX3_seal hfl h) rfl dX1_plan_110 (kV' (fun G34 h => ?_)) kN
    exact r_vret C E0 hr ⟨rfl, h⟩ dX1_plan_113
  · replace h := h.2 c
    refine r_aloadR_n C 0 dX1_plan_56 rfl rfl ?_
    obtain ⟨ht, h⟩ := h
    refine r_callV C (r := (RX1, TX1, 11)) hL yw_X1_buildWriteFrame vw_RX1_103 rfl rfl ht rfl rfl (Nat.le_of_ble_eq_true rfl) ⟨(Nat.le_of_ble_eq_true rfl), (Nat.le_of_ble_eq_true rfl)⟩ (mX1_buildWriteFrame hfl h) rfl dX1_plan_57 (kV' (fun G42 h => ?_)) (kO C E0 hex)
    refine r_goto C 106 dX1_plan_60 (by decide) ?_
    refine r_aloadR_n C 0 dX1_plan_106 rfl rfl ?_
    obtain ⟨ht, h⟩ := h
    obtain ⟨b43, hb, h⟩ := h
    refine r_getR C fw_RX1_49 rfl ht hb dX1_plan_107 ?_
    obtain ⟨ht, h⟩ := h
    refine r_callV C (r := (RX3, TX3, 2)) hL yw_X3_seal vw_RX1_124 rfl rfl ht rfl rfl (Nat.le_of_ble_eq_true rfl) ⟨(Nat.le_of_ble_eq_true rfl), (Nat.le_of_ble_eq_true rfl)⟩ (mX3_seal hfl h) rfl dX1_plan_110 (kV' (fun G44 h => ?_)) kN
    exact r_vret C E0 hr ⟨rfl, h⟩ dX1_plan_113
def wX1_plan (X : Xt) (G : Gt) (a0 : Nat) (Pr : Gt → Prop) (Px : String → Gt → Prop) : Prop := gT G a0 = (1, 2) ∧ ∃ b1, gR G 70 a0 = some b1 ∧ gT G b1 = (1, 4) ∧ ∀ G2, G2 = sI G 129 b1 0 → gT G2 a0 = (1, 2) ∧ ∃ b3, gR G2 68 a0 = some b3 ∧ gT G2 b3 = (1, 7) ∧ wX6_openGroup X G2 b3 (fun r4 G5 => (r4 = none → Pr G5) ∧ (∀ b6, r4 = some b6 → gT G5 a0 = (1, 2) ∧ wX1_cacheAnswers X G5 a0 b6 (fun r47 G48 => (r47 = 0 → gT G48 a0 = (1, 2) ∧ ∃ b69, gR G48 64 a0 = some b69 ∧ (gT G48 b69).1 = 2 ∧ vp_in 4 (gT G48 b69).2 ∧ (¬ (gA G48 b69 (4 : Int32).toNatClampNeg) = 1 → wX1_plan_46 X Pr Px G48 a0) ∧ ((gA G48 b69 (4 : Int32).toNatClampNeg) = 1 → gT G48 a0 = (1, 2) ∧ ∃ b110, gR G48 68 a0 = some b110 ∧ gT G48 b110 = (1, 7) ∧ wX6_gather X G48 b110 (fun G111 => wX1_plan_46 X Pr Px G111 a0) Px)) ∧ (¬ (r47 = 0) → Pr G48)))) Px
set_option maxRecDepth 20000 in
theorem mX1_plan {X : Xt} {l : Launch} (hfl : l.stackTraces = false) {G : Gt} {a0 : Nat} {Pr : Gt → Prop} {Px : String → Gt → Prop} (h : wX1_plan X G a0 Pr Px) : Mc X l yX1_plan (.code yX1_plan cX1_plan 2 none) 5 110 [.ref a0] G (rV Pr) Px := by
  refine Mc.of (by decide +kernel) hfl [some (.ref a0), none] rfl (Nat.le_of_ble_eq_true rfl) rfl ?_
  intro K hL C E0 hr hnm hex
  have B : BX X K l cX1_plan 2 RX1 5 110 G none "plan" := ⟨hL, C, E0, hr, hnm, hex, hfl⟩
  have C : Cx X K cX1_plan 2 RX1 5 110 := C
  unfold wX1_plan at h
  refine r_aloadR_n C 0 dX1_plan_0 rfl rfl ?_
  obtain ⟨ht, h⟩ := h
  obtain ⟨b1, hb, h⟩ := h
  refine r_getR C fw_RX1_49 rfl ht hb dX1_plan_1 ?_
  refine r_iconst C 0 dX1_plan_4 (by decide) ?_
  obtain ⟨ht, h⟩ := h
  refine r_putI C cw_4 fp_RX1_86 rfl ht dX1_plan_5 ?_
  refine r_nm (fun G2 hG2 => ?_)
  replace h := h G2 hG2
  refine r_aloadR_n C 0 dX1_plan_8 rfl rfl ?_
  obtain ⟨ht, h⟩ := h
  obtain ⟨b3, hb, h⟩ := h
  refine r_getR C fw_RX1_35 rfl ht hb dX1_plan_9 ?_
  obtain ⟨ht, h⟩ := h
  refine r_callV C (r := (RX6, TX6, 7)) hL yw_X6_openGroup vw_RX1_89 rfl rfl ht rfl rfl (Nat.le_of_ble_eq_true rfl) ⟨(Nat.le_of_ble_eq_true rfl), (Nat.le_of_ble_eq_true rfl)⟩ (mX6_openGroup hfl h) rfl dX1_plan_12 (kA' (fun r4 G5 h => ?_)) (kO C E0 hex)
  refine r_astore_n C 1 (x := r4) (lv' := [some (.ref a0), some (va_rf r4)]) dX1_plan_15 rfl (Nat.le_of_ble_eq_true rfl) rfl rfl ?_
  refine r_aload_n C 1 (x := r4) dX1_plan_16 rfl rfl ?_
  refine r_ifnull C 28 dX1_plan_17 (by decide) (fun c => ?_) (fun b6 c => ?_)
  · replace h := h.1 c
    subst c
    show WM _ _ _ _ _ [some (.ref a0), some (.null)] []
    exact r_vret C E0 hr ⟨rfl, h⟩ dX1_plan_28
  · replace h := h.2 b6 c
    subst c
    show WM _ _ _ _ _ [some (.ref a0), some (.ref b6)] []
    refine r_aloadR_n C 0 dX1_plan_20 rfl rfl ?_
    refine r_aloadR_n C 1 dX1_plan_21 rfl rfl ?_
    obtain ⟨ht, h⟩ := h
    refine r_callV C (r := (RX1, TX1, 11)) hL yw_X1_cacheAnswers vw_RX1_93 rfl rfl ht rfl rfl (Nat.le_of_ble_eq_true rfl) ⟨(Nat.le_of_ble_eq_true rfl), (Nat.le_of_ble_eq_true rfl)⟩ (mX1_cacheAnswers hfl h) rfl dX1_plan_22 (kI (fun r47 G48 h => ?_)) kN
    refine r_if_eq C 29 dX1_plan_25 (by decide) (fun c => ?_) (fun c => ?_)
    · replace h := h.1 c
      refine r_aloadR_n C 0 dX1_plan_29 rfl rfl ?_
      obtain ⟨ht, h⟩ := h
      obtain ⟨b69, hb, h⟩ := h
      refine r_getR C fw_RX1_9 rfl ht hb dX1_plan_30 ?_
      refine r_iconst C 4 dX1_plan_33 (by decide) ?_
      obtain ⟨ht, hi, h⟩ := h
      refine r_ialdP C ht hi dX1_plan_34 ?_
      refine r_iconst C 1 dX1_plan_35 (by decide) ?_
      refine r_icmp_ne C 46 dX1_plan_36 (by decide) (fun c => ?_) (fun c => ?_)
      · replace h := h.1 c
        refine r_fg (lv' := [some (.ref a0), none]) (show fgt _ _ from ⟨rfl, trivial⟩) ?_
        exact bX1_plan_46 B h
      · replace h := h.2 c
        refine r_aloadR_n C 0 dX1_plan_39 rfl rfl ?_
        obtain ⟨ht, h⟩ := h
        obtain ⟨b110, hb, h⟩ := h
        refine r_getR C fw_RX1_35 rfl ht hb dX1_plan_40 ?_
        obtain ⟨ht, h⟩ := h
        refine r_callV C (r := (RX6, TX6, 7)) hL yw_X6_gather vw_RX1_97 rfl rfl ht rfl rfl (Nat.le_of_ble_eq_true rfl) ⟨(Nat.le_of_ble_eq_true rfl), (Nat.le_of_ble_eq_true rfl)⟩ (mX6_gather hfl h) rfl dX1_plan_43 (kV' (fun G111 h => ?_)) (kO C E0 hex)
        refine r_fg (lv' := [some (.ref a0), none]) (show fgt _ _ from ⟨rfl, trivial⟩) ?_
        exact bX1_plan_46 B h
    · replace h := h.2 c
      exact r_vret C E0 hr ⟨rfl, h⟩ dX1_plan_28
def wJ13_bitCount_95d88 (X : Xt) (G : Gt) (y0 : Int64) (Pr : Int32 → Gt → Prop) : Prop := Pr (((((((((y0 - (((y0.toUInt64 >>> ((1 : Int32).toInt64.toUInt64 &&& Int64.toUInt64 63)).toInt64) &&& (6148914691236517205 : Int64))) &&& (3689348814741910323 : Int64)) + ((((y0 - (((y0.toUInt64 >>> ((1 : Int32).toInt64.toUInt64 &&& Int64.toUInt64 63)).toInt64) &&& (6148914691236517205 : Int64))).toUInt64 >>> ((2 : Int32).toInt64.toUInt64 &&& Int64.toUInt64 63)).toInt64) &&& (3689348814741910323 : Int64))) + (((((y0 - (((y0.toUInt64 >>> ((1 : Int32).toInt64.toUInt64 &&& Int64.toUInt64 63)).toInt64) &&& (6148914691236517205 : Int64))) &&& (3689348814741910323 : Int64)) + ((((y0 - (((y0.toUInt64 >>> ((1 : Int32).toInt64.toUInt64 &&& Int64.toUInt64 63)).toInt64) &&& (6148914691236517205 : Int64))).toUInt64 >>> ((2 : Int32).toInt64.toUInt64 &&& Int64.toUInt64 63)).toInt64) &&& (3689348814741910323 : Int64))).toUInt64 >>> ((4 : Int32).toInt64.toUInt64 &&& Int64.toUInt64 63)).toInt64)) &&& (1085102592571150095 : Int64)) + (((((((y0 - (((y0.toUInt64 >>> ((1 : Int32).toInt64.toUInt64 &&& Int64.toUInt64 63)).toInt64) &&& (6148914691236517205 : Int64))) &&& (3689348814741910323 : Int64)) + ((((y0 - (((y0.toUInt64 >>> ((1 : Int32).toInt64.toUInt64 &&& Int64.toUInt64 63)).toInt64) &&& (6148914691236517205 : Int64))).toUInt64 >>> ((2 : Int32).toInt64.toUInt64 &&& Int64.toUInt64 63)).toInt64) &&& (3689348814741910323 : Int64))) + (((((y0 - (((y0.toUInt64 >>> ((1 : Int32).toInt64.toUInt64 &&& Int64.toUInt64 63)).toInt64) &&& (6148914691236517205 : Int64))) &&& (3689348814741910323 : Int64)) + ((((y0 - (((y0.toUInt64 >>> ((1 : Int32).toInt64.toUInt64 &&& Int64.toUInt64 63)).toInt64) &&& (6148914691236517205 : Int64))).toUInt64 >>> ((2 : Int32).toInt64.toUInt64 &&& Int64.toUInt64 63)).toInt64) &&& (3689348814741910323 : Int64))).toUInt64 >>> ((4 : Int32).toInt64.toUInt64 &&& Int64.toUInt64 63)).toInt64)) &&& (1085102592571150095 : Int64)).toUInt64 >>> ((8 : Int32).toInt64.toUInt64 &&& Int64.toUInt64 63)).toInt64)) + ((((((((y0 - (((y0.toUInt64 >>> ((1 : Int32).toInt64.toUInt64 &&& Int64.toUInt64 63)).toInt64) &&& (6148914691236517205 : Int64))) &&& (3689348814741910323 : Int64)) + ((((y0 - (((y0.toUInt64 >>> ((1 : Int32).toInt64.toUInt64 &&& Int64.toUInt64 63)).toInt64) &&& (6148914691236517205 : Int64))).toUInt64 >>> ((2 : Int32).toInt64.toUInt64 &&& Int64.toUInt64 63)).toInt64) &&& (3689348814741910323 : Int64))) + (((((y0 - (((y0.toUInt64 >>> ((1 : Int32).toInt64.toUInt64 &&& Int64.toUInt64 63)).toInt64) &&& (6148914691236517205 : Int64))) &&& (3689348814741910323 : Int64)) + ((((y0 - (((y0.toUInt64 >>> ((1 : Int32).toInt64.toUInt64 &&& Int64.toUInt64 63)).toInt64) &&& (6148914691236517205 : Int64))).toUInt64 >>> ((2 : Int32).toInt64.toUInt64 &&& Int64.toUInt64 63)).toInt64) &&& (3689348814741910323 : Int64))).toUInt64 >>> ((4 : Int32).toInt64.toUInt64 &&& Int64.toUInt64 63)).toInt64)) &&& (1085102592571150095 : Int64)) + (((((((y0 - (((y0.toUInt64 >>> ((1 : Int32).toInt64.toUInt64 &&& Int64.toUInt64 63)).toInt64) &&& (6148914691236517205 : Int64))) &&& (3689348814741910323 : Int64)) + ((((y0 - (((y0.toUInt64 >>> ((1 : Int32).toInt64.toUInt64 &&& Int64.toUInt64 63)).toInt64) &&& (6148914691236517205 : Int64))).toUInt64 >>> ((2 : Int32).toInt64.toUInt64 &&& Int64.toUInt64 63)).toInt64) &&& (3689348814741910323 : Int64))) + (((((y0 - (((y0.toUInt64 >>> ((1 : Int32).toInt64.toUInt64 &&& Int64.toUInt64 63)).toInt64) &&& (6148914691236517205 : Int64))) &&& (3689348814741910323 : Int64)) + ((((y0 - (((y0.toUInt64 >>> ((1 : Int32).toInt64.toUInt64 &&& Int64.toUInt64 63)).toInt64) &&& (6148914691236517205 : Int64))).toUInt64 >>> ((2 : Int32).toInt64.toUInt64 &&& Int64.toUInt64 63)).toInt64) &&& (3689348814741910323 : Int64))).toUInt64 >>> ((4 : Int32).toInt64.toUInt64 &&& Int64.toUInt64 63)).toInt64)) &&& (1085102592571150095 : Int64)).toUInt64 >>> ((8 : Int32).toInt64.toUInt64 &&& Int64.toUInt64 63)).toInt64)).toUInt64 >>> ((16 : Int32).toInt64.toUInt64 &&& Int64.toUInt64 63)).toInt64)) + (((((((((y0 - (((y0.toUInt64 >>> ((1 : Int32).toInt64.toUInt64 &&& Int64.toUInt64 63)).toInt64) &&& (6148914691236517205 : Int64))) &&& (3689348814741910323 : Int64)) + ((((y0 - (((y0.toUInt64 >>> ((1 : Int32).toInt64.toUInt64 &&& Int64.toUInt64 63)).toInt64) &&& (6148914691236517205 : Int64))).toUInt64 >>> ((2 : Int32).toInt64.toUInt64 &&& Int64.toUInt64 63)).toInt64) &&& (3689348814741910323 : Int64))) + (((((y0 - (((y0.toUInt64 >>> ((1 : Int32).toInt64.toUInt64 &&& Int64.toUInt64 63)).toInt64) &&& (6148914691236517205 : Int64))) &&& (3689348814741910323 : Int64)) + ((((y0 - (((y0.toUInt64 >>> ((1 : Int32).toInt64.toUInt64 &&& Int64.toUInt64 63)).toInt64) &&& (6148914691236517205 : Int64))).toUInt64 >>> ((2 : Int32).toInt64.toUInt64 &&& Int64.toUInt64 63)).toInt64) &&& (3689348814741910323 : Int64))).toUInt64 >>> ((4 : Int32).toInt64.toUInt64 &&& Int64.toUInt64 63)).toInt64)) &&& (1085102592571150095 : Int64)) + (((((((y0 - (((y0.toUInt64 >>> ((1 : Int32).toInt64.toUInt64 &&& Int64.toUInt64 63)).toInt64) &&& (6148914691236517205 : Int64))) &&& (3689348814741910323 : Int64)) + ((((y0 - (((y0.toUInt64 >>> ((1 : Int32).toInt64.toUInt64 &&& Int64.toUInt64 63)).toInt64) &&& (6148914691236517205 : Int64))).toUInt64 >>> ((2 : Int32).toInt64.toUInt64 &&& Int64.toUInt64 63)).toInt64) &&& (3689348814741910323 : Int64))) + (((((y0 - (((y0.toUInt64 >>> ((1 : Int32).toInt64.toUInt64 &&& Int64.toUInt64 63)).toInt64) &&& (6148914691236517205 : Int64))) &&& (3689348814741910323 : Int64)) + ((((y0 - (((y0.toUInt64 >>> ((1 : Int32).toInt64.toUInt64 &&& Int64.toUInt64 63)).toInt64) &&& (6148914691236517205 : Int64))).toUInt64 >>> ((2 : Int32).toInt64.toUInt64 &&& Int64.toUInt64 63)).toInt64) &&& (3689348814741910323 : Int64))).toUInt64 >>> ((4 : Int32).toInt64.toUInt64 &&& Int64.toUInt64 63)).toInt64)) &&& (1085102592571150095 : Int64)).toUInt64 >>> ((8 : Int32).toInt64.toUInt64 &&& Int64.toUInt64 63)).toInt64)) + ((((((((y0 - (((y0.toUInt64 >>> ((1 : Int32).toInt64.toUInt64 &&& Int64.toUInt64 63)).toInt64) &&& (6148914691236517205 : Int64))) &&& (3689348814741910323 : Int64)) + ((((y0 - (((y0.toUInt64 >>> ((1 : Int32).toInt64.toUInt64 &&& Int64.toUInt64 63)).toInt64) &&& (6148914691236517205 : Int64))).toUInt64 >>> ((2 : Int32).toInt64.toUInt64 &&& Int64.toUInt64 63)).toInt64) &&& (3689348814741910323 : Int64))) + (((((y0 - (((y0.toUInt64 >>> ((1 : Int32).toInt64.toUInt64 &&& Int64.toUInt64 63)).toInt64) &&& (6148914691236517205 : Int64))) &&& (3689348814741910323 : Int64)) + ((((y0 - (((y0.toUInt64 >>> ((1 : Int32).toInt64.toUInt64 &&& Int64.toUInt64 63)).toInt64) &&& (6148914691236517205 : Int64))).toUInt64 >>> ((2 : Int32).toInt64.toUInt64 &&& Int64.toUInt64 63)).toInt64) &&& (3689348814741910323 : Int64))).toUInt64 >>> ((4 : Int32).toInt64.toUInt64 &&& Int64.toUInt64 63)).toInt64)) &&& (1085102592571150095 : Int64)) + (((((((y0 - (((y0.toUInt64 >>> ((1 : Int32).toInt64.toUInt64 &&& Int64.toUInt64 63)).toInt64) &&& (6148914691236517205 : Int64))) &&& (3689348814741910323 : Int64)) + ((((y0 - (((y0.toUInt64 >>> ((1 : Int32).toInt64.toUInt64 &&& Int64.toUInt64 63)).toInt64) &&& (6148914691236517205 : Int64))).toUInt64 >>> ((2 : Int32).toInt64.toUInt64 &&& Int64.toUInt64 63)).toInt64) &&& (3689348814741910323 : Int64))) + (((((y0 - (((y0.toUInt64 >>> ((1 : Int32).toInt64.toUInt64 &&& Int64.toUInt64 63)).toInt64) &&& (6148914691236517205 : Int64))) &&& (3689348814741910323 : Int64)) + ((((y0 - (((y0.toUInt64 >>> ((1 : Int32).toInt64.toUInt64 &&& Int64.toUInt64 63)).toInt64) &&& (6148914691236517205 : Int64))).toUInt64 >>> ((2 : Int32).toInt64.toUInt64 &&& Int64.toUInt64 63)).toInt64) &&& (3689348814741910323 : Int64))).toUInt64 >>> ((4 : Int32).toInt64.toUInt64 &&& Int64.toUInt64 63)).toInt64)) &&& (1085102592571150095 : Int64)).toUInt64 >>> ((8 : Int32).toInt64.toUInt64 &&& Int64.toUInt64 63)).toInt64)).toUInt64 >>> ((16 : Int32).toInt64.toUInt64 &&& Int64.toUInt64 63)).toInt64)).toUInt64 >>> ((32 : Int32).toInt64.toUInt64 &&& Int64.toUInt64 63)).toInt64)).toInt32 &&& 127) G
set_option maxRecDepth 20000 in
theorem mJ13_bitCount_95d88 {X : Xt} {l : Launch} (hfl : l.stackTraces = false) {G : Gt} {y0 : Int64} {Pr : Int32 → Gt → Prop} (h : wJ13_bitCount_95d88 X G y0 Pr) : Mc X l yJ13_bitCount_95d88 (.code yJ13_bitCount_95d88 cJ13_bitCount_95d88 2 (some (.int))) 0 0 [.long y0] G (rI Pr) noX := by
  refine Mc.of (by decide +kernel) hfl [some (.long y0), none] rfl (Nat.le_of_ble_eq_true rfl) rfl ?_
  intro K hL C E0 hr hnm hex
  have B : BX X K l cJ13_bitCount_95d88 2 RJ13 0 0 G (some (.int)) "bitCount" := ⟨hL, C, E0, hr, hnm, hex, hfl⟩
  have C : Cx X K cJ13_bitCount_95d88 2 RJ13 0 0 := C
  unfold wJ13_bitCount_95d88 at h
  refine r_lload_n C 0 dJ13_bitCount_95d88_0 rfl rfl ?_
  refine r_lload_n C 0 dJ13_bitCount_95d88_1 rfl rfl ?_
  refine r_iconst C 1 dJ13_bitCount_95d88_2 (by decide) ?_
  refine r_lushr C dJ13_bitCount_95d88_3 ?_
  refine r_ldc2 C kl_RJ13_314 dJ13_bitCount_95d88_4 ?_
  refine r_land C dJ13_bitCount_95d88_7 ?_
  refine r_lsub C dJ13_bitCount_95d88_8 ?_
  refine r_lstore_n C 0 (lv' := [some (.long (y0 - (((y0.toUInt64 >>> ((1 : Int32).toInt64.toUInt64 &&& Int64.toUInt64 63)).toInt64) &&& (6148914691236517205 : Int64)))), none]) dJ13_bitCount_95d88_9 rfl (Nat.le_of_ble_eq_true rfl) rfl rfl ?_
  refine r_lload_n C 0 dJ13_bitCount_95d88_10 rfl rfl ?_
  refine r_ldc2 C kl_RJ13_316 dJ13_bitCount_95d88_11 ?_
  refine r_land C dJ13_bitCount_95d88_14 ?_
  refine r_lload_n C 0 dJ13_bitCount_95d88_15 rfl rfl ?_
  refine r_iconst C 2 dJ13_bitCount_95d88_16 (by decide) ?_
  refine r_lushr C dJ13_bitCount_95d88_17 ?_
  refine r_ldc2 C kl_RJ13_316 dJ13_bitCount_95d88_18 ?_
  refine r_land C dJ13_bitCount_95d88_21 ?_
  refine r_ladd C dJ13_bitCount_95d88_22 ?_
  refine r_lstore_n C 0 (lv' := [some (.long (((y0 - (((y0.toUInt64 >>> ((1 : Int32).toInt64.toUInt64 &&& Int64.toUInt64 63)).toInt64) &&& (6148914691236517205 : Int64))) &&& (3689348814741910323 : Int64)) + ((((y0 - (((y0.toUInt64 >>> ((1 : Int32).toInt64.toUInt64 &&& Int64.toUInt64 63)).toInt64) &&& (6148914691236517205 : Int64))).toUInt64 >>> ((2 : Int32).toInt64.toUInt64 &&& Int64.toUInt64 63)).toInt64) &&& (3689348814741910323 : Int64)))), none]) dJ13_bitCount_95d88_23 rfl (Nat.le_of_ble_eq_true rfl) rfl rfl ?_
  refine r_lload_n C 0 dJ13_bitCount_95d88_24 rfl rfl ?_
  refine r_lload_n C 0 dJ13_bitCount_95d88_25 rfl rfl ?_
  refine r_iconst C 4 dJ13_bitCount_95d88_26 (by decide) ?_
  refine r_lushr C dJ13_bitCount_95d88_27 ?_
  refine r_ladd C dJ13_bitCount_95d88_28 ?_
  refine r_ldc2 C kl_RJ13_318 dJ13_bitCount_95d88_29 ?_
  refine r_land C dJ13_bitCount_95d88_32 ?_
  refine r_lstore_n C 0 (lv' := [some (.long (((((y0 - (((y0.toUInt64 >>> ((1 : Int32).toInt64.toUInt64 &&& Int64.toUInt64 63)).toInt64) &&& (6148914691236517205 : Int64))) &&& (3689348814741910323 : Int64)) + ((((y0 - (((y0.toUInt64 >>> ((1 : Int32).toInt64.toUInt64 &&& Int64.toUInt64 63)).toInt64) &&& (6148914691236517205 : Int64))).toUInt64 >>> ((2 : Int32).toInt64.toUInt64 &&& Int64.toUInt64 63)).toInt64) &&& (3689348814741910323 : Int64))) + (((((y0 - (((y0.toUInt64 >>> ((1 : Int32).toInt64.toUInt64 &&& Int64.toUInt64 63)).toInt64) &&& (6148914691236517205 : Int64))) &&& (3689348814741910323 : Int64)) + ((((y0 - (((y0.toUInt64 >>> ((1 : Int32).toInt64.toUInt64 &&& Int64.toUInt64 63)).toInt64) &&& (6148914691236517205 : Int64))).toUInt64 >>> ((2 : Int32).toInt64.toUInt64 &&& Int64.toUInt64 63)).toInt64) &&& (3689348814741910323 : Int64))).toUInt64 >>> ((4 : Int32).toInt64.toUInt64 &&& Int64.toUInt64 63)).toInt64)) &&& (1085102592571150095 : Int64))), none]) dJ13_bitCount_95d88_33 rfl (Nat.le_of_ble_eq_true rfl) rfl rfl ?_
  refine r_lload_n C 0 dJ13_bitCount_95d88_34 rfl rfl ?_
  refine r_lload_n C 0 dJ13_bitCount_95d88_35 rfl rfl ?_
  refine r_bipush C 8 dJ13_bitCount_95d88_36 (by decide) ?_
  refine r_lushr C dJ13_bitCount_95d88_38 ?_
  refine r_ladd C dJ13_bitCount_95d88_39 ?_
  refine r_lstore_n C 0 (lv' := [some (.long ((((((y0 - (((y0.toUInt64 >>> ((1 : Int32).toInt64.toUInt64 &&& Int64.toUInt64 63)).toInt64) &&& (6148914691236517205 : Int64))) &&& (3689348814741910323 : Int64)) + ((((y0 - (((y0.toUInt64 >>> ((1 : Int32).toInt64.toUInt64 &&& Int64.toUInt64 63)).toInt64) &&& (6148914691236517205 : Int64))).toUInt64 >>> ((2 : Int32).toInt64.toUInt64 &&& Int64.toUInt64 63)).toInt64) &&& (3689348814741910323 : Int64))) + (((((y0 - (((y0.toUInt64 >>> ((1 : Int32).toInt64.toUInt64 &&& Int64.toUInt64 63)).toInt64) &&& (6148914691236517205 : Int64))) &&& (3689348814741910323 : Int64)) + ((((y0 - (((y0.toUInt64 >>> ((1 : Int32).toInt64.toUInt64 &&& Int64.toUInt64 63)).toInt64) &&& (6148914691236517205 : Int64))).toUInt64 >>> ((2 : Int32).toInt64.toUInt64 &&& Int64.toUInt64 63)).toInt64) &&& (3689348814741910323 : Int64))).toUInt64 >>> ((4 : Int32).toInt64.toUInt64 &&& Int64.toUInt64 63)).toInt64)) &&& (1085102592571150095 : Int64)) + (((((((y0 - (((y0.toUInt64 >>> ((1 : Int32).toInt64.toUInt64 &&& Int64.toUInt64 63)).toInt64) &&& (6148914691236517205 : Int64))) &&& (3689348814741910323 : Int64)) + ((((y0 - (((y0.toUInt64 >>> ((1 : Int32).toInt64.toUInt64 &&& Int64.toUInt64 63)).toInt64) &&& (6148914691236517205 : Int64))).toUInt64 >>> ((2 : Int32).toInt64.toUInt64 &&& Int64.toUInt64 63)).toInt64) &&& (3689348814741910323 : Int64))) + (((((y0 - (((y0.toUInt64 >>> ((1 : Int32).toInt64.toUInt64 &&& Int64.toUInt64 63)).toInt64) &&& (6148914691236517205 : Int64))) &&& (3689348814741910323 : Int64)) + ((((y0 - (((y0.toUInt64 >>> ((1 : Int32).toInt64.toUInt64 &&& Int64.toUInt64 63)).toInt64) &&& (6148914691236517205 : Int64))).toUInt64 >>> ((2 : Int32).toInt64.toUInt64 &&& Int64.toUInt64 63)).toInt64) &&& (3689348814741910323 : Int64))).toUInt64 >>> ((4 : Int32).toInt64.toUInt64 &&& Int64.toUInt64 63)).toInt64)) &&& (1085102592571150095 : Int64)).toUInt64 >>> ((8 : Int32).toInt64.toUInt64 &&& Int64.toUInt64 63)).toInt64))), none]) dJ13_bitCount_95d88_40 rfl (Nat.le_of_ble_eq_true rfl) rfl rfl ?_
  refine r_lload_n C 0 dJ13_bitCount_95d88_41 rfl rfl ?_
  refine r_lload_n C 0 dJ13_bitCount_95d88_42 rfl rfl ?_
  refine r_bipush C 16 dJ13_bitCount_95d88_43 (by decide) ?_
  refine r_lushr C dJ13_bitCount_95d88_45 ?_
  refine r_ladd C dJ13_bitCount_95d88_46 ?_
  refine r_lstore_n C 0 (lv' := [some (.long (((((((y0 - (((y0.toUInt64 >>> ((1 : Int32).toInt64.toUInt64 &&& Int64.toUInt64 63)).toInt64) &&& (6148914691236517205 : Int64))) &&& (3689348814741910323 : Int64)) + ((((y0 - (((y0.toUInt64 >>> ((1 : Int32).toInt64.toUInt64 &&& Int64.toUInt64 63)).toInt64) &&& (6148914691236517205 : Int64))).toUInt64 >>> ((2 : Int32).toInt64.toUInt64 &&& Int64.toUInt64 63)).toInt64) &&& (3689348814741910323 : Int64))) + (((((y0 - (((y0.toUInt64 >>> ((1 : Int32).toInt64.toUInt64 &&& Int64.toUInt64 63)).toInt64) &&& (6148914691236517205 : Int64))) &&& (3689348814741910323 : Int64)) + ((((y0 - (((y0.toUInt64 >>> ((1 : Int32).toInt64.toUInt64 &&& Int64.toUInt64 63)).toInt64) &&& (6148914691236517205 : Int64))).toUInt64 >>> ((2 : Int32).toInt64.toUInt64 &&& Int64.toUInt64 63)).toInt64) &&& (3689348814741910323 : Int64))).toUInt64 >>> ((4 : Int32).toInt64.toUInt64 &&& Int64.toUInt64 63)).toInt64)) &&& (1085102592571150095 : Int64)) + (((((((y0 - (((y0.toUInt64 >>> ((1 : Int32).toInt64.toUInt64 &&& Int64.toUInt64 63)).toInt64) &&& (6148914691236517205 : Int64))) &&& (3689348814741910323 : Int64)) + ((((y0 - (((y0.toUInt64 >>> ((1 : Int32).toInt64.toUInt64 &&& Int64.toUInt64 63)).toInt64) &&& (6148914691236517205 : Int64))).toUInt64 >>> ((2 : Int32).toInt64.toUInt64 &&& Int64.toUInt64 63)).toInt64) &&& (3689348814741910323 : Int64))) + (((((y0 - (((y0.toUInt64 >>> ((1 : Int32).toInt64.toUInt64 &&& Int64.toUInt64 63)).toInt64) &&& (6148914691236517205 : Int64))) &&& (3689348814741910323 : Int64)) + ((((y0 - (((y0.toUInt64 >>> ((1 : Int32).toInt64.toUInt64 &&& Int64.toUInt64 63)).toInt64) &&& (6148914691236517205 : Int64))).toUInt64 >>> ((2 : Int32).toInt64.toUInt64 &&& Int64.toUInt64 63)).toInt64) &&& (3689348814741910323 : Int64))).toUInt64 >>> ((4 : Int32).toInt64.toUInt64 &&& Int64.toUInt64 63)).toInt64)) &&& (1085102592571150095 : Int64)).toUInt64 >>> ((8 : Int32).toInt64.toUInt64 &&& Int64.toUInt64 63)).toInt64)) + ((((((((y0 - (((y0.toUInt64 >>> ((1 : Int32).toInt64.toUInt64 &&& Int64.toUInt64 63)).toInt64) &&& (6148914691236517205 : Int64))) &&& (3689348814741910323 : Int64)) + ((((y0 - (((y0.toUInt64 >>> ((1 : Int32).toInt64.toUInt64 &&& Int64.toUInt64 63)).toInt64) &&& (6148914691236517205 : Int64))).toUInt64 >>> ((2 : Int32).toInt64.toUInt64 &&& Int64.toUInt64 63)).toInt64) &&& (3689348814741910323 : Int64))) + (((((y0 - (((y0.toUInt64 >>> ((1 : Int32).toInt64.toUInt64 &&& Int64.toUInt64 63)).toInt64) &&& (6148914691236517205 : Int64))) &&& (3689348814741910323 : Int64)) + ((((y0 - (((y0.toUInt64 >>> ((1 : Int32).toInt64.toUInt64 &&& Int64.toUInt64 63)).toInt64) &&& (6148914691236517205 : Int64))).toUInt64 >>> ((2 : Int32).toInt64.toUInt64 &&& Int64.toUInt64 63)).toInt64) &&& (3689348814741910323 : Int64))).toUInt64 >>> ((4 : Int32).toInt64.toUInt64 &&& Int64.toUInt64 63)).toInt64)) &&& (1085102592571150095 : Int64)) + (((((((y0 - (((y0.toUInt64 >>> ((1 : Int32).toInt64.toUInt64 &&& Int64.toUInt64 63)).toInt64) &&& (6148914691236517205 : Int64))) &&& (3689348814741910323 : Int64)) + ((((y0 - (((y0.toUInt64 >>> ((1 : Int32).toInt64.toUInt64 &&& Int64.toUInt64 63)).toInt64) &&& (6148914691236517205 : Int64))).toUInt64 >>> ((2 : Int32).toInt64.toUInt64 &&& Int64.toUInt64 63)).toInt64) &&& (3689348814741910323 : Int64))) + (((((y0 - (((y0.toUInt64 >>> ((1 : Int32).toInt64.toUInt64 &&& Int64.toUInt64 63)).toInt64) &&& (6148914691236517205 : Int64))) &&& (3689348814741910323 : Int64)) + ((((y0 - (((y0.toUInt64 >>> ((1 : Int32).toInt64.toUInt64 &&& Int64.toUInt64 63)).toInt64) &&& (6148914691236517205 : Int64))).toUInt64 >>> ((2 : Int32).toInt64.toUInt64 &&& Int64.toUInt64 63)).toInt64) &&& (3689348814741910323 : Int64))).toUInt64 >>> ((4 : Int32).toInt64.toUInt64 &&& Int64.toUInt64 63)).toInt64)) &&& (1085102592571150095 : Int64)).toUInt64 >>> ((8 : Int32).toInt64.toUInt64 &&& Int64.toUInt64 63)).toInt64)).toUInt64 >>> ((16 : Int32).toInt64.toUInt64 &&& Int64.toUInt64 63)).toInt64))), none]) dJ13_bitCount_95d88_47 rfl (Nat.le_of_ble_eq_true rfl) rfl rfl ?_
  refine r_lload_n C 0 dJ13_bitCount_95d88_48 rfl rfl ?_
  refine r_lload_n C 0 dJ13_bitCount_95d88_49 rfl rfl ?_
  refine r_bipush C 32 dJ13_bitCount_95d88_50 (by decide) ?_
  refine r_lushr C dJ13_bitCount_95d88_52 ?_
  refine r_ladd C dJ13_bitCount_95d88_53 ?_
  refine r_lstore_n C 0 (lv' := [some (.long ((((((((y0 - (((y0.toUInt64 >>> ((1 : Int32).toInt64.toUInt64 &&& Int64.toUInt64 63)).toInt64) &&& (6148914691236517205 : Int64))) &&& (3689348814741910323 : Int64)) + ((((y0 - (((y0.toUInt64 >>> ((1 : Int32).toInt64.toUInt64 &&& Int64.toUInt64 63)).toInt64) &&& (6148914691236517205 : Int64))).toUInt64 >>> ((2 : Int32).toInt64.toUInt64 &&& Int64.toUInt64 63)).toInt64) &&& (3689348814741910323 : Int64))) + (((((y0 - (((y0.toUInt64 >>> ((1 : Int32).toInt64.toUInt64 &&& Int64.toUInt64 63)).toInt64) &&& (6148914691236517205 : Int64))) &&& (3689348814741910323 : Int64)) + ((((y0 - (((y0.toUInt64 >>> ((1 : Int32).toInt64.toUInt64 &&& Int64.toUInt64 63)).toInt64) &&& (6148914691236517205 : Int64))).toUInt64 >>> ((2 : Int32).toInt64.toUInt64 &&& Int64.toUInt64 63)).toInt64) &&& (3689348814741910323 : Int64))).toUInt64 >>> ((4 : Int32).toInt64.toUInt64 &&& Int64.toUInt64 63)).toInt64)) &&& (1085102592571150095 : Int64)) + (((((((y0 - (((y0.toUInt64 >>> ((1 : Int32).toInt64.toUInt64 &&& Int64.toUInt64 63)).toInt64) &&& (6148914691236517205 : Int64))) &&& (3689348814741910323 : Int64)) + ((((y0 - (((y0.toUInt64 >>> ((1 : Int32).toInt64.toUInt64 &&& Int64.toUInt64 63)).toInt64) &&& (6148914691236517205 : Int64))).toUInt64 >>> ((2 : Int32).toInt64.toUInt64 &&& Int64.toUInt64 63)).toInt64) &&& (3689348814741910323 : Int64))) + (((((y0 - (((y0.toUInt64 >>> ((1 : Int32).toInt64.toUInt64 &&& Int64.toUInt64 63)).toInt64) &&& (6148914691236517205 : Int64))) &&& (3689348814741910323 : Int64)) + ((((y0 - (((y0.toUInt64 >>> ((1 : Int32).toInt64.toUInt64 &&& Int64.toUInt64 63)).toInt64) &&& (6148914691236517205 : Int64))).toUInt64 >>> ((2 : Int32).toInt64.toUInt64 &&& Int64.toUInt64 63)).toInt64) &&& (3689348814741910323 : Int64))).toUInt64 >>> ((4 : Int32).toInt64.toUInt64 &&& Int64.toUInt64 63)).toInt64)) &&& (1085102592571150095 : Int64)).toUInt64 >>> ((8 : Int32).toInt64.toUInt64 &&& Int64.toUInt64 63)).toInt64)) + ((((((((y0 - (((y0.toUInt64 >>> ((1 : Int32).toInt64.toUInt64 &&& Int64.toUInt64 63)).toInt64) &&& (6148914691236517205 : Int64))) &&& (3689348814741910323 : Int64)) + ((((y0 - (((y0.toUInt64 >>> ((1 : Int32).toInt64.toUInt64 &&& Int64.toUInt64 63)).toInt64) &&& (6148914691236517205 : Int64))).toUInt64 >>> ((2 : Int32).toInt64.toUInt64 &&& Int64.toUInt64 63)).toInt64) &&& (3689348814741910323 : Int64))) + (((((y0 - (((y0.toUInt64 >>> ((1 : Int32).toInt64.toUInt64 &&& Int64.toUInt64 63)).toInt64) &&& (6148914691236517205 : Int64))) &&& (3689348814741910323 : Int64)) + ((((y0 - (((y0.toUInt64 >>> ((1 : Int32).toInt64.toUInt64 &&& Int64.toUInt64 63)).toInt64) &&& (6148914691236517205 : Int64))).toUInt64 >>> ((2 : Int32).toInt64.toUInt64 &&& Int64.toUInt64 63)).toInt64) &&& (3689348814741910323 : Int64))).toUInt64 >>> ((4 : Int32).toInt64.toUInt64 &&& Int64.toUInt64 63)).toInt64)) &&& (1085102592571150095 : Int64)) + (((((((y0 - (((y0.toUInt64 >>> ((1 : Int32).toInt64.toUInt64 &&& Int64.toUInt64 63)).toInt64) &&& (6148914691236517205 : Int64))) &&& (3689348814741910323 : Int64)) + ((((y0 - (((y0.toUInt64 >>> ((1 : Int32).toInt64.toUInt64 &&& Int64.toUInt64 63)).toInt64) &&& (6148914691236517205 : Int64))).toUInt64 >>> ((2 : Int32).toInt64.toUInt64 &&& Int64.toUInt64 63)).toInt64) &&& (3689348814741910323 : Int64))) + (((((y0 - (((y0.toUInt64 >>> ((1 : Int32).toInt64.toUInt64 &&& Int64.toUInt64 63)).toInt64) &&& (6148914691236517205 : Int64))) &&& (3689348814741910323 : Int64)) + ((((y0 - (((y0.toUInt64 >>> ((1 : Int32).toInt64.toUInt64 &&& Int64.toUInt64 63)).toInt64) &&& (6148914691236517205 : Int64))).toUInt64 >>> ((2 : Int32).toInt64.toUInt64 &&& Int64.toUInt64 63)).toInt64) &&& (3689348814741910323 : Int64))).toUInt64 >>> ((4 : Int32).toInt64.toUInt64 &&& Int64.toUInt64 63)).toInt64)) &&& (1085102592571150095 : Int64)).toUInt64 >>> ((8 : Int32).toInt64.toUInt64 &&& Int64.toUInt64 63)).toInt64)).toUInt64 >>> ((16 : Int32).toInt64.toUInt64 &&& Int64.toUInt64 63)).toInt64)) + (((((((((y0 - (((y0.toUInt64 >>> ((1 : Int32).toInt64.toUInt64 &&& Int64.toUInt64 63)).toInt64) &&& (6148914691236517205 : Int64))) &&& (3689348814741910323 : Int64)) + ((((y0 - (((y0.toUInt64 >>> ((1 : Int32).toInt64.toUInt64 &&& Int64.toUInt64 63)).toInt64) &&& (6148914691236517205 : Int64))).toUInt64 >>> ((2 : Int32).toInt64.toUInt64 &&& Int64.toUInt64 63)).toInt64) &&& (3689348814741910323 : Int64))) + (((((y0 - (((y0.toUInt64 >>> ((1 : Int32).toInt64.toUInt64 &&& Int64.toUInt64 63)).toInt64) &&& (6148914691236517205 : Int64))) &&& (3689348814741910323 : Int64)) + ((((y0 - (((y0.toUInt64 >>> ((1 : Int32).toInt64.toUInt64 &&& Int64.toUInt64 63)).toInt64) &&& (6148914691236517205 : Int64))).toUInt64 >>> ((2 : Int32).toInt64.toUInt64 &&& Int64.toUInt64 63)).toInt64) &&& (3689348814741910323 : Int64))).toUInt64 >>> ((4 : Int32).toInt64.toUInt64 &&& Int64.toUInt64 63)).toInt64)) &&& (1085102592571150095 : Int64)) + (((((((y0 - (((y0.toUInt64 >>> ((1 : Int32).toInt64.toUInt64 &&& Int64.toUInt64 63)).toInt64) &&& (6148914691236517205 : Int64))) &&& (3689348814741910323 : Int64)) + ((((y0 - (((y0.toUInt64 >>> ((1 : Int32).toInt64.toUInt64 &&& Int64.toUInt64 63)).toInt64) &&& (6148914691236517205 : Int64))).toUInt64 >>> ((2 : Int32).toInt64.toUInt64 &&& Int64.toUInt64 63)).toInt64) &&& (3689348814741910323 : Int64))) + (((((y0 - (((y0.toUInt64 >>> ((1 : Int32).toInt64.toUInt64 &&& Int64.toUInt64 63)).toInt64) &&& (6148914691236517205 : Int64))) &&& (3689348814741910323 : Int64)) + ((((y0 - (((y0.toUInt64 >>> ((1 : Int32).toInt64.toUInt64 &&& Int64.toUInt64 63)).toInt64) &&& (6148914691236517205 : Int64))).toUInt64 >>> ((2 : Int32).toInt64.toUInt64 &&& Int64.toUInt64 63)).toInt64) &&& (3689348814741910323 : Int64))).toUInt64 >>> ((4 : Int32).toInt64.toUInt64 &&& Int64.toUInt64 63)).toInt64)) &&& (1085102592571150095 : Int64)).toUInt64 >>> ((8 : Int32).toInt64.toUInt64 &&& Int64.toUInt64 63)).toInt64)) + ((((((((y0 - (((y0.toUInt64 >>> ((1 : Int32).toInt64.toUInt64 &&& Int64.toUInt64 63)).toInt64) &&& (6148914691236517205 : Int64))) &&& (3689348814741910323 : Int64)) + ((((y0 - (((y0.toUInt64 >>> ((1 : Int32).toInt64.toUInt64 &&& Int64.toUInt64 63)).toInt64) &&& (6148914691236517205 : Int64))).toUInt64 >>> ((2 : Int32).toInt64.toUInt64 &&& Int64.toUInt64 63)).toInt64) &&& (3689348814741910323 : Int64))) + (((((y0 - (((y0.toUInt64 >>> ((1 : Int32).toInt64.toUInt64 &&& Int64.toUInt64 63)).toInt64) &&& (6148914691236517205 : Int64))) &&& (3689348814741910323 : Int64)) + ((((y0 - (((y0.toUInt64 >>> ((1 : Int32).toInt64.toUInt64 &&& Int64.toUInt64 63)).toInt64) &&& (6148914691236517205 : Int64))).toUInt64 >>> ((2 : Int32).toInt64.toUInt64 &&& Int64.toUInt64 63)).toInt64) &&& (3689348814741910323 : Int64))).toUInt64 >>> ((4 : Int32).toInt64.toUInt64 &&& Int64.toUInt64 63)).toInt64)) &&& (1085102592571150095 : Int64)) + (((((((y0 - (((y0.toUInt64 >>> ((1 : Int32).toInt64.toUInt64 &&& Int64.toUInt64 63)).toInt64) &&& (6148914691236517205 : Int64))) &&& (3689348814741910323 : Int64)) + ((((y0 - (((y0.toUInt64 >>> ((1 : Int32).toInt64.toUInt64 &&& Int64.toUInt64 63)).toInt64) &&& (6148914691236517205 : Int64))).toUInt64 >>> ((2 : Int32).toInt64.toUInt64 &&& Int64.toUInt64 63)).toInt64) &&& (3689348814741910323 : Int64))) + (((((y0 - (((y0.toUInt64 >>> ((1 : Int32).toInt64.toUInt64 &&& Int64.toUInt64 63)).toInt64) &&& (6148914691236517205 : Int64))) &&& (3689348814741910323 : Int64)) + ((((y0 - (((y0.toUInt64 >>> ((1 : Int32).toInt64.toUInt64 &&& Int64.toUInt64 63)).toInt64) &&& (6148914691236517205 : Int64))).toUInt64 >>> ((2 : Int32).toInt64.toUInt64 &&& Int64.toUInt64 63)).toInt64) &&& (3689348814741910323 : Int64))).toUInt64 >>> ((4 : Int32).toInt64.toUInt64 &&& Int64.toUInt64 63)).toInt64)) &&& (1085102592571150095 : Int64)).toUInt64 >>> ((8 : Int32).toInt64.toUInt64 &&& Int64.toUInt64 63)).toInt64)).toUInt64 >>> ((16 : Int32).toInt64.toUInt64 &&& Int64.toUInt64 63)).toInt64)).toUInt64 >>> ((32 : Int32).toInt64.toUInt64 &&& Int64.toUInt64 63)).toInt64))), none]) dJ13_bitCount_95d88_54 rfl (Nat.le_of_ble_eq_true rfl) rfl rfl ?_
  refine r_lload_n C 0 dJ13_bitCount_95d88_55 rfl rfl ?_
  refine r_l2i C dJ13_bitCount_95d88_56 ?_
  refine r_bipush C 127 dJ13_bitCount_95d88_57 (by decide) ?_
  refine r_iand C dJ13_bitCount_95d88_59 ?_
  exact r_iret C E0 hr ⟨_, rfl, h⟩ dJ13_bitCount_95d88_60
def wX1_endFromCache_2 (X : Xt) (Pr : Gt → Prop) (k2 : Gt → Nat → Nat → Int32 → Prop) (G : Gt) (a0 : Nat) (a1 : Nat) (x2 : Int32) : Prop := gT G a1 = (1, 9) ∧ ((gI G 291 a1) ≤ x2 → gT G a1 = (1, 9) ∧ ∀ G21, G21 = sI G 298 a1 1 → gT G21 a0 = (1, 2) ∧ gT G21 a1 = (1, 9) ∧ wX8_settle X G21 a1 1 0 (gI G21 71 a0) (fun G22 => Pr G22)) ∧ (¬ ((gI G 291 a1) ≤ x2) → gT G a1 = (1, 9) ∧ ∃ b41, gR G 294 a1 = some b41 ∧ gT G a0 = (1, 2) ∧ ∃ b42, gR G 67 a0 = some b42 ∧ gT G a1 = (1, 9) ∧ gT G a1 = (1, 9) ∧ gT G b42 = (1, 1) ∧ wX0_valueOf X G b42 (gI G 289 a1) ((gI G 290 a1) + x2) (fun r43 G44 => (gT G44 b41).1 = 2 ∧ vp_in x2 (gT G44 b41).2 ∧ ∀ G45, G45 = sA G44 b41 (upd (gA G44 b41) x2.toNatClampNeg r43) → k2 G45 a0 a1 (x2 + 1)))
set_option maxRecDepth 20000 in
theorem bX1_endFromCache_2 {X : Xt} {K : Kt} {l : Launch} {G0 : Gt} {Pr : Gt → Prop} (B : BX X K l cX1_endFromCache 3 RX1 2 44 G0 none "endFromCache") {k2 : Gt → Nat → Nat → Int32 → Prop} (hk2 : ∀ (G : Gt) (a0 : Nat) (a1 : Nat) (x2 : Int32), k2 G a0 a1 x2 → WM X K (QM X K G0 (rV Pr) noX) G 2 [some (.ref a0), some (.ref a1), some (.int x2)] []) {G : Gt} {a0 : Nat} {a1 : Nat} {x2 : Int32} (h : wX1_endFromCache_2 X Pr k2 G a0 a1 x2) : WM X K (QM X K G0 (rV Pr) noX) G 2 [some (.ref a0), some (.ref a1), some (.int x2)] [] := by
  obtain ⟨hL, C, E0, hr, hnm, hex, hfl⟩ := id B
  unfold wX1_endFromCache_2 at h
  refine r_iload_n C 2 dX1_endFromCache_2 rfl rfl ?_
  refine r_aloadR_n C 1 dX1_endFromCache_3 rfl rfl ?_
  obtain ⟨ht, h⟩ := h
  refine r_getI C fw_RX1_202 rfl ht dX1_endFromCache_4 ?_
  refine r_icmp_ge C 39 dX1_endFromCache_7 (by decide) (fun c => ?_) (fun c => ?_)
  · replace h := h.1 c
    refine r_aloadR_n C 1 dX1_endFromCache_39 rfl rfl ?_
    refine r_iconst C 1 dX1_endFromCache_40 (by decide) ?_
    obtain ⟨ht, h⟩ := h
    refine r_putZ C cw_9 fp_RX1_212 rfl ht (Or.inr rfl) dX1_endFromCache_41 ?_
    refine r_nm (fun G21 hG21 => ?_)
    replace h := h G21 hG21
    refine r_aloadR_n C 1 dX1_endFromCache_44 rfl rfl ?_
    refine r_iconst C 1 dX1_endFromCache_45 (by decide) ?_
    refine r_iconst C 0 dX1_endFromCache_46 (by decide) ?_
    refine r_aloadR_n C 0 dX1_endFromCache_47 rfl rfl ?_
    obtain ⟨ht, h⟩ := h
    refine r_getI C fw_RX1_53 rfl ht dX1_endFromCache_48 ?_
    obtain ⟨ht, h⟩ := h
    refine r_callV C (r := (RX8, TX8, 11)) hL yw_X8_settle vw_RX1_215 rfl rfl ht rfl rfl (Nat.le_of_ble_eq_true rfl) ⟨(Nat.le_of_ble_eq_true rfl), (Nat.le_of_ble_eq_true rfl)⟩ (mX8_settle hfl h) rfl dX1_endFromCache_51 (kV' (fun G22 h => ?_)) kN
    exact r_vret C E0 hr ⟨rfl, h⟩ dX1_endFromCache_54
  · replace h := h.2 c
    refine r_aloadR_n C 1 dX1_endFromCache_10 rfl rfl ?_
    obtain ⟨ht, h⟩ := h
    obtain ⟨b41, hb, h⟩ := h
    refine r_getR C fw_RX1_205 rfl ht hb dX1_endFromCache_11 ?_
    refine r_iload_n C 2 dX1_endFromCache_14 rfl rfl ?_
    refine r_aloadR_n C 0 dX1_endFromCache_15 rfl rfl ?_
    obtain ⟨ht, h⟩ := h
    obtain ⟨b42, hb, h⟩ := h
    refine r_getR C fw_RX1_28 rfl ht hb dX1_endFromCache_16 ?_
    refine r_aloadR_n C 1 dX1_endFromCache_19 rfl rfl ?_
    obtain ⟨ht, h⟩ := h
    refine r_getI C fw_RX1_134 rfl ht dX1_endFromCache_20 ?_
    refine r_aloadR_n C 1 dX1_endFromCache_23 rfl rfl ?_
    obtain ⟨ht, h⟩ := h
    refine r_getI C fw_RX1_130 rfl ht dX1_endFromCache_24 ?_
    refine r_iload_n C 2 dX1_endFromCache_27 rfl rfl ?_
    refine r_iadd C dX1_endFromCache_28 ?_
    obtain ⟨ht, h⟩ := h
    refine r_callV C (r := (RX0, TX0, 2)) hL yw_X0_valueOf vw_RX1_208 rfl rfl ht rfl rfl (Nat.le_of_ble_eq_true rfl) ⟨(Nat.le_of_ble_eq_true rfl), (Nat.le_of_ble_eq_true rfl)⟩ (mX0_valueOf hfl h) rfl dX1_endFromCache_29 (kI (fun r43 G44 h => ?_)) kN
    obtain ⟨ht, hi, h⟩ := h
    refine r_iastP C ht hi dX1_endFromCache_32 ?_
    refine r_nm (fun G45 hG45 => ?_)
    replace h := h G45 hG45
    refine r_iinc C 1 (lv' := [some (.ref a0), some (.ref a1), some (.int (x2 + 1))]) dX1_endFromCache_33 rfl (by decide) rfl rfl ?_
    refine r_goto C 2 dX1_endFromCache_36 (by decide) ?_
    exact hk2 _ _ _ _ h
theorem lX1_endFromCache_2 {X : Xt} {K : Kt} {l : Launch} {G0 : Gt} {Pr : Gt → Prop} (B : BX X K l cX1_endFromCache 3 RX1 2 44 G0 none "endFromCache") (I : Gt → Nat → Nat → Int32 → Prop) (μ : Gt → Nat → Nat → Int32 → Nat) (hS : ∀ (G : Gt) (a0 : Nat) (a1 : Nat) (x2 : Int32), I G a0 a1 x2 → wX1_endFromCache_2 X Pr (fun G' a0' a1' x2' => I G' a0' a1' x2' ∧ μ G' a0' a1' x2' < μ G a0 a1 x2) G a0 a1 x2) : ∀ (n : Nat) (G : Gt) (a0 : Nat) (a1 : Nat) (x2 : Int32), μ G a0 a1 x2 < n → I G a0 a1 x2 → WM X K (QM X K G0 (rV Pr) noX) G 2 [some (.ref a0), some (.ref a1), some (.int x2)] [] := by
  intro n
  induction n with
  | zero => intro G a0 a1 x2 hm; exact absurd hm (Nat.not_lt_zero _)
  | succ n ih =>
    intro G a0 a1 x2 hm hi
    exact bX1_endFromCache_2 B (fun G' a0' a1' x2' hk => ih G' a0' a1' x2' (Nat.lt_of_lt_of_le hk.2 (Nat.le_of_lt_succ hm)) hk.1) (hS G a0 a1 x2 hi)
def wX1_endFromCache (X : Xt) (G : Gt) (a0 : Nat) (a1 : Nat) (Pr : Gt → Prop) : Prop := ∃ (I : Gt → Nat → Nat → Int32 → Prop) (μ : Gt → Nat → Nat → Int32 → Nat), I G a0 a1 (0 : Int32) ∧ ∀ (G : Gt) (a0 : Nat) (a1 : Nat) (x2 : Int32), I G a0 a1 x2 → wX1_endFromCache_2 X Pr (fun G' a0' a1' x2' => I G' a0' a1' x2' ∧ μ G' a0' a1' x2' < μ G a0 a1 x2) G a0 a1 x2
set_option maxRecDepth 20000 in
theorem mX1_endFromCache {X : Xt} {l : Launch} (hfl : l.stackTraces = false) {G : Gt} {a0 : Nat} {a1 : Nat} {Pr : Gt → Prop} (h : wX1_endFromCache X G a0 a1 Pr) : Mc X l yX1_endFromCache (.code yX1_endFromCache cX1_endFromCache 3 none) 2 44 [.ref a0, .ref a1] G (rV Pr) noX := by
  refine Mc.of (by decide +kernel) hfl [some (.ref a0), some (.ref a1), none] rfl (Nat.le_of_ble_eq_true rfl) rfl ?_
  intro K hL C E0 hr hnm hex
  have B : BX X K l cX1_endFromCache 3 RX1 2 44 G none "endFromCache" := ⟨hL, C, E0, hr, hnm, hex, hfl⟩
  have C : Cx X K cX1_endFromCache 3 RX1 2 44 := C
  unfold wX1_endFromCache at h
  refine r_iconst C 0 dX1_endFromCache_0 (by decide) ?_
  refine r_istore_n C 2 (lv' := [some (.ref a0), some (.ref a1), some (.int 0)]) dX1_endFromCache_1 rfl (Nat.le_of_ble_eq_true rfl) rfl rfl ?_
  obtain ⟨I, μ, hI, hS⟩ := h
  exact lX1_endFromCache_2 B I μ hS _ _ _ _ _ (Nat.lt_succ_self _) hI
def wX4_dropBefore_10 (X : Xt) (Pr : Gt → Prop) (Px : String → Gt → Prop) (k10 : Gt → Nat → Int32 → Int32 → Prop) (G : Gt) (a0 : Nat) (x1 : Int32) (x2 : Int32) : Prop := (x2 < 0 → Pr G) ∧ (¬ (x2 < 0) → gT G a0 = (1, 5) ∧ ∃ b41, gR G 160 a0 = some b41 ∧ gT G b41 = (1, 0) ∧ wJx4a65c_get_915e3 X G b41 x2 (fun r42 G43 => ∃ b44, r42 = some b44 ∧ gT G43 b44 = (1, 8) ∧ gT G43 b44 = (1, 8) ∧ (x1 ≤ (gI G43 257 b44) → k10 G43 a0 x1 (x2 + (-1))) ∧ (¬ (x1 ≤ (gI G43 257 b44)) → gT G43 a0 = (1, 5) ∧ ∃ b85, gR G43 160 a0 = some b85 ∧ gT G43 b85 = (1, 0) ∧ wJx4a65c_remove_915e3 X G43 b85 x2 (fun r86 G87 => ∃ b88, r86 = some b88 ∧ gT G87 b88 = (1, 8) ∧ gT G87 a0 = (1, 5) ∧ wX4_recycle X G87 a0 b88 (fun G89 => k10 G89 a0 x1 (x2 + (-1)))) Px)) Px)
set_option maxRecDepth 20000 in
theorem bX4_dropBefore_10 {X : Xt} {K : Kt} {l : Launch} {G0 : Gt} {Pr : Gt → Prop} {Px : String → Gt → Prop} (B : BX X K l cX4_dropBefore 3 RX4 8 192 G0 none "dropBefore") {k10 : Gt → Nat → Int32 → Int32 → Prop} (hk10 : ∀ (G : Gt) (a0 : Nat) (x1 : Int32) (x2 : Int32), k10 G a0 x1 x2 → WM X K (QM X K G0 (rV Pr) Px) G 10 [some (.ref a0), some (.int x1), some (.int x2)] []) {G : Gt} {a0 : Nat} {x1 : Int32} {x2 : Int32} (h : wX4_dropBefore_10 X Pr Px k10 G a0 x1 x2) : WM X K (QM X K G0 (rV Pr) Px) G 10 [some (.ref a0), some (.int x1), some (.int x2)] [] := by
  obtain ⟨hL, C, E0, hr, hnm, hex, hfl⟩ := id B
  unfold wX4_dropBefore_10 at h
  refine r_iload_n C 2 dX4_dropBefore_10 rfl rfl ?_
  refine r_if_lt C 53 dX4_dropBefore_11 (by decide) (fun c => ?_) (fun c => ?_)
  · replace h := h.1 c
    exact r_vret C E0 hr ⟨rfl, h⟩ dX4_dropBefore_53
  · replace h := h.2 c
    refine r_aloadR_n C 0 dX4_dropBefore_14 rfl rfl ?_
    obtain ⟨ht, h⟩ := h
    obtain ⟨b41, hb, h⟩ := h
    refine r_getR C fw_RX4_10 rfl ht hb dX4_dropBefore_15 ?_
    refine r_iload_n C 2 dX4_dropBefore_18 rfl rfl ?_
    obtain ⟨ht, h⟩ := h
    refine r_callV C (r := (RJx4a65c, TJx4a65c, 3)) hL yw_Jx4a65c_get_915e3 vw_RX4_37 rfl rfl ht rfl rfl (Nat.le_of_ble_eq_true rfl) ⟨(Nat.le_of_ble_eq_true rfl), (Nat.le_of_ble_eq_true rfl)⟩ (mJx4a65c_get_915e3 hfl h) rfl dX4_dropBefore_19 (kA' (fun r42 G43 h => ?_)) (kO C E0 hex)
    obtain ⟨b44, hb, ht, h⟩ := h
    subst hb
    refine r_cast C (r := (RX7, TX7, 3)) rfl cl_RX4_27 ht dX4_dropBefore_22 ?_
    obtain ⟨ht, h⟩ := h
    refine r_getI C fw_RX4_52 rfl ht dX4_dropBefore_25 ?_
    refine r_iload_n C 1 dX4_dropBefore_28 rfl rfl ?_
    refine r_icmp_ge C 47 dX4_dropBefore_29 (by decide) (fun c => ?_) (fun c => ?_)
    · replace h := h.1 c
      refine r_iinc C (-1) (lv' := [some (.ref a0), some (.int x1), some (.int (x2 + (-1)))]) dX4_dropBefore_47 rfl (by decide) rfl rfl ?_
      refine r_goto C 10 dX4_dropBefore_50 (by decide) ?_
      exact hk10 _ _ _ _ h
    · replace h := h.2 c
      refine r_aloadR_n C 0 dX4_dropBefore_32 rfl rfl ?_
      refine r_aloadR_n C 0 dX4_dropBefore_33 rfl rfl ?_
      obtain ⟨ht, h⟩ := h
      obtain ⟨b85, hb, h⟩ := h
      refine r_getR C fw_RX4_10 rfl ht hb dX4_dropBefore_34 ?_
      refine r_iload_n C 2 dX4_dropBefore_37 rfl rfl ?_
      obtain ⟨ht, h⟩ := h
      refine r_callV C (r := (RJx4a65c, TJx4a65c, 3)) hL yw_Jx4a65c_remove_915e3 vw_RX4_23 rfl rfl ht rfl rfl (Nat.le_of_ble_eq_true rfl) ⟨(Nat.le_of_ble_eq_true rfl), (Nat.le_of_ble_eq_true rfl)⟩ (mJx4a65c_remove_915e3 hfl h) rfl dX4_dropBefore_38 (kA' (fun r86 G87 h => ?_)) (kO C E0 hex)
      obtain ⟨b88, hb, ht, h⟩ := h
      subst hb
      refine r_cast C (r := (RX7, TX7, 3)) rfl cl_RX4_27 ht dX4_dropBefore_41 ?_
      obtain ⟨ht, h⟩ := h
      refine r_callV C (r := (RX4, TX4, 2)) hL yw_X4_recycle vw_RX4_29 rfl rfl ht rfl rfl (Nat.le_of_ble_eq_true rfl) ⟨(Nat.le_of_ble_eq_true rfl), (Nat.le_of_ble_eq_true rfl)⟩ (mX4_recycle hfl h) rfl dX4_dropBefore_44 (kV' (fun G89 h => ?_)) kN
      refine r_iinc C (-1) (lv' := [some (.ref a0), some (.int x1), some (.int (x2 + (-1)))]) dX4_dropBefore_47 rfl (by decide) rfl rfl ?_
      refine r_goto C 10 dX4_dropBefore_50 (by decide) ?_
      exact hk10 _ _ _ _ h
theorem lX4_dropBefore_10 {X : Xt} {K : Kt} {l : Launch} {G0 : Gt} {Pr : Gt → Prop} {Px : String → Gt → Prop} (B : BX X K l cX4_dropBefore 3 RX4 8 192 G0 none "dropBefore") (I : Gt → Nat → Int32 → Int32 → Prop) (μ : Gt → Nat → Int32 → Int32 → Nat) (hS : ∀ (G : Gt) (a0 : Nat) (x1 : Int32) (x2 : Int32), I G a0 x1 x2 → wX4_dropBefore_10 X Pr Px (fun G' a0' x1' x2' => I G' a0' x1' x2' ∧ μ G' a0' x1' x2' < μ G a0 x1 x2) G a0 x1 x2) : ∀ (n : Nat) (G : Gt) (a0 : Nat) (x1 : Int32) (x2 : Int32), μ G a0 x1 x2 < n → I G a0 x1 x2 → WM X K (QM X K G0 (rV Pr) Px) G 10 [some (.ref a0), some (.int x1), some (.int x2)] [] := by
  intro n
  induction n with
  | zero => intro G a0 x1 x2 hm; exact absurd hm (Nat.not_lt_zero _)
  | succ n ih =>
    intro G a0 x1 x2 hm hi
    exact bX4_dropBefore_10 B (fun G' a0' x1' x2' hk => ih G' a0' x1' x2' (Nat.lt_of_lt_of_le hk.2 (Nat.le_of_lt_succ hm)) hk.1) (hS G a0 x1 x2 hi)
def wX4_dropBefore (X : Xt) (G : Gt) (a0 : Nat) (x1 : Int32) (Pr : Gt → Prop) (Px : String → Gt → Prop) : Prop := gT G a0 = (1, 5) ∧ ∃ b1, gR G 160 a0 = some b1 ∧ gT G b1 = (1, 0) ∧ wJx4a65c_size_8abf5 X G b1 (fun r2 G3 => ∃ (I : Gt → Nat → Int32 → Int32 → Prop) (μ : Gt → Nat → Int32 → Int32 → Nat), I G3 a0 x1 (r2 - 1) ∧ ∀ (G : Gt) (a0 : Nat) (x1 : Int32) (x2 : Int32), I G a0 x1 x2 → wX4_dropBefore_10 X Pr Px (fun G' a0' x1' x2' => I G' a0' x1' x2' ∧ μ G' a0' x1' x2' < μ G a0 x1 x2) G a0 x1 x2)
set_option maxRecDepth 20000 in
theorem mX4_dropBefore {X : Xt} {l : Launch} (hfl : l.stackTraces = false) {G : Gt} {a0 : Nat} {x1 : Int32} {Pr : Gt → Prop} {Px : String → Gt → Prop} (h : wX4_dropBefore X G a0 x1 Pr Px) : Mc X l yX4_dropBefore (.code yX4_dropBefore cX4_dropBefore 3 none) 8 192 [.ref a0, .int x1] G (rV Pr) Px := by
  refine Mc.of (by decide +kernel) hfl [some (.ref a0), some (.int x1), none] rfl (Nat.le_of_ble_eq_true rfl) rfl ?_
  intro K hL C E0 hr hnm hex
  have B : BX X K l cX4_dropBefore 3 RX4 8 192 G none "dropBefore" := ⟨hL, C, E0, hr, hnm, hex, hfl⟩
  have C : Cx X K cX4_dropBefore 3 RX4 8 192 := C
  unfold wX4_dropBefore at h
  refine r_aloadR_n C 0 dX4_dropBefore_0 rfl rfl ?_
  obtain ⟨ht, h⟩ := h
  obtain ⟨b1, hb, h⟩ := h
  refine r_getR C fw_RX4_10 rfl ht hb dX4_dropBefore_1 ?_
  obtain ⟨ht, h⟩ := h
  refine r_callV C (r := (RJx4a65c, TJx4a65c, 3)) hL yw_Jx4a65c_size_8abf5 vw_RX4_19 rfl rfl ht rfl rfl (Nat.le_of_ble_eq_true rfl) ⟨(Nat.le_of_ble_eq_true rfl), (Nat.le_of_ble_eq_true rfl)⟩ (mJx4a65c_size_8abf5 hfl h) rfl dX4_dropBefore_4 (kI (fun r2 G3 h => ?_)) kN
  refine r_iconst C 1 dX4_dropBefore_7 (by decide) ?_
  refine r_isub C dX4_dropBefore_8 ?_
  refine r_istore_n C 2 (lv' := [some (.ref a0), some (.int x1), some (.int (r2 - 1))]) dX4_dropBefore_9 rfl (Nat.le_of_ble_eq_true rfl) rfl rfl ?_
  obtain ⟨I, μ, hI, hS⟩ := h
  exact lX4_dropBefore_10 B I μ hS _ _ _ _ _ (Nat.lt_succ_self _) hI
def wX2_dropFirstFault_2 (X : Xt) (Pr : Gt → Prop) (k2 : Gt → Nat → Int32 → Prop) (G : Gt) (a0 : Nat) (x1 : Int32) : Prop := gT G a0 = (1, 3) ∧ ((gI G 99 a0) ≤ x1 → gT G a0 = (1, 3) ∧ gT G a0 = (1, 3) ∧ ∀ G21, G21 = sI G 99 a0 ((gI G 99 a0) - 1) → Pr G21) ∧ (¬ ((gI G 99 a0) ≤ x1) → gT G a0 = (1, 3) ∧ ∃ b41, gR G 97 a0 = some b41 ∧ gT G a0 = (1, 3) ∧ ∃ b42, gR G 97 a0 = some b42 ∧ (gT G b42).1 = 2 ∧ vp_in x1 (gT G b42).2 ∧ (gT G b41).1 = 2 ∧ vp_in (x1 - 1) (gT G b41).2 ∧ ∀ G43, G43 = sA G b41 (upd (gA G b41) (x1 - 1).toNatClampNeg (gA G b42 x1.toNatClampNeg)) → gT G43 a0 = (1, 3) ∧ ∃ b44, gR G43 98 a0 = some b44 ∧ gT G43 a0 = (1, 3) ∧ ∃ b45, gR G43 98 a0 = some b45 ∧ (gT G43 b45).1 = 2 ∧ vp_in x1 (gT G43 b45).2 ∧ (gT G43 b44).1 = 2 ∧ vp_in (x1 - 1) (gT G43 b44).2 ∧ ∀ G46, G46 = sA G43 b44 (upd (gA G43 b44) (x1 - 1).toNatClampNeg (gA G43 b45 x1.toNatClampNeg)) → k2 G46 a0 (x1 + 1))
set_option maxRecDepth 20000 in
theorem bX2_dropFirstFault_2 {X : Xt} {K : Kt} {l : Launch} {G0 : Gt} {Pr : Gt → Prop} (B : BX X K l cX2_dropFirstFault 2 RX2 0 0 G0 none "dropFirstFault") {k2 : Gt → Nat → Int32 → Prop} (hk2 : ∀ (G : Gt) (a0 : Nat) (x1 : Int32), k2 G a0 x1 → WM X K (QM X K G0 (rV Pr) noX) G 2 [some (.ref a0), some (.int x1)] []) {G : Gt} {a0 : Nat} {x1 : Int32} (h : wX2_dropFirstFault_2 X Pr k2 G a0 x1) : WM X K (QM X K G0 (rV Pr) noX) G 2 [some (.ref a0), some (.int x1)] [] := by
  obtain ⟨hL, C, E0, hr, hnm, hex, hfl⟩ := id B
  unfold wX2_dropFirstFault_2 at h
  refine r_iload_n C 1 dX2_dropFirstFault_2 rfl rfl ?_
  refine r_aloadR_n C 0 dX2_dropFirstFault_3 rfl rfl ?_
  obtain ⟨ht, h⟩ := h
  refine r_getI C fw_RX2_21 rfl ht dX2_dropFirstFault_4 ?_
  refine r_icmp_ge C 44 dX2_dropFirstFault_7 (by decide) (fun c => ?_) (fun c => ?_)
  · replace h := h.1 c
    refine r_aloadR_n C 0 dX2_dropFirstFault_44 rfl rfl ?_
    refine r_dup C dX2_dropFirstFault_45 rfl ?_
    obtain ⟨ht, h⟩ := h
    refine r_getI C fw_RX2_21 rfl ht dX2_dropFirstFault_46 ?_
    refine r_iconst C 1 dX2_dropFirstFault_49 (by decide) ?_
    refine r_isub C dX2_dropFirstFault_50 ?_
    obtain ⟨ht, h⟩ := h
    refine r_putI C cw_3 fp_RX2_21 rfl ht dX2_dropFirstFault_51 ?_
    refine r_nm (fun G21 hG21 => ?_)
    replace h := h G21 hG21
    exact r_vret C E0 hr ⟨rfl, h⟩ dX2_dropFirstFault_54
  · replace h := h.2 c
    refine r_aloadR_n C 0 dX2_dropFirstFault_10 rfl rfl ?_
    obtain ⟨ht, h⟩ := h
    obtain ⟨b41, hb, h⟩ := h
    refine r_getR C fw_RX2_15 rfl ht hb dX2_dropFirstFault_11 ?_
    refine r_iload_n C 1 dX2_dropFirstFault_14 rfl rfl ?_
    refine r_iconst C 1 dX2_dropFirstFault_15 (by decide) ?_
    refine r_isub C dX2_dropFirstFault_16 ?_
    refine r_aloadR_n C 0 dX2_dropFirstFault_17 rfl rfl ?_
    obtain ⟨ht, h⟩ := h
    obtain ⟨b42, hb, h⟩ := h
    refine r_getR C fw_RX2_15 rfl ht hb dX2_dropFirstFault_18 ?_
    refine r_iload_n C 1 dX2_dropFirstFault_21 rfl rfl ?_
    obtain ⟨ht, hi, h⟩ := h
    refine r_ialdP C ht hi dX2_dropFirstFault_22 ?_
    obtain ⟨ht, hi, h⟩ := h
    refine r_iastP C ht hi dX2_dropFirstFault_23 ?_
    refine r_nm (fun G43 hG43 => ?_)
    replace h := h G43 hG43
    refine r_aloadR_n C 0 dX2_dropFirstFault_24 rfl rfl ?_
    obtain ⟨ht, h⟩ := h
    obtain ⟨b44, hb, h⟩ := h
    refine r_getR C fw_RX2_18 rfl ht hb dX2_dropFirstFault_25 ?_
    refine r_iload_n C 1 dX2_dropFirstFault_28 rfl rfl ?_
    refine r_iconst C 1 dX2_dropFirstFault_29 (by decide) ?_
    refine r_isub C dX2_dropFirstFault_30 ?_
    refine r_aloadR_n C 0 dX2_dropFirstFault_31 rfl rfl ?_
    obtain ⟨ht, h⟩ := h
    obtain ⟨b45, hb, h⟩ := h
    refine r_getR C fw_RX2_18 rfl ht hb dX2_dropFirstFault_32 ?_
    refine r_iload_n C 1 dX2_dropFirstFault_35 rfl rfl ?_
    obtain ⟨ht, hi, h⟩ := h
    refine r_ialdP C ht hi dX2_dropFirstFault_36 ?_
    obtain ⟨ht, hi, h⟩ := h
    refine r_iastP C ht hi dX2_dropFirstFault_37 ?_
    refine r_nm (fun G46 hG46 => ?_)
    replace h := h G46 hG46
    refine r_iinc C 1 (lv' := [some (.ref a0), some (.int (x1 + 1))]) dX2_dropFirstFault_38 rfl (by decide) rfl rfl ?_
    refine r_goto C 2 dX2_dropFirstFault_41 (by decide) ?_
    exact hk2 _ _ _ h
theorem lX2_dropFirstFault_2 {X : Xt} {K : Kt} {l : Launch} {G0 : Gt} {Pr : Gt → Prop} (B : BX X K l cX2_dropFirstFault 2 RX2 0 0 G0 none "dropFirstFault") (I : Gt → Nat → Int32 → Prop) (μ : Gt → Nat → Int32 → Nat) (hS : ∀ (G : Gt) (a0 : Nat) (x1 : Int32), I G a0 x1 → wX2_dropFirstFault_2 X Pr (fun G' a0' x1' => I G' a0' x1' ∧ μ G' a0' x1' < μ G a0 x1) G a0 x1) : ∀ (n : Nat) (G : Gt) (a0 : Nat) (x1 : Int32), μ G a0 x1 < n → I G a0 x1 → WM X K (QM X K G0 (rV Pr) noX) G 2 [some (.ref a0), some (.int x1)] [] := by
  intro n
  induction n with
  | zero => intro G a0 x1 hm; exact absurd hm (Nat.not_lt_zero _)
  | succ n ih =>
    intro G a0 x1 hm hi
    exact bX2_dropFirstFault_2 B (fun G' a0' x1' hk => ih G' a0' x1' (Nat.lt_of_lt_of_le hk.2 (Nat.le_of_lt_succ hm)) hk.1) (hS G a0 x1 hi)
def wX2_dropFirstFault (X : Xt) (G : Gt) (a0 : Nat) (Pr : Gt → Prop) : Prop := ∃ (I : Gt → Nat → Int32 → Prop) (μ : Gt → Nat → Int32 → Nat), I G a0 (1 : Int32) ∧ ∀ (G : Gt) (a0 : Nat) (x1 : Int32), I G a0 x1 → wX2_dropFirstFault_2 X Pr (fun G' a0' x1' => I G' a0' x1' ∧ μ G' a0' x1' < μ G a0 x1) G a0 x1
set_option maxRecDepth 20000 in
theorem mX2_dropFirstFault {X : Xt} {l : Launch} (hfl : l.stackTraces = false) {G : Gt} {a0 : Nat} {Pr : Gt → Prop} (h : wX2_dropFirstFault X G a0 Pr) : Mc X l yX2_dropFirstFault (.code yX2_dropFirstFault cX2_dropFirstFault 2 none) 0 0 [.ref a0] G (rV Pr) noX := by
  refine Mc.of (by decide +kernel) hfl [some (.ref a0), none] rfl (Nat.le_of_ble_eq_true rfl) rfl ?_
  intro K hL C E0 hr hnm hex
  have B : BX X K l cX2_dropFirstFault 2 RX2 0 0 G none "dropFirstFault" := ⟨hL, C, E0, hr, hnm, hex, hfl⟩
  have C : Cx X K cX2_dropFirstFault 2 RX2 0 0 := C
  unfold wX2_dropFirstFault at h
  refine r_iconst C 1 dX2_dropFirstFault_0 (by decide) ?_
  refine r_istore_n C 1 (lv' := [some (.ref a0), some (.int 1)]) dX2_dropFirstFault_1 rfl (Nat.le_of_ble_eq_true rfl) rfl rfl ?_
  obtain ⟨I, μ, hI, hS⟩ := h
  exact lX2_dropFirstFault_2 B I μ hS _ _ _ _ (Nat.lt_succ_self _) hI
def wX3_wordAt (X : Xt) (G : Gt) (a0 : Nat) (x1 : Int32) (Pr : Int32 → Gt → Prop) : Prop := (x1 < 0 → Pr 0 G) ∧ (¬ (x1 < 0) → gT G a0 = (1, 4) ∧ (((gI G 129 a0) - 1) ≤ x1 → Pr 0 G) ∧ (¬ (((gI G 129 a0) - 1) ≤ x1) → gT G a0 = (1, 4) ∧ ∃ b81, gR G 128 a0 = some b81 ∧ (gT G b81).1 = 2 ∧ vp_in x1 (gT G b81).2 ∧ gT G a0 = (1, 4) ∧ ∃ b82, gR G 128 a0 = some b82 ∧ (gT G b82).1 = 2 ∧ vp_in (x1 + 1) (gT G b82).2 ∧ Pr (((gA G b81 x1.toNatClampNeg) <<< (8 &&& 31)) ||| (gA G b82 (x1 + 1).toNatClampNeg)) G))
set_option maxRecDepth 20000 in
theorem mX3_wordAt {X : Xt} {l : Launch} (hfl : l.stackTraces = false) {G : Gt} {a0 : Nat} {x1 : Int32} {Pr : Int32 → Gt → Prop} (h : wX3_wordAt X G a0 x1 Pr) : Mc X l yX3_wordAt (.code yX3_wordAt cX3_wordAt 2 (some (.int))) 0 0 [.ref a0, .int x1] G (rI Pr) noX := by
  refine Mc.of (by decide +kernel) hfl [some (.ref a0), some (.int x1)] rfl (Nat.le_of_ble_eq_true rfl) rfl ?_
  intro K hL C E0 hr hnm hex
  have B : BX X K l cX3_wordAt 2 RX3 0 0 G (some (.int)) "wordAt" := ⟨hL, C, E0, hr, hnm, hex, hfl⟩
  have C : Cx X K cX3_wordAt 2 RX3 0 0 := C
  unfold wX3_wordAt at h
  refine r_iload_n C 1 dX3_wordAt_0 rfl rfl ?_
  refine r_if_lt C 35 dX3_wordAt_1 (by decide) (fun c => ?_) (fun c => ?_)
  · replace h := h.1 c
    refine r_iconst C 0 dX3_wordAt_35 (by decide) ?_
    exact r_iret C E0 hr ⟨_, rfl, h⟩ dX3_wordAt_36
  · replace h := h.2 c
    refine r_iload_n C 1 dX3_wordAt_4 rfl rfl ?_
    refine r_aloadR_n C 0 dX3_wordAt_5 rfl rfl ?_
    obtain ⟨ht, h⟩ := h
    refine r_getI C fw_RX3_15 rfl ht dX3_wordAt_6 ?_
    refine r_iconst C 1 dX3_wordAt_9 (by decide) ?_
    refine r_isub C dX3_wordAt_10 ?_
    refine r_icmp_ge C 35 dX3_wordAt_11 (by decide) (fun c => ?_) (fun c => ?_)
    · replace h := h.1 c
      refine r_iconst C 0 dX3_wordAt_35 (by decide) ?_
      exact r_iret C E0 hr ⟨_, rfl, h⟩ dX3_wordAt_36
    · replace h := h.2 c
      refine r_aloadR_n C 0 dX3_wordAt_14 rfl rfl ?_
      obtain ⟨ht, h⟩ := h
      obtain ⟨b81, hb, h⟩ := h
      refine r_getR C fw_RX3_9 rfl ht hb dX3_wordAt_15 ?_
      refine r_iload_n C 1 dX3_wordAt_18 rfl rfl ?_
      obtain ⟨ht, hi, h⟩ := h
      refine r_ialdP C ht hi dX3_wordAt_19 ?_
      refine r_bipush C 8 dX3_wordAt_20 (by decide) ?_
      refine r_ishl C dX3_wordAt_22 ?_
      refine r_aloadR_n C 0 dX3_wordAt_23 rfl rfl ?_
      obtain ⟨ht, h⟩ := h
      obtain ⟨b82, hb, h⟩ := h
      refine r_getR C fw_RX3_9 rfl ht hb dX3_wordAt_24 ?_
      refine r_iload_n C 1 dX3_wordAt_27 rfl rfl ?_
      refine r_iconst C 1 dX3_wordAt_28 (by decide) ?_
      refine r_iadd C dX3_wordAt_29 ?_
      obtain ⟨ht, hi, h⟩ := h
      refine r_ialdP C ht hi dX3_wordAt_30 ?_
      refine r_ior C dX3_wordAt_31 ?_
      refine r_goto C 36 dX3_wordAt_32 (by decide) ?_
      exact r_iret C E0 hr ⟨_, rfl, h⟩ dX3_wordAt_36
def wX3_startRegister (X : Xt) (G : Gt) (a0 : Nat) (Pr : Int32 → Gt → Prop) : Prop := gT G a0 = (1, 4) ∧ wX3_wordAt X G a0 2 (fun r1 G2 => Pr r1 G2)
set_option maxRecDepth 20000 in
theorem mX3_startRegister {X : Xt} {l : Launch} (hfl : l.stackTraces = false) {G : Gt} {a0 : Nat} {Pr : Int32 → Gt → Prop} (h : wX3_startRegister X G a0 Pr) : Mc X l yX3_startRegister (.code yX3_startRegister cX3_startRegister 1 (some (.int))) 1 21 [.ref a0] G (rI Pr) noX := by
  refine Mc.of (by decide +kernel) hfl [some (.ref a0)] rfl (Nat.le_of_ble_eq_true rfl) rfl ?_
  intro K hL C E0 hr hnm hex
  have B : BX X K l cX3_startRegister 1 RX3 1 21 G (some (.int)) "startRegister" := ⟨hL, C, E0, hr, hnm, hex, hfl⟩
  have C : Cx X K cX3_startRegister 1 RX3 1 21 := C
  unfold wX3_startRegister at h
  refine r_aloadR_n C 0 dX3_startRegister_0 rfl rfl ?_
  refine r_iconst C 2 dX3_startRegister_1 (by decide) ?_
  obtain ⟨ht, h⟩ := h
  refine r_callV C (r := (RX3, TX3, 2)) hL yw_X3_wordAt vw_RX3_43 rfl rfl ht rfl rfl (Nat.le_of_ble_eq_true rfl) ⟨(Nat.le_of_ble_eq_true rfl), (Nat.le_of_ble_eq_true rfl)⟩ (mX3_wordAt hfl h) rfl dX3_startRegister_2 (kI (fun r1 G2 h => ?_)) kN
  exact r_iret C E0 hr ⟨_, rfl, h⟩ dX3_startRegister_5
def wX3_byteAt (X : Xt) (G : Gt) (a0 : Nat) (x1 : Int32) (Pr : Int32 → Gt → Prop) : Prop := (x1 < 0 → Pr 0 G) ∧ (¬ (x1 < 0) → gT G a0 = (1, 4) ∧ ((gI G 129 a0) ≤ x1 → Pr 0 G) ∧ (¬ ((gI G 129 a0) ≤ x1) → gT G a0 = (1, 4) ∧ ∃ b81, gR G 128 a0 = some b81 ∧ (gT G b81).1 = 2 ∧ vp_in x1 (gT G b81).2 ∧ Pr (gA G b81 x1.toNatClampNeg) G))
set_option maxRecDepth 20000 in
theorem mX3_byteAt {X : Xt} {l : Launch} (hfl : l.stackTraces = false) {G : Gt} {a0 : Nat} {x1 : Int32} {Pr : Int32 → Gt → Prop} (h : wX3_byteAt X G a0 x1 Pr) : Mc X l yX3_byteAt (.code yX3_byteAt cX3_byteAt 2 (some (.int))) 0 0 [.ref a0, .int x1] G (rI Pr) noX := by
  refine Mc.of (by decide +kernel) hfl [some (.ref a0), some (.int x1)] rfl (Nat.le_of_ble_eq_true rfl) rfl ?_
  intro K hL C E0 hr hnm hex
  have B : BX X K l cX3_byteAt 2 RX3 0 0 G (some (.int)) "byteAt" := ⟨hL, C, E0, hr, hnm, hex, hfl⟩
  have C : Cx X K cX3_byteAt 2 RX3 0 0 := C
  unfold wX3_byteAt at h
  refine r_iload_n C 1 dX3_byteAt_0 rfl rfl ?_
  refine r_if_lt C 21 dX3_byteAt_1 (by decide) (fun c => ?_) (fun c => ?_)
  · replace h := h.1 c
    refine r_iconst C 0 dX3_byteAt_21 (by decide) ?_
    exact r_iret C E0 hr ⟨_, rfl, h⟩ dX3_byteAt_22
  · replace h := h.2 c
    refine r_iload_n C 1 dX3_byteAt_4 rfl rfl ?_
    refine r_aloadR_n C 0 dX3_byteAt_5 rfl rfl ?_
    obtain ⟨ht, h⟩ := h
    refine r_getI C fw_RX3_15 rfl ht dX3_byteAt_6 ?_
    refine r_icmp_ge C 21 dX3_byteAt_9 (by decide) (fun c => ?_) (fun c => ?_)
    · replace h := h.1 c
      refine r_iconst C 0 dX3_byteAt_21 (by decide) ?_
      exact r_iret C E0 hr ⟨_, rfl, h⟩ dX3_byteAt_22
    · replace h := h.2 c
      refine r_aloadR_n C 0 dX3_byteAt_12 rfl rfl ?_
      obtain ⟨ht, h⟩ := h
      obtain ⟨b81, hb, h⟩ := h
      refine r_getR C fw_RX3_9 rfl ht hb dX3_byteAt_13 ?_
      refine r_iload_n C 1 dX3_byteAt_16 rfl rfl ?_
      obtain ⟨ht, hi, h⟩ := h
      refine r_ialdP C ht hi dX3_byteAt_17 ?_
      refine r_goto C 22 dX3_byteAt_18 (by decide) ?_
      exact r_iret C E0 hr ⟨_, rfl, h⟩ dX3_byteAt_22
def wX3_registerCount (X : Xt) (G : Gt) (a0 : Nat) (Pr : Int32 → Gt → Prop) : Prop := gT G a0 = (1, 4) ∧ wX3_byteAt X G a0 1 (fun r1 G2 => (¬ r1 = 6 → gT G2 a0 = (1, 4) ∧ wX3_wordAt X G2 a0 4 (fun r23 G24 => Pr r23 G24)) ∧ (r1 = 6 → Pr 1 G2))
set_option maxRecDepth 20000 in
theorem mX3_registerCount {X : Xt} {l : Launch} (hfl : l.stackTraces = false) {G : Gt} {a0 : Nat} {Pr : Int32 → Gt → Prop} (h : wX3_registerCount X G a0 Pr) : Mc X l yX3_registerCount (.code yX3_registerCount cX3_registerCount 1 (some (.int))) 1 21 [.ref a0] G (rI Pr) noX := by
  refine Mc.of (by decide +kernel) hfl [some (.ref a0)] rfl (Nat.le_of_ble_eq_true rfl) rfl ?_
  intro K hL C E0 hr hnm hex
  have B : BX X K l cX3_registerCount 1 RX3 1 21 G (some (.int)) "registerCount" := ⟨hL, C, E0, hr, hnm, hex, hfl⟩
  have C : Cx X K cX3_registerCount 1 RX3 1 21 := C
  unfold wX3_registerCount at h
  refine r_aloadR_n C 0 dX3_registerCount_0 rfl rfl ?_
  refine r_iconst C 1 dX3_registerCount_1 (by decide) ?_
  obtain ⟨ht, h⟩ := h
  refine r_callV C (r := (RX3, TX3, 2)) hL yw_X3_byteAt vw_RX3_46 rfl rfl ht rfl rfl (Nat.le_of_ble_eq_true rfl) ⟨(Nat.le_of_ble_eq_true rfl), (Nat.le_of_ble_eq_true rfl)⟩ (mX3_byteAt hfl h) rfl dX3_registerCount_2 (kI (fun r1 G2 h => ?_)) kN
  refine r_bipush C 6 dX3_registerCount_5 (by decide) ?_
  refine r_icmp_ne C 14 dX3_registerCount_7 (by decide) (fun c => ?_) (fun c => ?_)
  · replace h := h.1 c
    refine r_aloadR_n C 0 dX3_registerCount_14 rfl rfl ?_
    refine r_iconst C 4 dX3_registerCount_15 (by decide) ?_
    obtain ⟨ht, h⟩ := h
    refine r_callV C (r := (RX3, TX3, 2)) hL yw_X3_wordAt vw_RX3_43 rfl rfl ht rfl rfl (Nat.le_of_ble_eq_true rfl) ⟨(Nat.le_of_ble_eq_true rfl), (Nat.le_of_ble_eq_true rfl)⟩ (mX3_wordAt hfl h) rfl dX3_registerCount_16 (kI (fun r23 G24 h => ?_)) kN
    exact r_iret C E0 hr ⟨_, rfl, h⟩ dX3_registerCount_19
  · replace h := h.2 c
    refine r_iconst C 1 dX3_registerCount_10 (by decide) ?_
    refine r_goto C 19 dX3_registerCount_11 (by decide) ?_
    exact r_iret C E0 hr ⟨_, rfl, h⟩ dX3_registerCount_19
def wX2_isReadOnly (X : Xt) (G : Gt) (a0 : Nat) (x1 : Int32) (Pr : Int32 → Gt → Prop) : Prop := gT G a0 = (1, 3) ∧ (¬ ((((gI G 100 a0).toUInt32 >>> ((x1 : Int32).toUInt32 &&& Int32.toUInt32 31)).toInt32) &&& 1) = 1 → Pr 0 G) ∧ (((((gI G 100 a0).toUInt32 >>> ((x1 : Int32).toUInt32 &&& Int32.toUInt32 31)).toInt32) &&& 1) = 1 → Pr 1 G)
set_option maxRecDepth 20000 in
theorem mX2_isReadOnly {X : Xt} {l : Launch} (hfl : l.stackTraces = false) {G : Gt} {a0 : Nat} {x1 : Int32} {Pr : Int32 → Gt → Prop} (h : wX2_isReadOnly X G a0 x1 Pr) : Mc X l yX2_isReadOnly (.code yX2_isReadOnly cX2_isReadOnly 2 (some (.boolean))) 0 0 [.ref a0, .int x1] G (rI Pr) noX := by
  refine Mc.of (by decide +kernel) hfl [some (.ref a0), some (.int x1)] rfl (Nat.le_of_ble_eq_true rfl) rfl ?_
  intro K hL C E0 hr hnm hex
  have B : BX X K l cX2_isReadOnly 2 RX2 0 0 G (some (.boolean)) "isReadOnly" := ⟨hL, C, E0, hr, hnm, hex, hfl⟩
  have C : Cx X K cX2_isReadOnly 2 RX2 0 0 := C
  unfold wX2_isReadOnly at h
  refine r_aloadR_n C 0 dX2_isReadOnly_0 rfl rfl ?_
  obtain ⟨ht, h⟩ := h
  refine r_getI C fw_RX2_25 rfl ht dX2_isReadOnly_1 ?_
  refine r_iload_n C 1 dX2_isReadOnly_4 rfl rfl ?_
  refine r_iushr C dX2_isReadOnly_5 ?_
  refine r_iconst C 1 dX2_isReadOnly_6 (by decide) ?_
  refine r_iand C dX2_isReadOnly_7 ?_
  refine r_iconst C 1 dX2_isReadOnly_8 (by decide) ?_
  refine r_icmp_ne C 16 dX2_isReadOnly_9 (by decide) (fun c => ?_) (fun c => ?_)
  · replace h := h.1 c
    refine r_iconst C 0 dX2_isReadOnly_16 (by decide) ?_
    exact r_zret C E0 hr (Or.inl rfl) ⟨_, rfl, h⟩ dX2_isReadOnly_17
  · replace h := h.2 c
    refine r_iconst C 1 dX2_isReadOnly_12 (by decide) ?_
    refine r_goto C 17 dX2_isReadOnly_13 (by decide) ?_
    exact r_zret C E0 hr (Or.inr rfl) ⟨_, rfl, h⟩ dX2_isReadOnly_17
def wX3_writtenValue (X : Xt) (G : Gt) (a0 : Nat) (x1 : Int32) (Pr : Int32 → Gt → Prop) : Prop := gT G a0 = (1, 4) ∧ wX3_byteAt X G a0 1 (fun r1 G2 => (¬ r1 = 6 → gT G2 a0 = (1, 4) ∧ wX3_wordAt X G2 a0 (7 + (2 * x1)) (fun r23 G24 => Pr r23 G24)) ∧ (r1 = 6 → gT G2 a0 = (1, 4) ∧ wX3_wordAt X G2 a0 4 (fun r43 G44 => Pr r43 G44)))
set_option maxRecDepth 20000 in
theorem mX3_writtenValue {X : Xt} {l : Launch} (hfl : l.stackTraces = false) {G : Gt} {a0 : Nat} {x1 : Int32} {Pr : Int32 → Gt → Prop} (h : wX3_writtenValue X G a0 x1 Pr) : Mc X l yX3_writtenValue (.code yX3_writtenValue cX3_writtenValue 2 (some (.int))) 1 21 [.ref a0, .int x1] G (rI Pr) noX := by
  refine Mc.of (by decide +kernel) hfl [some (.ref a0), some (.int x1)] rfl (Nat.le_of_ble_eq_true rfl) rfl ?_
  intro K hL C E0 hr hnm hex
  have B : BX X K l cX3_writtenValue 2 RX3 1 21 G (some (.int)) "writtenValue" := ⟨hL, C, E0, hr, hnm, hex, hfl⟩
  have C : Cx X K cX3_writtenValue 2 RX3 1 21 := C
  unfold wX3_writtenValue at h
  refine r_aloadR_n C 0 dX3_writtenValue_0 rfl rfl ?_
  refine r_iconst C 1 dX3_writtenValue_1 (by decide) ?_
  obtain ⟨ht, h⟩ := h
  refine r_callV C (r := (RX3, TX3, 2)) hL yw_X3_byteAt vw_RX3_46 rfl rfl ht rfl rfl (Nat.le_of_ble_eq_true rfl) ⟨(Nat.le_of_ble_eq_true rfl), (Nat.le_of_ble_eq_true rfl)⟩ (mX3_byteAt hfl h) rfl dX3_writtenValue_2 (kI (fun r1 G2 h => ?_)) kN
  refine r_bipush C 6 dX3_writtenValue_5 (by decide) ?_
  refine r_icmp_ne C 18 dX3_writtenValue_7 (by decide) (fun c => ?_) (fun c => ?_)
  · replace h := h.1 c
    refine r_aloadR_n C 0 dX3_writtenValue_18 rfl rfl ?_
    refine r_bipush C 7 dX3_writtenValue_19 (by decide) ?_
    refine r_iconst C 2 dX3_writtenValue_21 (by decide) ?_
    refine r_iload_n C 1 dX3_writtenValue_22 rfl rfl ?_
    refine r_imul C dX3_writtenValue_23 ?_
    refine r_iadd C dX3_writtenValue_24 ?_
    obtain ⟨ht, h⟩ := h
    refine r_callV C (r := (RX3, TX3, 2)) hL yw_X3_wordAt vw_RX3_43 rfl rfl ht rfl rfl (Nat.le_of_ble_eq_true rfl) ⟨(Nat.le_of_ble_eq_true rfl), (Nat.le_of_ble_eq_true rfl)⟩ (mX3_wordAt hfl h) rfl dX3_writtenValue_25 (kI (fun r23 G24 h => ?_)) kN
    exact r_iret C E0 hr ⟨_, rfl, h⟩ dX3_writtenValue_28
  · replace h := h.2 c
    refine r_aloadR_n C 0 dX3_writtenValue_10 rfl rfl ?_
    refine r_iconst C 4 dX3_writtenValue_11 (by decide) ?_
    obtain ⟨ht, h⟩ := h
    refine r_callV C (r := (RX3, TX3, 2)) hL yw_X3_wordAt vw_RX3_43 rfl rfl ht rfl rfl (Nat.le_of_ble_eq_true rfl) ⟨(Nat.le_of_ble_eq_true rfl), (Nat.le_of_ble_eq_true rfl)⟩ (mX3_wordAt hfl h) rfl dX3_writtenValue_12 (kI (fun r43 G44 h => ?_)) kN
    refine r_goto C 28 dX3_writtenValue_15 (by decide) ?_
    exact r_iret C E0 hr ⟨_, rfl, h⟩ dX3_writtenValue_28
def wX2_refusalOf_41 (X : Xt) (Pr : Int32 → Gt → Prop) (k41 : Gt → Nat → Nat → Int32 → Int32 → Int32 → Int32 → Prop) (G : Gt) (a0 : Nat) (a1 : Nat) (x2 : Int32) (x3 : Int32) (x4 : Int32) (x5 : Int32) : Prop := (x3 ≤ x5 → (x4 = 0 → Pr 0 G) ∧ (¬ (x4 = 0) → Pr 3 G)) ∧ (¬ (x3 ≤ x5) → gT G a0 = (1, 3) ∧ wX2_isReadOnly X G a0 (x2 + x5) (fun r41 G42 => (r41 = 0 → (¬ x4 = 0 → k41 G42 a0 a1 x2 x3 (1 : Int32) (x5 + 1)) ∧ (x4 = 0 → gT G42 a1 = (1, 4) ∧ wX3_writtenValue X G42 a1 x5 (fun r103 G104 => gT G104 a0 = (1, 3) ∧ (r103 ≤ (gI G104 101 a0) → k41 G104 a0 a1 x2 x3 (0 : Int32) (x5 + 1)) ∧ (¬ (r103 ≤ (gI G104 101 a0)) → k41 G104 a0 a1 x2 x3 (1 : Int32) (x5 + 1))))) ∧ (¬ (r41 = 0) → Pr 2 G42)))
set_option maxRecDepth 20000 in
theorem bX2_refusalOf_41 {X : Xt} {K : Kt} {l : Launch} {G0 : Gt} {Pr : Int32 → Gt → Prop} (B : BX X K l cX2_refusalOf 6 RX2 2 42 G0 (some (.int)) "refusalOf") {k41 : Gt → Nat → Nat → Int32 → Int32 → Int32 → Int32 → Prop} (hk41 : ∀ (G : Gt) (a0 : Nat) (a1 : Nat) (x2 : Int32) (x3 : Int32) (x4 : Int32) (x5 : Int32), k41 G a0 a1 x2 x3 x4 x5 → WM X K (QM X K G0 (rI Pr) noX) G 41 [some (.ref a0), some (.ref a1), some (.int x2), some (.int x3), some (.int x4), some (.int x5)] []) {G : Gt} {a0 : Nat} {a1 : Nat} {x2 : Int32} {x3 : Int32} {x4 : Int32} {x5 : Int32} (h : wX2_refusalOf_41 X Pr k41 G a0 a1 x2 x3 x4 x5) : WM X K (QM X K G0 (rI Pr) noX) G 41 [some (.ref a0), some (.ref a1), some (.int x2), some (.int x3), some (.int x4), some (.int x5)] [] := by
  obtain ⟨hL, C, E0, hr, hnm, hex, hfl⟩ := id B
  unfold wX2_refusalOf_41 at h
  refine r_iload C dX2_refusalOf_41 rfl ?_
  refine r_iload_n C 3 dX2_refusalOf_43 rfl rfl ?_
  refine r_icmp_ge C 91 dX2_refusalOf_44 (by decide) (fun c => ?_) (fun c => ?_)
  · replace h := h.1 c
    refine r_iload C dX2_refusalOf_91 rfl ?_
    refine r_if_eq C 100 dX2_refusalOf_93 (by decide) (fun c => ?_) (fun c => ?_)
    · replace h := h.1 c
      refine r_iconst C 0 dX2_refusalOf_100 (by decide) ?_
      exact r_iret C E0 hr ⟨_, rfl, h⟩ dX2_refusalOf_101
    · replace h := h.2 c
      refine r_iconst C 3 dX2_refusalOf_96 (by decide) ?_
      refine r_goto C 101 dX2_refusalOf_97 (by decide) ?_
      exact r_iret C E0 hr ⟨_, rfl, h⟩ dX2_refusalOf_101
  · replace h := h.2 c
    refine r_aloadR_n C 0 dX2_refusalOf_47 rfl rfl ?_
    refine r_iload_n C 2 dX2_refusalOf_48 rfl rfl ?_
    refine r_iload C dX2_refusalOf_49 rfl ?_
    refine r_iadd C dX2_refusalOf_51 ?_
    obtain ⟨ht, h⟩ := h
    refine r_callV C (r := (RX2, TX2, 7)) hL yw_X2_isReadOnly vw_RX2_88 rfl rfl ht rfl rfl (Nat.le_of_ble_eq_true rfl) ⟨(Nat.le_of_ble_eq_true rfl), (Nat.le_of_ble_eq_true rfl)⟩ (mX2_isReadOnly hfl h) rfl dX2_refusalOf_52 (kI (fun r41 G42 h => ?_)) kN
    refine r_if_eq C 60 dX2_refusalOf_55 (by decide) (fun c => ?_) (fun c => ?_)
    · replace h := h.1 c
      refine r_iload C dX2_refusalOf_60 rfl ?_
      refine r_if_ne C 78 dX2_refusalOf_62 (by decide) (fun c => ?_) (fun c => ?_)
      · replace h := h.1 c
        refine r_iconst C 1 dX2_refusalOf_78 (by decide) ?_
        refine r_goto C 83 dX2_refusalOf_79 (by decide) ?_
        refine r_istore C (lv' := [some (.ref a0), some (.ref a1), some (.int x2), some (.int x3), some (.int 1), some (.int x5)]) dX2_refusalOf_83 (Nat.le_of_ble_eq_true rfl) rfl rfl ?_
        refine r_iinc C 1 (lv' := [some (.ref a0), some (.ref a1), some (.int x2), some (.int x3), some (.int 1), some (.int (x5 + 1))]) dX2_refusalOf_85 rfl (by decide) rfl rfl ?_
        refine r_goto C 41 dX2_refusalOf_88 (by decide) ?_
        exact hk41 _ _ _ _ _ _ _ h
      · replace h := h.2 c
        refine r_aloadR_n C 1 dX2_refusalOf_65 rfl rfl ?_
        refine r_iload C dX2_refusalOf_66 rfl ?_
        obtain ⟨ht, h⟩ := h
        refine r_callV C (r := (RX3, TX3, 2)) hL yw_X3_writtenValue vw_RX2_92 rfl rfl ht rfl rfl (Nat.le_of_ble_eq_true rfl) ⟨(Nat.le_of_ble_eq_true rfl), (Nat.le_of_ble_eq_true rfl)⟩ (mX3_writtenValue hfl h) rfl dX2_refusalOf_68 (kI (fun r103 G104 h => ?_)) kN
        refine r_aloadR_n C 0 dX2_refusalOf_71 rfl rfl ?_
        obtain ⟨ht, h⟩ := h
        refine r_getI C fw_RX2_29 rfl ht dX2_refusalOf_72 ?_
        refine r_icmp_le C 82 dX2_refusalOf_75 (by decide) (fun c => ?_) (fun c => ?_)
        · replace h := h.1 c
          refine r_iconst C 0 dX2_refusalOf_82 (by decide) ?_
          refine r_istore C (lv' := [some (.ref a0), some (.ref a1), some (.int x2), some (.int x3), some (.int 0), some (.int x5)]) dX2_refusalOf_83 (Nat.le_of_ble_eq_true rfl) rfl rfl ?_
          refine r_iinc C 1 (lv' := [some (.ref a0), some (.ref a1), some (.int x2), some (.int x3), some (.int 0), some (.int (x5 + 1))]) dX2_refusalOf_85 rfl (by decide) rfl rfl ?_
          refine r_goto C 41 dX2_refusalOf_88 (by decide) ?_
          exact hk41 _ _ _ _ _ _ _ h
        · replace h := h.2 c
          refine r_iconst C 1 dX2_refusalOf_78 (by decide) ?_
          refine r_goto C 83 dX2_refusalOf_79 (by decide) ?_
          refine r_istore C (lv' := [some (.ref a0), some (.ref a1), some (.int x2), some (.int x3), some (.int 1), some (.int x5)]) dX2_refusalOf_83 (Nat.le_of_ble_eq_true rfl) rfl rfl ?_
          refine r_iinc C 1 (lv' := [some (.ref a0), some (.ref a1), some (.int x2), some (.int x3), some (.int 1), some (.int (x5 + 1))]) dX2_refusalOf_85 rfl (by decide) rfl rfl ?_
          refine r_goto C 41 dX2_refusalOf_88 (by decide) ?_
          exact hk41 _ _ _ _ _ _ _ h
    · replace h := h.2 c
      refine r_iconst C 2 dX2_refusalOf_58 (by decide) ?_
      exact r_iret C E0 hr ⟨_, rfl, h⟩ dX2_refusalOf_59
theorem lX2_refusalOf_41 {X : Xt} {K : Kt} {l : Launch} {G0 : Gt} {Pr : Int32 → Gt → Prop} (B : BX X K l cX2_refusalOf 6 RX2 2 42 G0 (some (.int)) "refusalOf") (I : Gt → Nat → Nat → Int32 → Int32 → Int32 → Int32 → Prop) (μ : Gt → Nat → Nat → Int32 → Int32 → Int32 → Int32 → Nat) (hS : ∀ (G : Gt) (a0 : Nat) (a1 : Nat) (x2 : Int32) (x3 : Int32) (x4 : Int32) (x5 : Int32), I G a0 a1 x2 x3 x4 x5 → wX2_refusalOf_41 X Pr (fun G' a0' a1' x2' x3' x4' x5' => I G' a0' a1' x2' x3' x4' x5' ∧ μ G' a0' a1' x2' x3' x4' x5' < μ G a0 a1 x2 x3 x4 x5) G a0 a1 x2 x3 x4 x5) : ∀ (n : Nat) (G : Gt) (a0 : Nat) (a1 : Nat) (x2 : Int32) (x3 : Int32) (x4 : Int32) (x5 : Int32), μ G a0 a1 x2 x3 x4 x5 < n → I G a0 a1 x2 x3 x4 x5 → WM X K (QM X K G0 (rI Pr) noX) G 41 [some (.ref a0), some (.ref a1), some (.int x2), some (.int x3), some (.int x4), some (.int x5)] [] := by
  intro n
  induction n with
  | zero => intro G a0 a1 x2 x3 x4 x5 hm; exact absurd hm (Nat.not_lt_zero _)
  | succ n ih =>
    intro G a0 a1 x2 x3 x4 x5 hm hi
    exact bX2_refusalOf_41 B (fun G' a0' a1' x2' x3' x4' x5' hk => ih G' a0' a1' x2' x3' x4' x5' (Nat.lt_of_lt_of_le hk.2 (Nat.le_of_lt_succ hm)) hk.1) (hS G a0 a1 x2 x3 x4 x5 hi)
def wX2_refusalOf (X : Xt) (G : Gt) (a0 : Nat) (a1 : Nat) (Pr : Int32 → Gt → Prop) : Prop := gT G a1 = (1, 4) ∧ wX3_startRegister X G a1 (fun r1 G2 => gT G2 a1 = (1, 4) ∧ wX3_registerCount X G2 a1 (fun r3 G4 => (r1 < 0 → Pr 2 G4) ∧ (¬ (r1 < 0) → ((r1 + r3) ≤ 32 → gT G4 a1 = (1, 4) ∧ wX3_byteAt X G4 a1 1 (fun r65 G66 => (¬ r65 = 3 → ∃ (I : Gt → Nat → Nat → Int32 → Int32 → Int32 → Int32 → Prop) (μ : Gt → Nat → Nat → Int32 → Int32 → Int32 → Int32 → Nat), I G66 a0 a1 r1 r3 (0 : Int32) (0 : Int32) ∧ ∀ (G : Gt) (a0 : Nat) (a1 : Nat) (x2 : Int32) (x3 : Int32) (x4 : Int32) (x5 : Int32), I G a0 a1 x2 x3 x4 x5 → wX2_refusalOf_41 X Pr (fun G' a0' a1' x2' x3' x4' x5' => I G' a0' a1' x2' x3' x4' x5' ∧ μ G' a0' a1' x2' x3' x4' x5' < μ G a0 a1 x2 x3 x4 x5) G a0 a1 x2 x3 x4 x5) ∧ (r65 = 3 → Pr 0 G66))) ∧ (¬ ((r1 + r3) ≤ 32) → Pr 2 G4))))
set_option maxRecDepth 20000 in
theorem mX2_refusalOf {X : Xt} {l : Launch} (hfl : l.stackTraces = false) {G : Gt} {a0 : Nat} {a1 : Nat} {Pr : Int32 → Gt → Prop} (h : wX2_refusalOf X G a0 a1 Pr) : Mc X l yX2_refusalOf (.code yX2_refusalOf cX2_refusalOf 6 (some (.int))) 2 42 [.ref a0, .ref a1] G (rI Pr) noX := by
  refine Mc.of (by decide +kernel) hfl [some (.ref a0), some (.ref a1), none, none, none, none] rfl (Nat.le_of_ble_eq_true rfl) rfl ?_
  intro K hL C E0 hr hnm hex
  have B : BX X K l cX2_refusalOf 6 RX2 2 42 G (some (.int)) "refusalOf" := ⟨hL, C, E0, hr, hnm, hex, hfl⟩
  have C : Cx X K cX2_refusalOf 6 RX2 2 42 := C
  unfold wX2_refusalOf at h
  refine r_aloadR_n C 1 dX2_refusalOf_0 rfl rfl ?_
  obtain ⟨ht, h⟩ := h
  refine r_callV C (r := (RX3, TX3, 2)) hL yw_X3_startRegister vw_RX2_81 rfl rfl ht rfl rfl (Nat.le_of_ble_eq_true rfl) ⟨(Nat.le_of_ble_eq_true rfl), (Nat.le_of_ble_eq_true rfl)⟩ (mX3_startRegister hfl h) rfl dX2_refusalOf_1 (kI (fun r1 G2 h => ?_)) kN
  refine r_istore_n C 2 (lv' := [some (.ref a0), some (.ref a1), some (.int r1), none, none, none]) dX2_refusalOf_4 rfl (Nat.le_of_ble_eq_true rfl) rfl rfl ?_
  refine r_aloadR_n C 1 dX2_refusalOf_5 rfl rfl ?_
  obtain ⟨ht, h⟩ := h
  refine r_callV C (r := (RX3, TX3, 2)) hL yw_X3_registerCount vw_RX2_85 rfl rfl ht rfl rfl (Nat.le_of_ble_eq_true rfl) ⟨(Nat.le_of_ble_eq_true rfl), (Nat.le_of_ble_eq_true rfl)⟩ (mX3_registerCount hfl h) rfl dX2_refusalOf_6 (kI (fun r3 G4 h => ?_)) kN
  refine r_istore_n C 3 (lv' := [some (.ref a0), some (.ref a1), some (.int r1), some (.int r3), none, none]) dX2_refusalOf_9 rfl (Nat.le_of_ble_eq_true rfl) rfl rfl ?_
  refine r_iload_n C 2 dX2_refusalOf_10 rfl rfl ?_
  refine r_if_lt C 22 dX2_refusalOf_11 (by decide) (fun c => ?_) (fun c => ?_)
  · replace h := h.1 c
    refine r_iconst C 2 dX2_refusalOf_22 (by decide) ?_
    exact r_iret C E0 hr ⟨_, rfl, h⟩ dX2_refusalOf_23
  · replace h := h.2 c
    refine r_iload_n C 2 dX2_refusalOf_14 rfl rfl ?_
    refine r_iload_n C 3 dX2_refusalOf_15 rfl rfl ?_
    refine r_iadd C dX2_refusalOf_16 ?_
    refine r_bipush C 32 dX2_refusalOf_17 (by decide) ?_
    refine r_icmp_le C 24 dX2_refusalOf_19 (by decide) (fun c => ?_) (fun c => ?_)
    · replace h := h.1 c
      refine r_aloadR_n C 1 dX2_refusalOf_24 rfl rfl ?_
      refine r_iconst C 1 dX2_refusalOf_25 (by decide) ?_
      obtain ⟨ht, h⟩ := h
      refine r_callV C (r := (RX3, TX3, 2)) hL yw_X3_byteAt vw_RX2_58 rfl rfl ht rfl rfl (Nat.le_of_ble_eq_true rfl) ⟨(Nat.le_of_ble_eq_true rfl), (Nat.le_of_ble_eq_true rfl)⟩ (mX3_byteAt hfl h) rfl dX2_refusalOf_26 (kI (fun r65 G66 h => ?_)) kN
      refine r_iconst C 3 dX2_refusalOf_29 (by decide) ?_
      refine r_icmp_ne C 35 dX2_refusalOf_30 (by decide) (fun c => ?_) (fun c => ?_)
      · replace h := h.1 c
        refine r_iconst C 0 dX2_refusalOf_35 (by decide) ?_
        refine r_istore C (lv' := [some (.ref a0), some (.ref a1), some (.int r1), some (.int r3), some (.int 0), none]) dX2_refusalOf_36 (Nat.le_of_ble_eq_true rfl) rfl rfl ?_
        refine r_iconst C 0 dX2_refusalOf_38 (by decide) ?_
        refine r_istore C (lv' := [some (.ref a0), some (.ref a1), some (.int r1), some (.int r3), some (.int 0), some (.int 0)]) dX2_refusalOf_39 (Nat.le_of_ble_eq_true rfl) rfl rfl ?_
        obtain ⟨I, μ, hI, hS⟩ := h
        exact lX2_refusalOf_41 B I μ hS _ _ _ _ _ _ _ _ (Nat.lt_succ_self _) hI
      · replace h := h.2 c
        refine r_iconst C 0 dX2_refusalOf_33 (by decide) ?_
        exact r_iret C E0 hr ⟨_, rfl, h⟩ dX2_refusalOf_34
    · replace h := h.2 c
      refine r_iconst C 2 dX2_refusalOf_22 (by decide) ?_
      exact r_iret C E0 hr ⟨_, rfl, h⟩ dX2_refusalOf_23
def wX2_obey_62 (X : Xt) (Pr : Gt → Prop) (k62 : Gt → Nat → Nat → Nat → Int32 → Int32 → Int32 → Int32 → Prop) (G : Gt) (a0 : Nat) (a1 : Nat) (a2 : Nat) (x3 : Int32) (x4 : Int32) (x5 : Int32) (x6 : Int32) : Prop := (x5 ≤ x6 → Pr G) ∧ (¬ (x5 ≤ x6) → (32 ≤ (x4 + x6) → Pr G) ∧ (¬ (32 ≤ (x4 + x6)) → (¬ x3 = 3 → gT G a0 = (1, 3) ∧ ∃ b101, gR G 96 a0 = some b101 ∧ gT G a1 = (1, 4) ∧ wX3_writtenValue X G a1 x6 (fun r102 G103 => (gT G103 b101).1 = 2 ∧ vp_in (x4 + x6) (gT G103 b101).2 ∧ ∀ G104, G104 = sA G103 b101 (upd (gA G103 b101) (x4 + x6).toNatClampNeg r102) → k62 G104 a0 a1 a2 x3 x4 x5 (x6 + 1))) ∧ (x3 = 3 → gT G a0 = (1, 3) ∧ ∃ b121, gR G 96 a0 = some b121 ∧ (gT G b121).1 = 2 ∧ vp_in (x4 + x6) (gT G b121).2 ∧ gT G a2 = (1, 4) ∧ wX3_putWord X G a2 (gA G b121 (x4 + x6).toNatClampNeg) (fun G122 => k62 G122 a0 a1 a2 x3 x4 x5 (x6 + 1)))))
set_option maxRecDepth 20000 in
theorem bX2_obey_62 {X : Xt} {K : Kt} {l : Launch} {G0 : Gt} {Pr : Gt → Prop} (B : BX X K l cX2_obey 7 RX2 2 43 G0 none "obey") {k62 : Gt → Nat → Nat → Nat → Int32 → Int32 → Int32 → Int32 → Prop} (hk62 : ∀ (G : Gt) (a0 : Nat) (a1 : Nat) (a2 : Nat) (x3 : Int32) (x4 : Int32) (x5 : Int32) (x6 : Int32), k62 G a0 a1 a2 x3 x4 x5 x6 → WM X K (QM X K G0 (rV Pr) noX) G 62 [some (.ref a0), some (.ref a1), some (.ref a2), some (.int x3), some (.int x4), some (.int x5), some (.int x6)] []) {G : Gt} {a0 : Nat} {a1 : Nat} {a2 : Nat} {x3 : Int32} {x4 : Int32} {x5 : Int32} {x6 : Int32} (h : wX2_obey_62 X Pr k62 G a0 a1 a2 x3 x4 x5 x6) : WM X K (QM X K G0 (rV Pr) noX) G 62 [some (.ref a0), some (.ref a1), some (.ref a2), some (.int x3), some (.int x4), some (.int x5), some (.int x6)] [] := by
  obtain ⟨hL, C, E0, hr, hnm, hex, hfl⟩ := id B
  unfold wX2_obey_62 at h
  refine r_iload C dX2_obey_62 rfl ?_
  refine r_iload C dX2_obey_64 rfl ?_
  refine r_icmp_ge C 123 dX2_obey_66 (by decide) (fun c => ?_) (fun c => ?_)
  · replace h := h.1 c
    exact r_vret C E0 hr ⟨rfl, h⟩ dX2_obey_123
  · replace h := h.2 c
    refine r_iload C dX2_obey_69 rfl ?_
    refine r_iload C dX2_obey_71 rfl ?_
    refine r_iadd C dX2_obey_73 ?_
    refine r_bipush C 32 dX2_obey_74 (by decide) ?_
    refine r_icmp_ge C 123 dX2_obey_76 (by decide) (fun c => ?_) (fun c => ?_)
    · replace h := h.1 c
      exact r_vret C E0 hr ⟨rfl, h⟩ dX2_obey_123
    · replace h := h.2 c
      refine r_iload_n C 3 dX2_obey_79 rfl rfl ?_
      refine r_iconst C 3 dX2_obey_80 (by decide) ?_
      refine r_icmp_ne C 101 dX2_obey_81 (by decide) (fun c => ?_) (fun c => ?_)
      · replace h := h.1 c
        refine r_aloadR_n C 0 dX2_obey_101 rfl rfl ?_
        obtain ⟨ht, h⟩ := h
        obtain ⟨b101, hb, h⟩ := h
        refine r_getR C fw_RX2_9 rfl ht hb dX2_obey_102 ?_
        refine r_iload C dX2_obey_105 rfl ?_
        refine r_iload C dX2_obey_107 rfl ?_
        refine r_iadd C dX2_obey_109 ?_
        refine r_aloadR_n C 1 dX2_obey_110 rfl rfl ?_
        refine r_iload C dX2_obey_111 rfl ?_
        obtain ⟨ht, h⟩ := h
        refine r_callV C (r := (RX3, TX3, 2)) hL yw_X3_writtenValue vw_RX2_92 rfl rfl ht rfl rfl (Nat.le_of_ble_eq_true rfl) ⟨(Nat.le_of_ble_eq_true rfl), (Nat.le_of_ble_eq_true rfl)⟩ (mX3_writtenValue hfl h) rfl dX2_obey_113 (kI (fun r102 G103 h => ?_)) kN
        obtain ⟨ht, hi, h⟩ := h
        refine r_iastP C ht hi dX2_obey_116 ?_
        refine r_nm (fun G104 hG104 => ?_)
        replace h := h G104 hG104
        refine r_iinc C 1 (lv' := [some (.ref a0), some (.ref a1), some (.ref a2), some (.int x3), some (.int x4), some (.int x5), some (.int (x6 + 1))]) dX2_obey_117 rfl (by decide) rfl rfl ?_
        refine r_goto C 62 dX2_obey_120 (by decide) ?_
        exact hk62 _ _ _ _ _ _ _ _ h
      · replace h := h.2 c
        refine r_aloadR_n C 2 dX2_obey_84 rfl rfl ?_
        refine r_aloadR_n C 0 dX2_obey_85 rfl rfl ?_
        obtain ⟨ht, h⟩ := h
        obtain ⟨b121, hb, h⟩ := h
        refine r_getR C fw_RX2_9 rfl ht hb dX2_obey_86 ?_
        refine r_iload C dX2_obey_89 rfl ?_
        refine r_iload C dX2_obey_91 rfl ?_
        refine r_iadd C dX2_obey_93 ?_
        obtain ⟨ht, hi, h⟩ := h
        refine r_ialdP C ht hi dX2_obey_94 ?_
        obtain ⟨ht, h⟩ := h
        refine r_callV C (r := (RX3, TX3, 2)) hL yw_X3_putWord vw_RX2_95 rfl rfl ht rfl rfl (Nat.le_of_ble_eq_true rfl) ⟨(Nat.le_of_ble_eq_true rfl), (Nat.le_of_ble_eq_true rfl)⟩ (mX3_putWord hfl h) rfl dX2_obey_95 (kV' (fun G122 h => ?_)) kN
        refine r_goto C 117 dX2_obey_98 (by decide) ?_
        refine r_iinc C 1 (lv' := [some (.ref a0), some (.ref a1), some (.ref a2), some (.int x3), some (.int x4), some (.int x5), some (.int (x6 + 1))]) dX2_obey_117 rfl (by decide) rfl rfl ?_
        refine r_goto C 62 dX2_obey_120 (by decide) ?_
        exact hk62 _ _ _ _ _ _ _ _ h
theorem lX2_obey_62 {X : Xt} {K : Kt} {l : Launch} {G0 : Gt} {Pr : Gt → Prop} (B : BX X K l cX2_obey 7 RX2 2 43 G0 none "obey") (I : Gt → Nat → Nat → Nat → Int32 → Int32 → Int32 → Int32 → Prop) (μ : Gt → Nat → Nat → Nat → Int32 → Int32 → Int32 → Int32 → Nat) (hS : ∀ (G : Gt) (a0 : Nat) (a1 : Nat) (a2 : Nat) (x3 : Int32) (x4 : Int32) (x5 : Int32) (x6 : Int32), I G a0 a1 a2 x3 x4 x5 x6 → wX2_obey_62 X Pr (fun G' a0' a1' a2' x3' x4' x5' x6' => I G' a0' a1' a2' x3' x4' x5' x6' ∧ μ G' a0' a1' a2' x3' x4' x5' x6' < μ G a0 a1 a2 x3 x4 x5 x6) G a0 a1 a2 x3 x4 x5 x6) : ∀ (n : Nat) (G : Gt) (a0 : Nat) (a1 : Nat) (a2 : Nat) (x3 : Int32) (x4 : Int32) (x5 : Int32) (x6 : Int32), μ G a0 a1 a2 x3 x4 x5 x6 < n → I G a0 a1 a2 x3 x4 x5 x6 → WM X K (QM X K G0 (rV Pr) noX) G 62 [some (.ref a0), some (.ref a1), some (.ref a2), some (.int x3), some (.int x4), some (.int x5), some (.int x6)] [] := by
  intro n
  induction n with
  | zero => intro G a0 a1 a2 x3 x4 x5 x6 hm; exact absurd hm (Nat.not_lt_zero _)
  | succ n ih =>
    intro G a0 a1 a2 x3 x4 x5 x6 hm hi
    exact bX2_obey_62 B (fun G' a0' a1' a2' x3' x4' x5' x6' hk => ih G' a0' a1' a2' x3' x4' x5' x6' (Nat.lt_of_lt_of_le hk.2 (Nat.le_of_lt_succ hm)) hk.1) (hS G a0 a1 a2 x3 x4 x5 x6 hi)
def wX2_obey (X : Xt) (G : Gt) (a0 : Nat) (a1 : Nat) (a2 : Nat) (Pr : Gt → Prop) : Prop := gT G a1 = (1, 4) ∧ wX3_byteAt X G a1 1 (fun r1 G2 => gT G2 a1 = (1, 4) ∧ wX3_startRegister X G2 a1 (fun r3 G4 => gT G4 a1 = (1, 4) ∧ wX3_registerCount X G4 a1 (fun r5 G6 => gT G6 a1 = (1, 4) ∧ wX3_byteAt X G6 a1 0 (fun r7 G8 => gT G8 a2 = (1, 4) ∧ wX3_open X G8 a2 r7 r1 (fun G9 => (¬ r1 = 3 → gT G9 a2 = (1, 4) ∧ wX3_putWord X G9 a2 r3 (fun G30 => gT G30 a1 = (1, 4) ∧ wX3_wordAt X G30 a1 4 (fun r31 G32 => gT G32 a2 = (1, 4) ∧ wX3_putWord X G32 a2 r31 (fun G33 => ∃ (I : Gt → Nat → Nat → Nat → Int32 → Int32 → Int32 → Int32 → Prop) (μ : Gt → Nat → Nat → Nat → Int32 → Int32 → Int32 → Int32 → Nat), I G33 a0 a1 a2 r1 r3 r5 (0 : Int32) ∧ ∀ (G : Gt) (a0 : Nat) (a1 : Nat) (a2 : Nat) (x3 : Int32) (x4 : Int32) (x5 : Int32) (x6 : Int32), I G a0 a1 a2 x3 x4 x5 x6 → wX2_obey_62 X Pr (fun G' a0' a1' a2' x3' x4' x5' x6' => I G' a0' a1' a2' x3' x4' x5' x6' ∧ μ G' a0' a1' a2' x3' x4' x5' x6' < μ G a0 a1 a2 x3 x4 x5 x6) G a0 a1 a2 x3 x4 x5 x6)))) ∧ (r1 = 3 → gT G9 a2 = (1, 4) ∧ wX3_putByte X G9 a2 (2 * r5) (fun G50 => ∃ (I : Gt → Nat → Nat → Nat → Int32 → Int32 → Int32 → Int32 → Prop) (μ : Gt → Nat → Nat → Nat → Int32 → Int32 → Int32 → Int32 → Nat), I G50 a0 a1 a2 r1 r3 r5 (0 : Int32) ∧ ∀ (G : Gt) (a0 : Nat) (a1 : Nat) (a2 : Nat) (x3 : Int32) (x4 : Int32) (x5 : Int32) (x6 : Int32), I G a0 a1 a2 x3 x4 x5 x6 → wX2_obey_62 X Pr (fun G' a0' a1' a2' x3' x4' x5' x6' => I G' a0' a1' a2' x3' x4' x5' x6' ∧ μ G' a0' a1' a2' x3' x4' x5' x6' < μ G a0 a1 a2 x3 x4 x5 x6) G a0 a1 a2 x3 x4 x5 x6)))))))
set_option maxRecDepth 20000 in
theorem mX2_obey {X : Xt} {l : Launch} (hfl : l.stackTraces = false) {G : Gt} {a0 : Nat} {a1 : Nat} {a2 : Nat} {Pr : Gt → Prop} (h : wX2_obey X G a0 a1 a2 Pr) : Mc X l yX2_obey (.code yX2_obey cX2_obey 7 none) 2 43 [.ref a0, .ref a1, .ref a2] G (rV Pr) noX := by
  refine Mc.of (by decide +kernel) hfl [some (.ref a0), some (.ref a1), some (.ref a2), none, none, none, none] rfl (Nat.le_of_ble_eq_true rfl) rfl ?_
  intro K hL C E0 hr hnm hex
  have B : BX X K l cX2_obey 7 RX2 2 43 G none "obey" := ⟨hL, C, E0, hr, hnm, hex, hfl⟩
  have C : Cx X K cX2_obey 7 RX2 2 43 := C
  unfold wX2_obey at h
  refine r_aloadR_n C 1 dX2_obey_0 rfl rfl ?_
  refine r_iconst C 1 dX2_obey_1 (by decide) ?_
  obtain ⟨ht, h⟩ := h
  refine r_callV C (r := (RX3, TX3, 2)) hL yw_X3_byteAt vw_RX2_58 rfl rfl ht rfl rfl (Nat.le_of_ble_eq_true rfl) ⟨(Nat.le_of_ble_eq_true rfl), (Nat.le_of_ble_eq_true rfl)⟩ (mX3_byteAt hfl h) rfl dX2_obey_2 (kI (fun r1 G2 h => ?_)) kN
  refine r_istore_n C 3 (lv' := [some (.ref a0), some (.ref a1), some (.ref a2), some (.int r1), none, none, none]) dX2_obey_5 rfl (Nat.le_of_ble_eq_true rfl) rfl rfl ?_
  refine r_aloadR_n C 1 dX2_obey_6 rfl rfl ?_
  obtain ⟨ht, h⟩ := h
  refine r_callV C (r := (RX3, TX3, 2)) hL yw_X3_startRegister vw_RX2_81 rfl rfl ht rfl rfl (Nat.le_of_ble_eq_true rfl) ⟨(Nat.le_of_ble_eq_true rfl), (Nat.le_of_ble_eq_true rfl)⟩ (mX3_startRegister hfl h) rfl dX2_obey_7 (kI (fun r3 G4 h => ?_)) kN
  refine r_istore C (lv' := [some (.ref a0), some (.ref a1), some (.ref a2), some (.int r1), some (.int r3), none, none]) dX2_obey_10 (Nat.le_of_ble_eq_true rfl) rfl rfl ?_
  refine r_aloadR_n C 1 dX2_obey_12 rfl rfl ?_
  obtain ⟨ht, h⟩ := h
  refine r_callV C (r := (RX3, TX3, 2)) hL yw_X3_registerCount vw_RX2_85 rfl rfl ht rfl rfl (Nat.le_of_ble_eq_true rfl) ⟨(Nat.le_of_ble_eq_true rfl), (Nat.le_of_ble_eq_true rfl)⟩ (mX3_registerCount hfl h) rfl dX2_obey_13 (kI (fun r5 G6 h => ?_)) kN
  refine r_istore C (lv' := [some (.ref a0), some (.ref a1), some (.ref a2), some (.int r1), some (.int r3), some (.int r5), none]) dX2_obey_16 (Nat.le_of_ble_eq_true rfl) rfl rfl ?_
  refine r_aloadR_n C 2 dX2_obey_18 rfl rfl ?_
  refine r_aloadR_n C 1 dX2_obey_19 rfl rfl ?_
  refine r_iconst C 0 dX2_obey_20 (by decide) ?_
  obtain ⟨ht, h⟩ := h
  refine r_callV C (r := (RX3, TX3, 2)) hL yw_X3_byteAt vw_RX2_58 rfl rfl ht rfl rfl (Nat.le_of_ble_eq_true rfl) ⟨(Nat.le_of_ble_eq_true rfl), (Nat.le_of_ble_eq_true rfl)⟩ (mX3_byteAt hfl h) rfl dX2_obey_21 (kI (fun r7 G8 h => ?_)) kN
  refine r_iload_n C 3 dX2_obey_24 rfl rfl ?_
  obtain ⟨ht, h⟩ := h
  refine r_callV C (r := (RX3, TX3, 2)) hL yw_X3_open vw_RX2_64 rfl rfl ht rfl rfl (Nat.le_of_ble_eq_true rfl) ⟨(Nat.le_of_ble_eq_true rfl), (Nat.le_of_ble_eq_true rfl)⟩ (mX3_open hfl h) rfl dX2_obey_25 (kV' (fun G9 h => ?_)) kN
  refine r_iload_n C 3 dX2_obey_28 rfl rfl ?_
  refine r_iconst C 3 dX2_obey_29 (by decide) ?_
  refine r_icmp_ne C 44 dX2_obey_30 (by decide) (fun c => ?_) (fun c => ?_)
  · replace h := h.1 c
    refine r_aloadR_n C 2 dX2_obey_44 rfl rfl ?_
    refine r_iload C dX2_obey_45 rfl ?_
    obtain ⟨ht, h⟩ := h
    refine r_callV C (r := (RX3, TX3, 2)) hL yw_X3_putWord vw_RX2_95 rfl rfl ht rfl rfl (Nat.le_of_ble_eq_true rfl) ⟨(Nat.le_of_ble_eq_true rfl), (Nat.le_of_ble_eq_true rfl)⟩ (mX3_putWord hfl h) rfl dX2_obey_47 (kV' (fun G30 h => ?_)) kN
    refine r_aloadR_n C 2 dX2_obey_50 rfl rfl ?_
    refine r_aloadR_n C 1 dX2_obey_51 rfl rfl ?_
    refine r_iconst C 4 dX2_obey_52 (by decide) ?_
    obtain ⟨ht, h⟩ := h
    refine r_callV C (r := (RX3, TX3, 2)) hL yw_X3_wordAt vw_RX2_98 rfl rfl ht rfl rfl (Nat.le_of_ble_eq_true rfl) ⟨(Nat.le_of_ble_eq_true rfl), (Nat.le_of_ble_eq_true rfl)⟩ (mX3_wordAt hfl h) rfl dX2_obey_53 (kI (fun r31 G32 h => ?_)) kN
    obtain ⟨ht, h⟩ := h
    refine r_callV C (r := (RX3, TX3, 2)) hL yw_X3_putWord vw_RX2_95 rfl rfl ht rfl rfl (Nat.le_of_ble_eq_true rfl) ⟨(Nat.le_of_ble_eq_true rfl), (Nat.le_of_ble_eq_true rfl)⟩ (mX3_putWord hfl h) rfl dX2_obey_56 (kV' (fun G33 h => ?_)) kN
    refine r_iconst C 0 dX2_obey_59 (by decide) ?_
    refine r_istore C (lv' := [some (.ref a0), some (.ref a1), some (.ref a2), some (.int r1), some (.int r3), some (.int r5), some (.int 0)]) dX2_obey_60 (Nat.le_of_ble_eq_true rfl) rfl rfl ?_
    obtain ⟨I, μ, hI, hS⟩ := h
    exact lX2_obey_62 B I μ hS _ _ _ _ _ _ _ _ _ (Nat.lt_succ_self _) hI
  · replace h := h.2 c
    refine r_aloadR_n C 2 dX2_obey_33 rfl rfl ?_
    refine r_iconst C 2 dX2_obey_34 (by decide) ?_
    refine r_iload C dX2_obey_35 rfl ?_
    refine r_imul C dX2_obey_37 ?_
    obtain ⟨ht, h⟩ := h
    refine r_callV C (r := (RX3, TX3, 2)) hL yw_X3_putByte vw_RX2_68 rfl rfl ht rfl rfl (Nat.le_of_ble_eq_true rfl) ⟨(Nat.le_of_ble_eq_true rfl), (Nat.le_of_ble_eq_true rfl)⟩ (mX3_putByte hfl h) rfl dX2_obey_38 (kV' (fun G50 h => ?_)) kN
    refine r_goto C 59 dX2_obey_41 (by decide) ?_
    refine r_iconst C 0 dX2_obey_59 (by decide) ?_
    refine r_istore C (lv' := [some (.ref a0), some (.ref a1), some (.ref a2), some (.int r1), some (.int r3), some (.int r5), some (.int 0)]) dX2_obey_60 (Nat.le_of_ble_eq_true rfl) rfl rfl ?_
    obtain ⟨I, μ, hI, hS⟩ := h
    exact lX2_obey_62 B I μ hS _ _ _ _ _ _ _ _ _ (Nat.lt_succ_self _) hI
def wJ9_floorMod_7cf53 (X : Xt) (G : Gt) (x0 : Int32) (x1 : Int32) (Pr : Int32 → Gt → Prop) : Prop := ¬ x1 = 0 ∧ (0 ≤ (x0 ^^^ x1) → Pr (x0 - x0 / x1 * x1) G) ∧ (¬ (0 ≤ (x0 ^^^ x1)) → ((x0 - x0 / x1 * x1) = 0 → Pr (x0 - x0 / x1 * x1) G) ∧ (¬ ((x0 - x0 / x1 * x1) = 0) → Pr ((x0 - x0 / x1 * x1) + x1) G))
set_option maxRecDepth 20000 in
theorem mJ9_floorMod_7cf53 {X : Xt} {l : Launch} (hfl : l.stackTraces = false) {G : Gt} {x0 : Int32} {x1 : Int32} {Pr : Int32 → Gt → Prop} (h : wJ9_floorMod_7cf53 X G x0 x1 Pr) : Mc X l yJ9_floorMod_7cf53 (.code yJ9_floorMod_7cf53 cJ9_floorMod_7cf53 3 (some (.int))) 0 0 [.int x0, .int x1] G (rI Pr) noX := by
  refine Mc.ofF (by decide +kernel) hfl [some (.int x0), some (.int x1), none] rfl (Nat.le_of_ble_eq_true rfl) rfl ?_
  intro K hL C E0 hr hnm hex
  have B : BX X K l cJ9_floorMod_7cf53 3 RJ9 0 0 G (some (.int)) "floorMod" := ⟨hL, C, E0, hr, hnm, hex, hfl⟩
  have C : Cx X K cJ9_floorMod_7cf53 3 RJ9 0 0 := C
  unfold wJ9_floorMod_7cf53 at h
  refine r_iload_n C 0 dJ9_floorMod_7cf53_0 rfl rfl ?_
  refine r_iload_n C 1 dJ9_floorMod_7cf53_1 rfl rfl ?_
  obtain ⟨hz, h⟩ := h
  refine r_irem C dJ9_floorMod_7cf53_2 hz ?_
  refine r_istore_n C 2 (lv' := [some (.int x0), some (.int x1), some (.int (x0 - x0 / x1 * x1))]) dJ9_floorMod_7cf53_3 rfl (Nat.le_of_ble_eq_true rfl) rfl rfl ?_
  refine r_iload_n C 0 dJ9_floorMod_7cf53_4 rfl rfl ?_
  refine r_iload_n C 1 dJ9_floorMod_7cf53_5 rfl rfl ?_
  refine r_ixor C dJ9_floorMod_7cf53_6 ?_
  refine r_if_ge C 18 dJ9_floorMod_7cf53_7 (by decide) (fun c => ?_) (fun c => ?_)
  · replace h := h.1 c
    refine r_iload_n C 2 dJ9_floorMod_7cf53_18 rfl rfl ?_
    exact r_iret C E0 hr ⟨_, rfl, h⟩ dJ9_floorMod_7cf53_19
  · replace h := h.2 c
    refine r_iload_n C 2 dJ9_floorMod_7cf53_10 rfl rfl ?_
    refine r_if_eq C 18 dJ9_floorMod_7cf53_11 (by decide) (fun c => ?_) (fun c => ?_)
    · replace h := h.1 c
      refine r_iload_n C 2 dJ9_floorMod_7cf53_18 rfl rfl ?_
      exact r_iret C E0 hr ⟨_, rfl, h⟩ dJ9_floorMod_7cf53_19
    · replace h := h.2 c
      refine r_iload_n C 2 dJ9_floorMod_7cf53_14 rfl rfl ?_
      refine r_iload_n C 1 dJ9_floorMod_7cf53_15 rfl rfl ?_
      refine r_iadd C dJ9_floorMod_7cf53_16 ?_
      exact r_iret C E0 hr ⟨_, rfl, h⟩ dJ9_floorMod_7cf53_17
def wX3_invertLowestBit (X : Xt) (G : Gt) (a0 : Nat) (x1 : Int32) (Pr : Gt → Prop) : Prop := gT G a0 = (1, 4) ∧ ((gI G 129 a0) ≤ 0 → Pr G) ∧ (¬ ((gI G 129 a0) ≤ 0) → gT G a0 = (1, 4) ∧ ∃ b41, gR G 128 a0 = some b41 ∧ gT G a0 = (1, 4) ∧ wJ9_floorMod_7cf53 X G x1 (gI G 129 a0) (fun r42 G43 => (gT G43 b41).1 = 2 ∧ vp_in r42 (gT G43 b41).2 ∧ (gT G43 b41).1 = 2 ∧ vp_in r42 (gT G43 b41).2 ∧ ∀ G44, G44 = sA G43 b41 (upd (gA G43 b41) r42.toNatClampNeg ((gA G43 b41 r42.toNatClampNeg) ^^^ 1)) → Pr G44))
set_option maxRecDepth 20000 in
theorem mX3_invertLowestBit {X : Xt} {l : Launch} (hfl : l.stackTraces = false) {G : Gt} {a0 : Nat} {x1 : Int32} {Pr : Gt → Prop} (h : wX3_invertLowestBit X G a0 x1 Pr) : Mc X l yX3_invertLowestBit (.code yX3_invertLowestBit cX3_invertLowestBit 2 none) 1 22 [.ref a0, .int x1] G (rV Pr) noX := by
  refine Mc.of (by decide +kernel) hfl [some (.ref a0), some (.int x1)] rfl (Nat.le_of_ble_eq_true rfl) rfl ?_
  intro K hL C E0 hr hnm hex
  have B : BX X K l cX3_invertLowestBit 2 RX3 1 22 G none "invertLowestBit" := ⟨hL, C, E0, hr, hnm, hex, hfl⟩
  have C : Cx X K cX3_invertLowestBit 2 RX3 1 22 := C
  unfold wX3_invertLowestBit at h
  refine r_aloadR_n C 0 dX3_invertLowestBit_0 rfl rfl ?_
  obtain ⟨ht, h⟩ := h
  refine r_getI C fw_RX3_15 rfl ht dX3_invertLowestBit_1 ?_
  refine r_if_le C 24 dX3_invertLowestBit_4 (by decide) (fun c => ?_) (fun c => ?_)
  · replace h := h.1 c
    exact r_vret C E0 hr ⟨rfl, h⟩ dX3_invertLowestBit_24
  · replace h := h.2 c
    refine r_aloadR_n C 0 dX3_invertLowestBit_7 rfl rfl ?_
    obtain ⟨ht, h⟩ := h
    obtain ⟨b41, hb, h⟩ := h
    refine r_getR C fw_RX3_9 rfl ht hb dX3_invertLowestBit_8 ?_
    refine r_iload_n C 1 dX3_invertLowestBit_11 rfl rfl ?_
    refine r_aloadR_n C 0 dX3_invertLowestBit_12 rfl rfl ?_
    obtain ⟨ht, h⟩ := h
    refine r_getI C fw_RX3_15 rfl ht dX3_invertLowestBit_13 ?_
    refine r_callS C hL yw_J9_floorMod_7cf53 sw_RX3_38 rfl rfl (Nat.le_of_ble_eq_true rfl) ⟨(Nat.le_of_ble_eq_true rfl), (Nat.le_of_ble_eq_true rfl)⟩ (mJ9_floorMod_7cf53 hfl h) rfl dX3_invertLowestBit_16 (kI (fun r42 G43 h => ?_)) kN
    refine r_dup2 C dX3_invertLowestBit_19 rfl rfl ?_
    obtain ⟨ht, hi, h⟩ := h
    refine r_ialdP C ht hi dX3_invertLowestBit_20 ?_
    refine r_iconst C 1 dX3_invertLowestBit_21 (by decide) ?_
    refine r_ixor C dX3_invertLowestBit_22 ?_
    obtain ⟨ht, hi, h⟩ := h
    refine r_iastP C ht hi dX3_invertLowestBit_23 ?_
    refine r_nm (fun G44 hG44 => ?_)
    replace h := h G44 hG44
    exact r_vret C E0 hr ⟨rfl, h⟩ dX3_invertLowestBit_24
def wX2_answer_139 (X : Xt) (Pr : Int32 → Gt → Prop) (G : Gt) (x4 : Int32) (sa0 : Nat) (sx1 : Int32) (sx2 : Int32) : Prop := gT G sa0 = (1, 8) ∧ ∀ G1, G1 = sI G 257 sa0 (sx1 + sx2) → (x4 = 1 → Pr 0 G1) ∧ (¬ (x4 = 1) → Pr 1 G1)
set_option maxRecDepth 20000 in
theorem bX2_answer_139 {X : Xt} {K : Kt} {l : Launch} {G0 : Gt} {Pr : Int32 → Gt → Prop} (B : BX X K l cX2_answer 7 RX2 3 69 G0 (some (.boolean)) "answer") {G : Gt} {x4 : Int32} {sa0 : Nat} {sx1 : Int32} {sx2 : Int32} (h : wX2_answer_139 X Pr G x4 sa0 sx1 sx2) : WM X K (QM X K G0 (rI Pr) noX) G 139 [none, none, none, none, some (.int x4), none, none] [.int sx2, .int sx1, .ref sa0] := by
  obtain ⟨hL, C, E0, hr, hnm, hex, hfl⟩ := id B
  unfold wX2_answer_139 at h
  refine r_iadd C dX2_answer_139 ?_
  obtain ⟨ht, h⟩ := h
  refine r_putI C cw_8 fp_RX2_78 rfl ht dX2_answer_140 ?_
  refine r_nm (fun G1 hG1 => ?_)
  replace h := h G1 hG1
  refine r_iload C dX2_answer_143 rfl ?_
  refine r_iconst C 1 dX2_answer_145 (by decide) ?_
  refine r_icmp_eq C 153 dX2_answer_146 (by decide) (fun c => ?_) (fun c => ?_)
  · replace h := h.1 c
    refine r_iconst C 0 dX2_answer_153 (by decide) ?_
    exact r_zret C E0 hr (Or.inl rfl) ⟨_, rfl, h⟩ dX2_answer_154
  · replace h := h.2 c
    refine r_iconst C 1 dX2_answer_149 (by decide) ?_
    refine r_goto C 154 dX2_answer_150 (by decide) ?_
    exact r_zret C E0 hr (Or.inr rfl) ⟨_, rfl, h⟩ dX2_answer_154
def wX2_answer_120 (X : Xt) (Pr : Int32 → Gt → Prop) (G : Gt) (a0 : Nat) (x2 : Int32) (a3 : Nat) (x4 : Int32) (x5 : Int32) : Prop := gT G a0 = (1, 3) ∧ (¬ x4 = 3 → wX2_answer_139 X Pr G x4 a3 (x2 + (gI G 102 a0)) (0 : Int32)) ∧ (x4 = 3 → wX2_answer_139 X Pr G x4 a3 (x2 + (gI G 102 a0)) x5)
set_option maxRecDepth 20000 in
theorem bX2_answer_120 {X : Xt} {K : Kt} {l : Launch} {G0 : Gt} {Pr : Int32 → Gt → Prop} (B : BX X K l cX2_answer 7 RX2 3 69 G0 (some (.boolean)) "answer") {G : Gt} {a0 : Nat} {x2 : Int32} {a3 : Nat} {x4 : Int32} {x5 : Int32} (h : wX2_answer_120 X Pr G a0 x2 a3 x4 x5) : WM X K (QM X K G0 (rI Pr) noX) G 120 [some (.ref a0), none, some (.int x2), some (.ref a3), some (.int x4), some (.int x5), none] [] := by
  obtain ⟨hL, C, E0, hr, hnm, hex, hfl⟩ := id B
  unfold wX2_answer_120 at h
  refine r_aloadR_n C 3 dX2_answer_120 rfl rfl ?_
  refine r_iload_n C 2 dX2_answer_121 rfl rfl ?_
  refine r_aloadR_n C 0 dX2_answer_122 rfl rfl ?_
  obtain ⟨ht, h⟩ := h
  refine r_getI C fw_RX2_32 rfl ht dX2_answer_123 ?_
  refine r_iadd C dX2_answer_126 ?_
  refine r_iload C dX2_answer_127 rfl ?_
  refine r_iconst C 3 dX2_answer_129 (by decide) ?_
  refine r_icmp_ne C 138 dX2_answer_130 (by decide) (fun c => ?_) (fun c => ?_)
  · replace h := h.1 c
    refine r_iconst C 0 dX2_answer_138 (by decide) ?_
    refine r_fg (lv' := [none, none, none, none, some (.int x4), none, none]) (show fgt _ _ from ⟨rfl, trivial⟩) ?_
    exact bX2_answer_139 B h
  · replace h := h.2 c
    refine r_iload C dX2_answer_133 rfl ?_
    refine r_goto C 139 dX2_answer_135 (by decide) ?_
    refine r_fg (lv' := [none, none, none, none, some (.int x4), none, none]) (show fgt _ _ from ⟨rfl, trivial⟩) ?_
    exact bX2_answer_139 B h
def wX2_answer_98 (X : Xt) (Pr : Int32 → Gt → Prop) (G : Gt) (a0 : Nat) (x2 : Int32) (a3 : Nat) (x4 : Int32) (x5 : Int32) : Prop := gT G a3 = (1, 8) ∧ ∃ b1, gR G 256 a3 = some b1 ∧ gT G b1 = (1, 4) ∧ wX3_seal X G b1 (fun G2 => (¬ x4 = 2 → wX2_answer_120 X Pr G2 a0 x2 a3 x4 x5) ∧ (x4 = 2 → gT G2 a3 = (1, 8) ∧ ∃ b43, gR G2 256 a3 = some b43 ∧ gT G2 b43 = (1, 4) ∧ wX3_invertLowestBit X G2 b43 x5 (fun G44 => wX2_answer_120 X Pr G44 a0 x2 a3 x4 x5)))
set_option maxRecDepth 20000 in
theorem bX2_answer_98 {X : Xt} {K : Kt} {l : Launch} {G0 : Gt} {Pr : Int32 → Gt → Prop} (B : BX X K l cX2_answer 7 RX2 3 69 G0 (some (.boolean)) "answer") {G : Gt} {a0 : Nat} {x2 : Int32} {a3 : Nat} {x4 : Int32} {x5 : Int32} (h : wX2_answer_98 X Pr G a0 x2 a3 x4 x5) : WM X K (QM X K G0 (rI Pr) noX) G 98 [some (.ref a0), none, some (.int x2), some (.ref a3), some (.int x4), some (.int x5), none] [] := by
  obtain ⟨hL, C, E0, hr, hnm, hex, hfl⟩ := id B
  unfold wX2_answer_98 at h
  refine r_aloadR_n C 3 dX2_answer_98 rfl rfl ?_
  obtain ⟨ht, h⟩ := h
  obtain ⟨b1, hb, h⟩ := h
  refine r_getR C fw_RX2_48 rfl ht hb dX2_answer_99 ?_
  obtain ⟨ht, h⟩ := h
  refine r_callV C (r := (RX3, TX3, 2)) hL yw_X3_seal vw_RX2_72 rfl rfl ht rfl rfl (Nat.le_of_ble_eq_true rfl) ⟨(Nat.le_of_ble_eq_true rfl), (Nat.le_of_ble_eq_true rfl)⟩ (mX3_seal hfl h) rfl dX2_answer_102 (kV' (fun G2 h => ?_)) kN
  refine r_iload C dX2_answer_105 rfl ?_
  refine r_iconst C 2 dX2_answer_107 (by decide) ?_
  refine r_icmp_ne C 120 dX2_answer_108 (by decide) (fun c => ?_) (fun c => ?_)
  · replace h := h.1 c
    exact bX2_answer_120 B h
  · replace h := h.2 c
    refine r_aloadR_n C 3 dX2_answer_111 rfl rfl ?_
    obtain ⟨ht, h⟩ := h
    obtain ⟨b43, hb, h⟩ := h
    refine r_getR C fw_RX2_48 rfl ht hb dX2_answer_112 ?_
    refine r_iload C dX2_answer_115 rfl ?_
    obtain ⟨ht, h⟩ := h
    refine r_callV C (r := (RX3, TX3, 2)) hL yw_X3_invertLowestBit vw_RX2_75 rfl rfl ht rfl rfl (Nat.le_of_ble_eq_true rfl) ⟨(Nat.le_of_ble_eq_true rfl), (Nat.le_of_ble_eq_true rfl)⟩ (mX3_invertLowestBit hfl h) rfl dX2_answer_117 (kV' (fun G44 h => ?_)) kN
    exact bX2_answer_120 B h
def wX2_answer_49 (X : Xt) (Pr : Int32 → Gt → Prop) (G : Gt) (a0 : Nat) (a1 : Nat) (x2 : Int32) (a3 : Nat) (x4 : Int32) (x5 : Int32) (sx0 : Int32) : Prop := (¬ sx0 = 0 → gT G a3 = (1, 8) ∧ ∃ b21, gR G 256 a3 = some b21 ∧ gT G a1 = (1, 4) ∧ wX3_byteAt X G a1 0 (fun r22 G23 => gT G23 a1 = (1, 4) ∧ wX3_byteAt X G23 a1 1 (fun r24 G25 => gT G25 b21 = (1, 4) ∧ wX3_open X G25 b21 r22 (r24 + 128) (fun G26 => gT G26 a3 = (1, 8) ∧ ∃ b27, gR G26 256 a3 = some b27 ∧ gT G26 b27 = (1, 4) ∧ wX3_putByte X G26 b27 sx0 (fun G28 => wX2_answer_98 X Pr G28 a0 x2 a3 x4 x5))))) ∧ (sx0 = 0 → gT G a3 = (1, 8) ∧ ∃ b41, gR G 256 a3 = some b41 ∧ gT G a0 = (1, 3) ∧ wX2_obey X G a0 a1 b41 (fun G42 => wX2_answer_98 X Pr G42 a0 x2 a3 x4 x5))
set_option maxRecDepth 20000 in
theorem bX2_answer_49 {X : Xt} {K : Kt} {l : Launch} {G0 : Gt} {Pr : Int32 → Gt → Prop} (B : BX X K l cX2_answer 7 RX2 3 69 G0 (some (.boolean)) "answer") {G : Gt} {a0 : Nat} {a1 : Nat} {x2 : Int32} {a3 : Nat} {x4 : Int32} {x5 : Int32} {sx0 : Int32} (h : wX2_answer_49 X Pr G a0 a1 x2 a3 x4 x5 sx0) : WM X K (QM X K G0 (rI Pr) noX) G 49 [some (.ref a0), some (.ref a1), some (.int x2), some (.ref a3), some (.int x4), some (.int x5), none] [.int sx0] := by
  obtain ⟨hL, C, E0, hr, hnm, hex, hfl⟩ := id B
  unfold wX2_answer_49 at h
  refine r_istore C (lv' := [some (.ref a0), some (.ref a1), some (.int x2), some (.ref a3), some (.int x4), some (.int x5), some (.int sx0)]) dX2_answer_49 (Nat.le_of_ble_eq_true rfl) rfl rfl ?_
  refine r_iload C dX2_answer_51 rfl ?_
  refine r_if_ne C 68 dX2_answer_53 (by decide) (fun c => ?_) (fun c => ?_)
  · replace h := h.1 c
    refine r_aloadR_n C 3 dX2_answer_68 rfl rfl ?_
    obtain ⟨ht, h⟩ := h
    obtain ⟨b21, hb, h⟩ := h
    refine r_getR C fw_RX2_48 rfl ht hb dX2_answer_69 ?_
    refine r_aloadR_n C 1 dX2_answer_72 rfl rfl ?_
    refine r_iconst C 0 dX2_answer_73 (by decide) ?_
    obtain ⟨ht, h⟩ := h
    refine r_callV C (r := (RX3, TX3, 2)) hL yw_X3_byteAt vw_RX2_58 rfl rfl ht rfl rfl (Nat.le_of_ble_eq_true rfl) ⟨(Nat.le_of_ble_eq_true rfl), (Nat.le_of_ble_eq_true rfl)⟩ (mX3_byteAt hfl h) rfl dX2_answer_74 (kI (fun r22 G23 h => ?_)) kN
    refine r_aloadR_n C 1 dX2_answer_77 rfl rfl ?_
    refine r_iconst C 1 dX2_answer_78 (by decide) ?_
    obtain ⟨ht, h⟩ := h
    refine r_callV C (r := (RX3, TX3, 2)) hL yw_X3_byteAt vw_RX2_58 rfl rfl ht rfl rfl (Nat.le_of_ble_eq_true rfl) ⟨(Nat.le_of_ble_eq_true rfl), (Nat.le_of_ble_eq_true rfl)⟩ (mX3_byteAt hfl h) rfl dX2_answer_79 (kI (fun r24 G25 h => ?_)) kN
    refine r_sipush C 128 dX2_answer_82 (by decide) ?_
    refine r_iadd C dX2_answer_85 ?_
    obtain ⟨ht, h⟩ := h
    refine r_callV C (r := (RX3, TX3, 2)) hL yw_X3_open vw_RX2_64 rfl rfl ht rfl rfl (Nat.le_of_ble_eq_true rfl) ⟨(Nat.le_of_ble_eq_true rfl), (Nat.le_of_ble_eq_true rfl)⟩ (mX3_open hfl h) rfl dX2_answer_86 (kV' (fun G26 h => ?_)) kN
    refine r_aloadR_n C 3 dX2_answer_89 rfl rfl ?_
    obtain ⟨ht, h⟩ := h
    obtain ⟨b27, hb, h⟩ := h
    refine r_getR C fw_RX2_48 rfl ht hb dX2_answer_90 ?_
    refine r_iload C dX2_answer_93 rfl ?_
    obtain ⟨ht, h⟩ := h
    refine r_callV C (r := (RX3, TX3, 2)) hL yw_X3_putByte vw_RX2_68 rfl rfl ht rfl rfl (Nat.le_of_ble_eq_true rfl) ⟨(Nat.le_of_ble_eq_true rfl), (Nat.le_of_ble_eq_true rfl)⟩ (mX3_putByte hfl h) rfl dX2_answer_95 (kV' (fun G28 h => ?_)) kN
    refine r_fg (lv' := [some (.ref a0), none, some (.int x2), some (.ref a3), some (.int x4), some (.int x5), none]) (show fgt _ _ from ⟨rfl, ⟨rfl, ⟨rfl, ⟨rfl, ⟨rfl, trivial⟩⟩⟩⟩⟩) ?_
    exact bX2_answer_98 B h
  · replace h := h.2 c
    refine r_aloadR_n C 0 dX2_answer_56 rfl rfl ?_
    refine r_aloadR_n C 1 dX2_answer_57 rfl rfl ?_
    refine r_aloadR_n C 3 dX2_answer_58 rfl rfl ?_
    obtain ⟨ht, h⟩ := h
    obtain ⟨b41, hb, h⟩ := h
    refine r_getR C fw_RX2_48 rfl ht hb dX2_answer_59 ?_
    obtain ⟨ht, h⟩ := h
    refine r_callV C (r := (RX2, TX2, 7)) hL yw_X2_obey vw_RX2_54 rfl rfl ht rfl rfl (Nat.le_of_ble_eq_true rfl) ⟨(Nat.le_of_ble_eq_true rfl), (Nat.le_of_ble_eq_true rfl)⟩ (mX2_obey hfl h) rfl dX2_answer_62 (kV' (fun G42 h => ?_)) kN
    refine r_goto C 98 dX2_answer_65 (by decide) ?_
    refine r_fg (lv' := [some (.ref a0), none, some (.int x2), some (.ref a3), some (.int x4), some (.int x5), none]) (show fgt _ _ from ⟨rfl, ⟨rfl, ⟨rfl, ⟨rfl, ⟨rfl, trivial⟩⟩⟩⟩⟩) ?_
    exact bX2_answer_98 B h
def wX2_answer_33 (X : Xt) (Pr : Int32 → Gt → Prop) (G : Gt) (a0 : Nat) (a1 : Nat) (x2 : Int32) (a3 : Nat) (x4 : Int32) (x5 : Int32) : Prop := (¬ x4 = 4 → gT G a0 = (1, 3) ∧ wX2_refusalOf X G a0 a1 (fun r21 G22 => wX2_answer_49 X Pr G22 a0 a1 x2 a3 x4 x5 r21)) ∧ (x4 = 4 → wX2_answer_49 X Pr G a0 a1 x2 a3 x4 x5 (6 : Int32))
set_option maxRecDepth 20000 in
theorem bX2_answer_33 {X : Xt} {K : Kt} {l : Launch} {G0 : Gt} {Pr : Int32 → Gt → Prop} (B : BX X K l cX2_answer 7 RX2 3 69 G0 (some (.boolean)) "answer") {G : Gt} {a0 : Nat} {a1 : Nat} {x2 : Int32} {a3 : Nat} {x4 : Int32} {x5 : Int32} (h : wX2_answer_33 X Pr G a0 a1 x2 a3 x4 x5) : WM X K (QM X K G0 (rI Pr) noX) G 33 [some (.ref a0), some (.ref a1), some (.int x2), some (.ref a3), some (.int x4), some (.int x5), none] [] := by
  obtain ⟨hL, C, E0, hr, hnm, hex, hfl⟩ := id B
  unfold wX2_answer_33 at h
  refine r_iload C dX2_answer_33 rfl ?_
  refine r_iconst C 4 dX2_answer_35 (by decide) ?_
  refine r_icmp_ne C 44 dX2_answer_36 (by decide) (fun c => ?_) (fun c => ?_)
  · replace h := h.1 c
    refine r_aloadR_n C 0 dX2_answer_44 rfl rfl ?_
    refine r_aloadR_n C 1 dX2_answer_45 rfl rfl ?_
    obtain ⟨ht, h⟩ := h
    refine r_callV C (r := (RX2, TX2, 7)) hL yw_X2_refusalOf vw_RX2_44 rfl rfl ht rfl rfl (Nat.le_of_ble_eq_true rfl) ⟨(Nat.le_of_ble_eq_true rfl), (Nat.le_of_ble_eq_true rfl)⟩ (mX2_refusalOf hfl h) rfl dX2_answer_46 (kI (fun r21 G22 h => ?_)) kN
    exact bX2_answer_49 B h
  · replace h := h.2 c
    refine r_bipush C 6 dX2_answer_39 (by decide) ?_
    refine r_goto C 49 dX2_answer_41 (by decide) ?_
    exact bX2_answer_49 B h
def wX2_answer (X : Xt) (G : Gt) (a0 : Nat) (a1 : Nat) (x2 : Int32) (a3 : Nat) (Pr : Int32 → Gt → Prop) : Prop := gT G a0 = (1, 3) ∧ ((gI G 99 a0) ≤ 0 → wX2_answer_33 X Pr G a0 a1 x2 a3 (0 : Int32) (0 : Int32)) ∧ (¬ ((gI G 99 a0) ≤ 0) → gT G a0 = (1, 3) ∧ ∃ b41, gR G 97 a0 = some b41 ∧ (gT G b41).1 = 2 ∧ vp_in 0 (gT G b41).2 ∧ gT G a0 = (1, 3) ∧ ∃ b42, gR G 98 a0 = some b42 ∧ (gT G b42).1 = 2 ∧ vp_in 0 (gT G b42).2 ∧ gT G a0 = (1, 3) ∧ wX2_dropFirstFault X G a0 (fun G43 => wX2_answer_33 X Pr G43 a0 a1 x2 a3 (gA G b41 (0 : Int32).toNatClampNeg) (gA G b42 (0 : Int32).toNatClampNeg)))
set_option maxRecDepth 20000 in
theorem mX2_answer {X : Xt} {l : Launch} (hfl : l.stackTraces = false) {G : Gt} {a0 : Nat} {a1 : Nat} {x2 : Int32} {a3 : Nat} {Pr : Int32 → Gt → Prop} (h : wX2_answer X G a0 a1 x2 a3 Pr) : Mc X l yX2_answer (.code yX2_answer cX2_answer 7 (some (.boolean))) 3 69 [.ref a0, .ref a1, .int x2, .ref a3] G (rI Pr) noX := by
  refine Mc.of (by decide +kernel) hfl [some (.ref a0), some (.ref a1), some (.int x2), some (.ref a3), none, none, none] rfl (Nat.le_of_ble_eq_true rfl) rfl ?_
  intro K hL C E0 hr hnm hex
  have B : BX X K l cX2_answer 7 RX2 3 69 G (some (.boolean)) "answer" := ⟨hL, C, E0, hr, hnm, hex, hfl⟩
  have C : Cx X K cX2_answer 7 RX2 3 69 := C
  unfold wX2_answer at h
  refine r_iconst C 0 dX2_answer_0 (by decide) ?_
  refine r_istore C (lv' := [some (.ref a0), some (.ref a1), some (.int x2), some (.ref a3), some (.int 0), none, none]) dX2_answer_1 (Nat.le_of_ble_eq_true rfl) rfl rfl ?_
  refine r_iconst C 0 dX2_answer_3 (by decide) ?_
  refine r_istore C (lv' := [some (.ref a0), some (.ref a1), some (.int x2), some (.ref a3), some (.int 0), some (.int 0), none]) dX2_answer_4 (Nat.le_of_ble_eq_true rfl) rfl rfl ?_
  refine r_aloadR_n C 0 dX2_answer_6 rfl rfl ?_
  obtain ⟨ht, h⟩ := h
  refine r_getI C fw_RX2_21 rfl ht dX2_answer_7 ?_
  refine r_if_le C 33 dX2_answer_10 (by decide) (fun c => ?_) (fun c => ?_)
  · replace h := h.1 c
    exact bX2_answer_33 B h
  · replace h := h.2 c
    refine r_aloadR_n C 0 dX2_answer_13 rfl rfl ?_
    obtain ⟨ht, h⟩ := h
    obtain ⟨b41, hb, h⟩ := h
    refine r_getR C fw_RX2_15 rfl ht hb dX2_answer_14 ?_
    refine r_iconst C 0 dX2_answer_17 (by decide) ?_
    obtain ⟨ht, hi, h⟩ := h
    refine r_ialdP C ht hi dX2_answer_18 ?_
    refine r_istore C (lv' := [some (.ref a0), some (.ref a1), some (.int x2), some (.ref a3), some (.int (gA G b41 (0 : Int32).toNatClampNeg)), some (.int 0), none]) dX2_answer_19 (Nat.le_of_ble_eq_true rfl) rfl rfl ?_
    refine r_aloadR_n C 0 dX2_answer_21 rfl rfl ?_
    obtain ⟨ht, h⟩ := h
    obtain ⟨b42, hb, h⟩ := h
    refine r_getR C fw_RX2_18 rfl ht hb dX2_answer_22 ?_
    refine r_iconst C 0 dX2_answer_25 (by decide) ?_
    obtain ⟨ht, hi, h⟩ := h
    refine r_ialdP C ht hi dX2_answer_26 ?_
    refine r_istore C (lv' := [some (.ref a0), some (.ref a1), some (.int x2), some (.ref a3), some (.int (gA G b41 (0 : Int32).toNatClampNeg)), some (.int (gA G b42 (0 : Int32).toNatClampNeg)), none]) dX2_answer_27 (Nat.le_of_ble_eq_true rfl) rfl rfl ?_
    refine r_aloadR_n C 0 dX2_answer_29 rfl rfl ?_
    obtain ⟨ht, h⟩ := h
    refine r_callV C (r := (RX2, TX2, 7)) hL yw_X2_dropFirstFault vw_RX2_41 rfl rfl ht rfl rfl (Nat.le_of_ble_eq_true rfl) ⟨(Nat.le_of_ble_eq_true rfl), (Nat.le_of_ble_eq_true rfl)⟩ (mX2_dropFirstFault hfl h) rfl dX2_answer_30 (kV' (fun G43 h => ?_)) kN
    exact bX2_answer_33 B h
def wX4_earliest_9 (X : Xt) (Pr : Int32 → Gt → Prop) (Px : String → Gt → Prop) (k9 : Gt → Nat → Int32 → Int32 → Int32 → Prop) (G : Gt) (a0 : Nat) (x2 : Int32) (x3 : Int32) (x4 : Int32) : Prop := gT G a0 = (1, 5) ∧ ∃ b1, gR G 160 a0 = some b1 ∧ gT G b1 = (1, 0) ∧ wJx4a65c_size_8abf5 X G b1 (fun r2 G3 => (r2 ≤ x4 → Pr x2 G3) ∧ (¬ (r2 ≤ x4) → gT G3 a0 = (1, 5) ∧ ∃ b44, gR G3 160 a0 = some b44 ∧ gT G3 b44 = (1, 0) ∧ wJx4a65c_get_915e3 X G3 b44 x4 (fun r45 G46 => ∃ b47, r45 = some b47 ∧ gT G46 b47 = (1, 8) ∧ gT G46 b47 = (1, 8) ∧ (x3 ≤ (gI G46 257 b47) → k9 G46 a0 x2 x3 (x4 + 1)) ∧ (¬ (x3 ≤ (gI G46 257 b47)) → gT G46 a0 = (1, 5) ∧ ∃ b88, gR G46 160 a0 = some b88 ∧ gT G46 b88 = (1, 0) ∧ wJx4a65c_get_915e3 X G46 b88 x4 (fun r89 G90 => ∃ b91, r89 = some b91 ∧ gT G90 b91 = (1, 8) ∧ gT G90 b91 = (1, 8) ∧ k9 G90 a0 x4 (gI G90 257 b91) (x4 + 1)) Px)) Px))
set_option maxRecDepth 20000 in
theorem bX4_earliest_9 {X : Xt} {K : Kt} {l : Launch} {G0 : Gt} {Pr : Int32 → Gt → Prop} {Px : String → Gt → Prop} (B : BX X K l cX4_earliest 5 RX4 3 64 G0 (some (.int)) "earliest") {k9 : Gt → Nat → Int32 → Int32 → Int32 → Prop} (hk9 : ∀ (G : Gt) (a0 : Nat) (x2 : Int32) (x3 : Int32) (x4 : Int32), k9 G a0 x2 x3 x4 → WM X K (QM X K G0 (rI Pr) Px) G 9 [some (.ref a0), none, some (.int x2), some (.int x3), some (.int x4)] []) {G : Gt} {a0 : Nat} {x2 : Int32} {x3 : Int32} {x4 : Int32} (h : wX4_earliest_9 X Pr Px k9 G a0 x2 x3 x4) : WM X K (QM X K G0 (rI Pr) Px) G 9 [some (.ref a0), none, some (.int x2), some (.int x3), some (.int x4)] [] := by
  obtain ⟨hL, C, E0, hr, hnm, hex, hfl⟩ := id B
  unfold wX4_earliest_9 at h
  refine r_iload C dX4_earliest_9 rfl ?_
  refine r_aloadR_n C 0 dX4_earliest_11 rfl rfl ?_
  obtain ⟨ht, h⟩ := h
  obtain ⟨b1, hb, h⟩ := h
  refine r_getR C fw_RX4_10 rfl ht hb dX4_earliest_12 ?_
  obtain ⟨ht, h⟩ := h
  refine r_callV C (r := (RJx4a65c, TJx4a65c, 3)) hL yw_Jx4a65c_size_8abf5 vw_RX4_19 rfl rfl ht rfl rfl (Nat.le_of_ble_eq_true rfl) ⟨(Nat.le_of_ble_eq_true rfl), (Nat.le_of_ble_eq_true rfl)⟩ (mJx4a65c_size_8abf5 hfl h) rfl dX4_earliest_15 (kI (fun r2 G3 h => ?_)) kN
  refine r_icmp_ge C 65 dX4_earliest_18 (by decide) (fun c => ?_) (fun c => ?_)
  · replace h := h.1 c
    refine r_iload_n C 2 dX4_earliest_65 rfl rfl ?_
    exact r_iret C E0 hr ⟨_, rfl, h⟩ dX4_earliest_66
  · replace h := h.2 c
    refine r_aloadR_n C 0 dX4_earliest_21 rfl rfl ?_
    obtain ⟨ht, h⟩ := h
    obtain ⟨b44, hb, h⟩ := h
    refine r_getR C fw_RX4_10 rfl ht hb dX4_earliest_22 ?_
    refine r_iload C dX4_earliest_25 rfl ?_
    obtain ⟨ht, h⟩ := h
    refine r_callV C (r := (RJx4a65c, TJx4a65c, 3)) hL yw_Jx4a65c_get_915e3 vw_RX4_37 rfl rfl ht rfl rfl (Nat.le_of_ble_eq_true rfl) ⟨(Nat.le_of_ble_eq_true rfl), (Nat.le_of_ble_eq_true rfl)⟩ (mJx4a65c_get_915e3 hfl h) rfl dX4_earliest_27 (kA' (fun r45 G46 h => ?_)) (kO C E0 hex)
    obtain ⟨b47, hb, ht, h⟩ := h
    subst hb
    refine r_cast C (r := (RX7, TX7, 3)) rfl cl_RX4_27 ht dX4_earliest_30 ?_
    obtain ⟨ht, h⟩ := h
    refine r_getI C fw_RX4_52 rfl ht dX4_earliest_33 ?_
    refine r_iload_n C 3 dX4_earliest_36 rfl rfl ?_
    refine r_icmp_ge C 59 dX4_earliest_37 (by decide) (fun c => ?_) (fun c => ?_)
    · replace h := h.1 c
      refine r_iinc C 1 (lv' := [some (.ref a0), none, some (.int x2), some (.int x3), some (.int (x4 + 1))]) dX4_earliest_59 rfl (by decide) rfl rfl ?_
      refine r_goto C 9 dX4_earliest_62 (by decide) ?_
      exact hk9 _ _ _ _ _ h
    · replace h := h.2 c
      refine r_iload C dX4_earliest_40 rfl ?_
      refine r_istore_n C 2 (lv' := [some (.ref a0), none, some (.int x4), some (.int x3), some (.int x4)]) dX4_earliest_42 rfl (Nat.le_of_ble_eq_true rfl) rfl rfl ?_
      refine r_aloadR_n C 0 dX4_earliest_43 rfl rfl ?_
      obtain ⟨ht, h⟩ := h
      obtain ⟨b88, hb, h⟩ := h
      refine r_getR C fw_RX4_10 rfl ht hb dX4_earliest_44 ?_
      refine r_iload C dX4_earliest_47 rfl ?_
      obtain ⟨ht, h⟩ := h
      refine r_callV C (r := (RJx4a65c, TJx4a65c, 3)) hL yw_Jx4a65c_get_915e3 vw_RX4_37 rfl rfl ht rfl rfl (Nat.le_of_ble_eq_true rfl) ⟨(Nat.le_of_ble_eq_true rfl), (Nat.le_of_ble_eq_true rfl)⟩ (mJx4a65c_get_915e3 hfl h) rfl dX4_earliest_49 (kA' (fun r89 G90 h => ?_)) (kO C E0 hex)
      obtain ⟨b91, hb, ht, h⟩ := h
      subst hb
      refine r_cast C (r := (RX7, TX7, 3)) rfl cl_RX4_27 ht dX4_earliest_52 ?_
      obtain ⟨ht, h⟩ := h
      refine r_getI C fw_RX4_52 rfl ht dX4_earliest_55 ?_
      refine r_istore_n C 3 (lv' := [some (.ref a0), none, some (.int x4), some (.int (gI G90 257 b91)), some (.int x4)]) dX4_earliest_58 rfl (Nat.le_of_ble_eq_true rfl) rfl rfl ?_
      refine r_iinc C 1 (lv' := [some (.ref a0), none, some (.int x4), some (.int (gI G90 257 b91)), some (.int (x4 + 1))]) dX4_earliest_59 rfl (by decide) rfl rfl ?_
      refine r_goto C 9 dX4_earliest_62 (by decide) ?_
      exact hk9 _ _ _ _ _ h
theorem lX4_earliest_9 {X : Xt} {K : Kt} {l : Launch} {G0 : Gt} {Pr : Int32 → Gt → Prop} {Px : String → Gt → Prop} (B : BX X K l cX4_earliest 5 RX4 3 64 G0 (some (.int)) "earliest") (I : Gt → Nat → Int32 → Int32 → Int32 → Prop) (μ : Gt → Nat → Int32 → Int32 → Int32 → Nat) (hS : ∀ (G : Gt) (a0 : Nat) (x2 : Int32) (x3 : Int32) (x4 : Int32), I G a0 x2 x3 x4 → wX4_earliest_9 X Pr Px (fun G' a0' x2' x3' x4' => I G' a0' x2' x3' x4' ∧ μ G' a0' x2' x3' x4' < μ G a0 x2 x3 x4) G a0 x2 x3 x4) : ∀ (n : Nat) (G : Gt) (a0 : Nat) (x2 : Int32) (x3 : Int32) (x4 : Int32), μ G a0 x2 x3 x4 < n → I G a0 x2 x3 x4 → WM X K (QM X K G0 (rI Pr) Px) G 9 [some (.ref a0), none, some (.int x2), some (.int x3), some (.int x4)] [] := by
  intro n
  induction n with
  | zero => intro G a0 x2 x3 x4 hm; exact absurd hm (Nat.not_lt_zero _)
  | succ n ih =>
    intro G a0 x2 x3 x4 hm hi
    exact bX4_earliest_9 B (fun G' a0' x2' x3' x4' hk => ih G' a0' x2' x3' x4' (Nat.lt_of_lt_of_le hk.2 (Nat.le_of_lt_succ hm)) hk.1) (hS G a0 x2 x3 x4 hi)
def wX4_earliest (X : Xt) (G : Gt) (a0 : Nat) (x1 : Int32) (Pr : Int32 → Gt → Prop) (Px : String → Gt → Prop) : Prop := ∃ (I : Gt → Nat → Int32 → Int32 → Int32 → Prop) (μ : Gt → Nat → Int32 → Int32 → Int32 → Nat), I G a0 ((-1) : Int32) (x1 + 1) (0 : Int32) ∧ ∀ (G : Gt) (a0 : Nat) (x2 : Int32) (x3 : Int32) (x4 : Int32), I G a0 x2 x3 x4 → wX4_earliest_9 X Pr Px (fun G' a0' x2' x3' x4' => I G' a0' x2' x3' x4' ∧ μ G' a0' x2' x3' x4' < μ G a0 x2 x3 x4) G a0 x2 x3 x4
set_option maxRecDepth 20000 in
theorem mX4_earliest {X : Xt} {l : Launch} (hfl : l.stackTraces = false) {G : Gt} {a0 : Nat} {x1 : Int32} {Pr : Int32 → Gt → Prop} {Px : String → Gt → Prop} (h : wX4_earliest X G a0 x1 Pr Px) : Mc X l yX4_earliest (.code yX4_earliest cX4_earliest 5 (some (.int))) 3 64 [.ref a0, .int x1] G (rI Pr) Px := by
  refine Mc.of (by decide +kernel) hfl [some (.ref a0), some (.int x1), none, none, none] rfl (Nat.le_of_ble_eq_true rfl) rfl ?_
  intro K hL C E0 hr hnm hex
  have B : BX X K l cX4_earliest 5 RX4 3 64 G (some (.int)) "earliest" := ⟨hL, C, E0, hr, hnm, hex, hfl⟩
  have C : Cx X K cX4_earliest 5 RX4 3 64 := C
  unfold wX4_earliest at h
  refine r_iconst C (-1) dX4_earliest_0 (by decide) ?_
  refine r_istore_n C 2 (lv' := [some (.ref a0), some (.int x1), some (.int (-1)), none, none]) dX4_earliest_1 rfl (Nat.le_of_ble_eq_true rfl) rfl rfl ?_
  refine r_iload_n C 1 dX4_earliest_2 rfl rfl ?_
  refine r_iconst C 1 dX4_earliest_3 (by decide) ?_
  refine r_iadd C dX4_earliest_4 ?_
  refine r_istore_n C 3 (lv' := [some (.ref a0), some (.int x1), some (.int (-1)), some (.int (x1 + 1)), none]) dX4_earliest_5 rfl (Nat.le_of_ble_eq_true rfl) rfl rfl ?_
  refine r_iconst C 0 dX4_earliest_6 (by decide) ?_
  refine r_istore C (lv' := [some (.ref a0), some (.int x1), some (.int (-1)), some (.int (x1 + 1)), some (.int 0)]) dX4_earliest_7 (Nat.le_of_ble_eq_true rfl) rfl rfl ?_
  refine r_fg (lv' := [some (.ref a0), none, some (.int (-1)), some (.int (x1 + 1)), some (.int 0)]) (show fgt _ _ from ⟨rfl, ⟨rfl, ⟨rfl, ⟨rfl, trivial⟩⟩⟩⟩) ?_
  obtain ⟨I, μ, hI, hS⟩ := h
  exact lX4_earliest_9 B I μ hS _ _ _ _ _ _ (Nat.lt_succ_self _) hI
def wX3_isReplyTo_109 (X : Xt) (Pr : Int32 → Gt → Prop) (G : Gt) (a0 : Nat) : Prop := gT G a0 = (1, 4) ∧ gT G a0 = (1, 4) ∧ wX3_sumOf X G a0 ((gI G 129 a0) - 2) (fun r1 G2 => gT G2 a0 = (1, 4) ∧ wX3_byteAt X G2 a0 ((gI G 129 a0) - 2) (fun r3 G4 => gT G4 a0 = (1, 4) ∧ wX3_byteAt X G4 a0 (((gI G 129 a0) - 2) + 1) (fun r5 G6 => (¬ r1 = (r3 ||| (r5 <<< (8 &&& 31))) → Pr 0 G6) ∧ (r1 = (r3 ||| (r5 <<< (8 &&& 31))) → Pr 1 G6))))
set_option maxRecDepth 20000 in
theorem bX3_isReplyTo_109 {X : Xt} {K : Kt} {l : Launch} {G0 : Gt} {Pr : Int32 → Gt → Prop} (B : BX X K l cX3_isReplyTo 4 RX3 2 46 G0 (some (.boolean)) "isReplyTo") {G : Gt} {a0 : Nat} (h : wX3_isReplyTo_109 X Pr G a0) : WM X K (QM X K G0 (rI Pr) noX) G 109 [some (.ref a0), none, none, none] [] := by
  obtain ⟨hL, C, E0, hr, hnm, hex, hfl⟩ := id B
  unfold wX3_isReplyTo_109 at h
  refine r_aloadR_n C 0 dX3_isReplyTo_109 rfl rfl ?_
  obtain ⟨ht, h⟩ := h
  refine r_getI C fw_RX3_15 rfl ht dX3_isReplyTo_110 ?_
  refine r_iconst C 2 dX3_isReplyTo_113 (by decide) ?_
  refine r_isub C dX3_isReplyTo_114 ?_
  refine r_istore_n C 3 (lv' := [some (.ref a0), none, none, some (.int ((gI G 129 a0) - 2))]) dX3_isReplyTo_115 rfl (Nat.le_of_ble_eq_true rfl) rfl rfl ?_
  refine r_aloadR_n C 0 dX3_isReplyTo_116 rfl rfl ?_
  refine r_iload_n C 3 dX3_isReplyTo_117 rfl rfl ?_
  obtain ⟨ht, h⟩ := h
  refine r_callV C (r := (RX3, TX3, 2)) hL yw_X3_sumOf vw_RX3_29 rfl rfl ht rfl rfl (Nat.le_of_ble_eq_true rfl) ⟨(Nat.le_of_ble_eq_true rfl), (Nat.le_of_ble_eq_true rfl)⟩ (mX3_sumOf hfl h) rfl dX3_isReplyTo_118 (kI (fun r1 G2 h => ?_)) kN
  refine r_aloadR_n C 0 dX3_isReplyTo_121 rfl rfl ?_
  refine r_iload_n C 3 dX3_isReplyTo_122 rfl rfl ?_
  obtain ⟨ht, h⟩ := h
  refine r_callV C (r := (RX3, TX3, 2)) hL yw_X3_byteAt vw_RX3_46 rfl rfl ht rfl rfl (Nat.le_of_ble_eq_true rfl) ⟨(Nat.le_of_ble_eq_true rfl), (Nat.le_of_ble_eq_true rfl)⟩ (mX3_byteAt hfl h) rfl dX3_isReplyTo_123 (kI (fun r3 G4 h => ?_)) kN
  refine r_aloadR_n C 0 dX3_isReplyTo_126 rfl rfl ?_
  refine r_iload_n C 3 dX3_isReplyTo_127 rfl rfl ?_
  refine r_iconst C 1 dX3_isReplyTo_128 (by decide) ?_
  refine r_iadd C dX3_isReplyTo_129 ?_
  obtain ⟨ht, h⟩ := h
  refine r_callV C (r := (RX3, TX3, 2)) hL yw_X3_byteAt vw_RX3_46 rfl rfl ht rfl rfl (Nat.le_of_ble_eq_true rfl) ⟨(Nat.le_of_ble_eq_true rfl), (Nat.le_of_ble_eq_true rfl)⟩ (mX3_byteAt hfl h) rfl dX3_isReplyTo_130 (kI (fun r5 G6 h => ?_)) kN
  refine r_bipush C 8 dX3_isReplyTo_133 (by decide) ?_
  refine r_ishl C dX3_isReplyTo_135 ?_
  refine r_ior C dX3_isReplyTo_136 ?_
  refine r_icmp_ne C 144 dX3_isReplyTo_137 (by decide) (fun c => ?_) (fun c => ?_)
  · replace h := h.1 c
    refine r_iconst C 0 dX3_isReplyTo_144 (by decide) ?_
    exact r_zret C E0 hr (Or.inl rfl) ⟨_, rfl, h⟩ dX3_isReplyTo_145
  · replace h := h.2 c
    refine r_iconst C 1 dX3_isReplyTo_140 (by decide) ?_
    refine r_goto C 145 dX3_isReplyTo_141 (by decide) ?_
    exact r_zret C E0 hr (Or.inr rfl) ⟨_, rfl, h⟩ dX3_isReplyTo_145
def wX3_isReplyTo_93 (X : Xt) (Pr : Int32 → Gt → Prop) (G : Gt) (a0 : Nat) (x2 : Int32) (sx0 : Int32) : Prop := gT G a0 = (1, 4) ∧ wX3_byteAt X G a0 1 (fun r1 G2 => (¬ r1 = x2 → Pr 0 G2) ∧ (r1 = x2 → (¬ sx0 = 0 → wX3_isReplyTo_109 X Pr G2 a0) ∧ (sx0 = 0 → Pr 0 G2)))
set_option maxRecDepth 20000 in
theorem bX3_isReplyTo_93 {X : Xt} {K : Kt} {l : Launch} {G0 : Gt} {Pr : Int32 → Gt → Prop} (B : BX X K l cX3_isReplyTo 4 RX3 2 46 G0 (some (.boolean)) "isReplyTo") {G : Gt} {a0 : Nat} {x2 : Int32} {sx0 : Int32} (h : wX3_isReplyTo_93 X Pr G a0 x2 sx0) : WM X K (QM X K G0 (rI Pr) noX) G 93 [some (.ref a0), none, some (.int x2), none] [.int sx0] := by
  obtain ⟨hL, C, E0, hr, hnm, hex, hfl⟩ := id B
  unfold wX3_isReplyTo_93 at h
  refine r_istore_n C 3 (lv' := [some (.ref a0), none, some (.int x2), some (.int sx0)]) dX3_isReplyTo_93 rfl (Nat.le_of_ble_eq_true rfl) rfl rfl ?_
  refine r_aloadR_n C 0 dX3_isReplyTo_94 rfl rfl ?_
  refine r_iconst C 1 dX3_isReplyTo_95 (by decide) ?_
  obtain ⟨ht, h⟩ := h
  refine r_callV C (r := (RX3, TX3, 2)) hL yw_X3_byteAt vw_RX3_46 rfl rfl ht rfl rfl (Nat.le_of_ble_eq_true rfl) ⟨(Nat.le_of_ble_eq_true rfl), (Nat.le_of_ble_eq_true rfl)⟩ (mX3_byteAt hfl h) rfl dX3_isReplyTo_96 (kI (fun r1 G2 h => ?_)) kN
  refine r_iload_n C 2 dX3_isReplyTo_99 rfl rfl ?_
  refine r_icmp_ne C 107 dX3_isReplyTo_100 (by decide) (fun c => ?_) (fun c => ?_)
  · replace h := h.1 c
    refine r_iconst C 0 dX3_isReplyTo_107 (by decide) ?_
    exact r_zret C E0 hr (Or.inl rfl) ⟨_, rfl, h⟩ dX3_isReplyTo_108
  · replace h := h.2 c
    refine r_iload_n C 3 dX3_isReplyTo_103 rfl rfl ?_
    refine r_if_ne C 109 dX3_isReplyTo_104 (by decide) (fun c => ?_) (fun c => ?_)
    · replace h := h.1 c
      refine r_fg (lv' := [some (.ref a0), none, none, none]) (show fgt _ _ from ⟨rfl, trivial⟩) ?_
      exact bX3_isReplyTo_109 B h
    · replace h := h.2 c
      refine r_iconst C 0 dX3_isReplyTo_107 (by decide) ?_
      exact r_zret C E0 hr (Or.inl rfl) ⟨_, rfl, h⟩ dX3_isReplyTo_108
def wX3_isReplyTo (X : Xt) (G : Gt) (a0 : Nat) (a1 : Nat) (Pr : Int32 → Gt → Prop) : Prop := gT G a0 = (1, 4) ∧ wX3_byteAt X G a0 0 (fun r1 G2 => gT G2 a1 = (1, 4) ∧ wX3_byteAt X G2 a1 0 (fun r3 G4 => (r1 = r3 → gT G4 a1 = (1, 4) ∧ wX3_byteAt X G4 a1 1 (fun r25 G26 => gT G26 a0 = (1, 4) ∧ wX3_byteAt X G26 a0 1 (fun r27 G28 => (r27 = (r25 + 128) → wX3_isReplyTo_109 X Pr G28 a0) ∧ (¬ (r27 = (r25 + 128)) → (¬ r25 = 3 → gT G28 a0 = (1, 4) ∧ wX3_wordAt X G28 a0 2 (fun r89 G90 => gT G90 a1 = (1, 4) ∧ wX3_wordAt X G90 a1 2 (fun r91 G92 => (¬ r89 = r91 → wX3_isReplyTo_93 X Pr G92 a0 r25 (0 : Int32)) ∧ (r89 = r91 → gT G92 a0 = (1, 4) ∧ wX3_wordAt X G92 a0 4 (fun r133 G134 => gT G134 a1 = (1, 4) ∧ wX3_wordAt X G134 a1 4 (fun r135 G136 => (¬ r133 = r135 → wX3_isReplyTo_93 X Pr G136 a0 r25 (0 : Int32)) ∧ (r133 = r135 → wX3_isReplyTo_93 X Pr G136 a0 r25 (1 : Int32)))))))) ∧ (r25 = 3 → gT G28 a0 = (1, 4) ∧ wX3_byteAt X G28 a0 2 (fun r109 G110 => gT G110 a1 = (1, 4) ∧ wX3_wordAt X G110 a1 4 (fun r111 G112 => (¬ r109 = (2 * r111) → wX3_isReplyTo_93 X Pr G112 a0 r25 (0 : Int32)) ∧ (r109 = (2 * r111) → wX3_isReplyTo_93 X Pr G112 a0 r25 (1 : Int32))))))))) ∧ (¬ (r1 = r3) → Pr 0 G4)))
set_option maxRecDepth 20000 in
theorem mX3_isReplyTo {X : Xt} {l : Launch} (hfl : l.stackTraces = false) {G : Gt} {a0 : Nat} {a1 : Nat} {Pr : Int32 → Gt → Prop} (h : wX3_isReplyTo X G a0 a1 Pr) : Mc X l yX3_isReplyTo (.code yX3_isReplyTo cX3_isReplyTo 4 (some (.boolean))) 2 46 [.ref a0, .ref a1] G (rI Pr) noX := by
  refine Mc.of (by decide +kernel) hfl [some (.ref a0), some (.ref a1), none, none] rfl (Nat.le_of_ble_eq_true rfl) rfl ?_
  intro K hL C E0 hr hnm hex
  have B : BX X K l cX3_isReplyTo 4 RX3 2 46 G (some (.boolean)) "isReplyTo" := ⟨hL, C, E0, hr, hnm, hex, hfl⟩
  have C : Cx X K cX3_isReplyTo 4 RX3 2 46 := C
  unfold wX3_isReplyTo at h
  refine r_aloadR_n C 0 dX3_isReplyTo_0 rfl rfl ?_
  refine r_iconst C 0 dX3_isReplyTo_1 (by decide) ?_
  obtain ⟨ht, h⟩ := h
  refine r_callV C (r := (RX3, TX3, 2)) hL yw_X3_byteAt vw_RX3_46 rfl rfl ht rfl rfl (Nat.le_of_ble_eq_true rfl) ⟨(Nat.le_of_ble_eq_true rfl), (Nat.le_of_ble_eq_true rfl)⟩ (mX3_byteAt hfl h) rfl dX3_isReplyTo_2 (kI (fun r1 G2 h => ?_)) kN
  refine r_aloadR_n C 1 dX3_isReplyTo_5 rfl rfl ?_
  refine r_iconst C 0 dX3_isReplyTo_6 (by decide) ?_
  obtain ⟨ht, h⟩ := h
  refine r_callV C (r := (RX3, TX3, 2)) hL yw_X3_byteAt vw_RX3_46 rfl rfl ht rfl rfl (Nat.le_of_ble_eq_true rfl) ⟨(Nat.le_of_ble_eq_true rfl), (Nat.le_of_ble_eq_true rfl)⟩ (mX3_byteAt hfl h) rfl dX3_isReplyTo_7 (kI (fun r3 G4 h => ?_)) kN
  refine r_icmp_eq C 15 dX3_isReplyTo_10 (by decide) (fun c => ?_) (fun c => ?_)
  · replace h := h.1 c
    refine r_aloadR_n C 1 dX3_isReplyTo_15 rfl rfl ?_
    refine r_iconst C 1 dX3_isReplyTo_16 (by decide) ?_
    obtain ⟨ht, h⟩ := h
    refine r_callV C (r := (RX3, TX3, 2)) hL yw_X3_byteAt vw_RX3_46 rfl rfl ht rfl rfl (Nat.le_of_ble_eq_true rfl) ⟨(Nat.le_of_ble_eq_true rfl), (Nat.le_of_ble_eq_true rfl)⟩ (mX3_byteAt hfl h) rfl dX3_isReplyTo_17 (kI (fun r25 G26 h => ?_)) kN
    refine r_istore_n C 2 (lv' := [some (.ref a0), some (.ref a1), some (.int r25), none]) dX3_isReplyTo_20 rfl (Nat.le_of_ble_eq_true rfl) rfl rfl ?_
    refine r_aloadR_n C 0 dX3_isReplyTo_21 rfl rfl ?_
    refine r_iconst C 1 dX3_isReplyTo_22 (by decide) ?_
    obtain ⟨ht, h⟩ := h
    refine r_callV C (r := (RX3, TX3, 2)) hL yw_X3_byteAt vw_RX3_46 rfl rfl ht rfl rfl (Nat.le_of_ble_eq_true rfl) ⟨(Nat.le_of_ble_eq_true rfl), (Nat.le_of_ble_eq_true rfl)⟩ (mX3_byteAt hfl h) rfl dX3_isReplyTo_23 (kI (fun r27 G28 h => ?_)) kN
    refine r_iload_n C 2 dX3_isReplyTo_26 rfl rfl ?_
    refine r_sipush C 128 dX3_isReplyTo_27 (by decide) ?_
    refine r_iadd C dX3_isReplyTo_30 ?_
    refine r_icmp_eq C 109 dX3_isReplyTo_31 (by decide) (fun c => ?_) (fun c => ?_)
    · replace h := h.1 c
      refine r_fg (lv' := [some (.ref a0), none, none, none]) (show fgt _ _ from ⟨rfl, trivial⟩) ?_
      exact bX3_isReplyTo_109 B h
    · replace h := h.2 c
      refine r_iload_n C 2 dX3_isReplyTo_34 rfl rfl ?_
      refine r_iconst C 3 dX3_isReplyTo_35 (by decide) ?_
      refine r_icmp_ne C 62 dX3_isReplyTo_36 (by decide) (fun c => ?_) (fun c => ?_)
      · replace h := h.1 c
        refine r_aloadR_n C 0 dX3_isReplyTo_62 rfl rfl ?_
        refine r_iconst C 2 dX3_isReplyTo_63 (by decide) ?_
        obtain ⟨ht, h⟩ := h
        refine r_callV C (r := (RX3, TX3, 2)) hL yw_X3_wordAt vw_RX3_43 rfl rfl ht rfl rfl (Nat.le_of_ble_eq_true rfl) ⟨(Nat.le_of_ble_eq_true rfl), (Nat.le_of_ble_eq_true rfl)⟩ (mX3_wordAt hfl h) rfl dX3_isReplyTo_64 (kI (fun r89 G90 h => ?_)) kN
        refine r_aloadR_n C 1 dX3_isReplyTo_67 rfl rfl ?_
        refine r_iconst C 2 dX3_isReplyTo_68 (by decide) ?_
        obtain ⟨ht, h⟩ := h
        refine r_callV C (r := (RX3, TX3, 2)) hL yw_X3_wordAt vw_RX3_43 rfl rfl ht rfl rfl (Nat.le_of_ble_eq_true rfl) ⟨(Nat.le_of_ble_eq_true rfl), (Nat.le_of_ble_eq_true rfl)⟩ (mX3_wordAt hfl h) rfl dX3_isReplyTo_69 (kI (fun r91 G92 h => ?_)) kN
        refine r_icmp_ne C 92 dX3_isReplyTo_72 (by decide) (fun c => ?_) (fun c => ?_)
        · replace h := h.1 c
          refine r_iconst C 0 dX3_isReplyTo_92 (by decide) ?_
          refine r_fg (lv' := [some (.ref a0), none, some (.int r25), none]) (show fgt _ _ from ⟨rfl, ⟨rfl, trivial⟩⟩) ?_
          exact bX3_isReplyTo_93 B h
        · replace h := h.2 c
          refine r_aloadR_n C 0 dX3_isReplyTo_75 rfl rfl ?_
          refine r_iconst C 4 dX3_isReplyTo_76 (by decide) ?_
          obtain ⟨ht, h⟩ := h
          refine r_callV C (r := (RX3, TX3, 2)) hL yw_X3_wordAt vw_RX3_43 rfl rfl ht rfl rfl (Nat.le_of_ble_eq_true rfl) ⟨(Nat.le_of_ble_eq_true rfl), (Nat.le_of_ble_eq_true rfl)⟩ (mX3_wordAt hfl h) rfl dX3_isReplyTo_77 (kI (fun r133 G134 h => ?_)) kN
          refine r_aloadR_n C 1 dX3_isReplyTo_80 rfl rfl ?_
          refine r_iconst C 4 dX3_isReplyTo_81 (by decide) ?_
          obtain ⟨ht, h⟩ := h
          refine r_callV C (r := (RX3, TX3, 2)) hL yw_X3_wordAt vw_RX3_43 rfl rfl ht rfl rfl (Nat.le_of_ble_eq_true rfl) ⟨(Nat.le_of_ble_eq_true rfl), (Nat.le_of_ble_eq_true rfl)⟩ (mX3_wordAt hfl h) rfl dX3_isReplyTo_82 (kI (fun r135 G136 h => ?_)) kN
          refine r_icmp_ne C 92 dX3_isReplyTo_85 (by decide) (fun c => ?_) (fun c => ?_)
          · replace h := h.1 c
            refine r_iconst C 0 dX3_isReplyTo_92 (by decide) ?_
            refine r_fg (lv' := [some (.ref a0), none, some (.int r25), none]) (show fgt _ _ from ⟨rfl, ⟨rfl, trivial⟩⟩) ?_
            exact bX3_isReplyTo_93 B h
          · replace h := h.2 c
            refine r_iconst C 1 dX3_isReplyTo_88 (by decide) ?_
            refine r_goto C 93 dX3_isReplyTo_89 (by decide) ?_
            refine r_fg (lv' := [some (.ref a0), none, some (.int r25), none]) (show fgt _ _ from ⟨rfl, ⟨rfl, trivial⟩⟩) ?_
            exact bX3_isReplyTo_93 B h
      · replace h := h.2 c
        refine r_aloadR_n C 0 dX3_isReplyTo_39 rfl rfl ?_
        refine r_iconst C 2 dX3_isReplyTo_40 (by decide) ?_
        obtain ⟨ht, h⟩ := h
        refine r_callV C (r := (RX3, TX3, 2)) hL yw_X3_byteAt vw_RX3_46 rfl rfl ht rfl rfl (Nat.le_of_ble_eq_true rfl) ⟨(Nat.le_of_ble_eq_true rfl), (Nat.le_of_ble_eq_true rfl)⟩ (mX3_byteAt hfl h) rfl dX3_isReplyTo_41 (kI (fun r109 G110 h => ?_)) kN
        refine r_iconst C 2 dX3_isReplyTo_44 (by decide) ?_
        refine r_aloadR_n C 1 dX3_isReplyTo_45 rfl rfl ?_
        refine r_iconst C 4 dX3_isReplyTo_46 (by decide) ?_
        obtain ⟨ht, h⟩ := h
        refine r_callV C (r := (RX3, TX3, 2)) hL yw_X3_wordAt vw_RX3_43 rfl rfl ht rfl rfl (Nat.le_of_ble_eq_true rfl) ⟨(Nat.le_of_ble_eq_true rfl), (Nat.le_of_ble_eq_true rfl)⟩ (mX3_wordAt hfl h) rfl dX3_isReplyTo_47 (kI (fun r111 G112 h => ?_)) kN
        refine r_imul C dX3_isReplyTo_50 ?_
        refine r_icmp_ne C 58 dX3_isReplyTo_51 (by decide) (fun c => ?_) (fun c => ?_)
        · replace h := h.1 c
          refine r_iconst C 0 dX3_isReplyTo_58 (by decide) ?_
          refine r_goto C 93 dX3_isReplyTo_59 (by decide) ?_
          refine r_fg (lv' := [some (.ref a0), none, some (.int r25), none]) (show fgt _ _ from ⟨rfl, ⟨rfl, trivial⟩⟩) ?_
          exact bX3_isReplyTo_93 B h
        · replace h := h.2 c
          refine r_iconst C 1 dX3_isReplyTo_54 (by decide) ?_
          refine r_goto C 93 dX3_isReplyTo_55 (by decide) ?_
          refine r_fg (lv' := [some (.ref a0), none, some (.int r25), none]) (show fgt _ _ from ⟨rfl, ⟨rfl, trivial⟩⟩) ?_
          exact bX3_isReplyTo_93 B h
  · replace h := h.2 c
    refine r_iconst C 0 dX3_isReplyTo_13 (by decide) ?_
    exact r_zret C E0 hr (Or.inl rfl) ⟨_, rfl, h⟩ dX3_isReplyTo_14
def wX4_take_11 (X : Xt) (Pr : Option Nat → Gt → Prop) (Px : String → Gt → Prop) (k11 : Gt → Nat → Nat → Int32 → Int32 → Int32 → Prop) (G : Gt) (a0 : Nat) (a1 : Nat) (x2 : Int32) (x3 : Int32) (x4 : Int32) : Prop := (x3 ≤ x4 → Pr none G) ∧ (¬ (x3 ≤ x4) → gT G a0 = (1, 5) ∧ wX4_earliest X G a0 x2 (fun r41 G42 => (0 ≤ r41 → gT G42 a0 = (1, 5) ∧ ∃ b63, gR G42 160 a0 = some b63 ∧ gT G42 b63 = (1, 0) ∧ wJx4a65c_remove_915e3 X G42 b63 r41 (fun r64 G65 => ∃ b66, r64 = some b66 ∧ gT G65 b66 = (1, 8) ∧ gT G65 b66 = (1, 8) ∧ ∃ b67, gR G65 256 b66 = some b67 ∧ gT G65 b67 = (1, 4) ∧ wX3_isReplyTo X G65 b67 a1 (fun r68 G69 => (r68 = 0 → gT G69 a0 = (1, 5) ∧ wX4_recycle X G69 a0 b66 (fun G90 => k11 G90 a0 a1 x2 x3 (x4 + 1))) ∧ (¬ (r68 = 0) → Pr (some b66) G69))) Px) ∧ (¬ (0 ≤ r41) → Pr none G42)) Px)
set_option maxRecDepth 20000 in
theorem bX4_take_11 {X : Xt} {K : Kt} {l : Launch} {G0 : Gt} {Pr : Option Nat → Gt → Prop} {Px : String → Gt → Prop} (B : BX X K l cX4_take 7 RX4 8 192 G0 (some (.object "RegisterGateway$Reply")) "take") {k11 : Gt → Nat → Nat → Int32 → Int32 → Int32 → Prop} (hk11 : ∀ (G : Gt) (a0 : Nat) (a1 : Nat) (x2 : Int32) (x3 : Int32) (x4 : Int32), k11 G a0 a1 x2 x3 x4 → WM X K (QM X K G0 (rA Pr) Px) G 11 [some (.ref a0), some (.ref a1), some (.int x2), some (.int x3), some (.int x4), none, none] []) {G : Gt} {a0 : Nat} {a1 : Nat} {x2 : Int32} {x3 : Int32} {x4 : Int32} (h : wX4_take_11 X Pr Px k11 G a0 a1 x2 x3 x4) : WM X K (QM X K G0 (rA Pr) Px) G 11 [some (.ref a0), some (.ref a1), some (.int x2), some (.int x3), some (.int x4), none, none] [] := by
  obtain ⟨hL, C, E0, hr, hnm, hex, hfl⟩ := id B
  unfold wX4_take_11 at h
  refine r_iload C dX4_take_11 rfl ?_
  refine r_iload_n C 3 dX4_take_13 rfl rfl ?_
  refine r_icmp_ge C 72 dX4_take_14 (by decide) (fun c => ?_) (fun c => ?_)
  · replace h := h.1 c
    refine r_aconst_null C dX4_take_72 ?_
    exact r_aret C E0 hr (Or.inl ⟨_, rfl⟩) (x := none) ⟨_, rfl, h⟩ dX4_take_73
  · replace h := h.2 c
    refine r_aloadR_n C 0 dX4_take_17 rfl rfl ?_
    refine r_iload_n C 2 dX4_take_18 rfl rfl ?_
    obtain ⟨ht, h⟩ := h
    refine r_callV C (r := (RX4, TX4, 2)) hL yw_X4_earliest vw_RX4_56 rfl rfl ht rfl rfl (Nat.le_of_ble_eq_true rfl) ⟨(Nat.le_of_ble_eq_true rfl), (Nat.le_of_ble_eq_true rfl)⟩ (mX4_earliest hfl h) rfl dX4_take_19 (kI (fun r41 G42 h => ?_)) (kO C E0 hex)
    refine r_istore C (lv' := [some (.ref a0), some (.ref a1), some (.int x2), some (.int x3), some (.int x4), some (.int r41), none]) dX4_take_22 (Nat.le_of_ble_eq_true rfl) rfl rfl ?_
    refine r_iload C dX4_take_24 rfl ?_
    refine r_if_ge C 31 dX4_take_26 (by decide) (fun c => ?_) (fun c => ?_)
    · replace h := h.1 c
      refine r_aloadR_n C 0 dX4_take_31 rfl rfl ?_
      obtain ⟨ht, h⟩ := h
      obtain ⟨b63, hb, h⟩ := h
      refine r_getR C fw_RX4_10 rfl ht hb dX4_take_32 ?_
      refine r_iload C dX4_take_35 rfl ?_
      obtain ⟨ht, h⟩ := h
      refine r_callV C (r := (RJx4a65c, TJx4a65c, 3)) hL yw_Jx4a65c_remove_915e3 vw_RX4_23 rfl rfl ht rfl rfl (Nat.le_of_ble_eq_true rfl) ⟨(Nat.le_of_ble_eq_true rfl), (Nat.le_of_ble_eq_true rfl)⟩ (mJx4a65c_remove_915e3 hfl h) rfl dX4_take_37 (kA' (fun r64 G65 h => ?_)) (kO C E0 hex)
      obtain ⟨b66, hb, ht, h⟩ := h
      subst hb
      refine r_cast C (r := (RX7, TX7, 3)) rfl cl_RX4_27 ht dX4_take_40 ?_
      refine r_astoreR C (lv' := [some (.ref a0), some (.ref a1), some (.int x2), some (.int x3), some (.int x4), some (.int r41), some (.ref b66)]) dX4_take_43 (Nat.le_of_ble_eq_true rfl) rfl rfl ?_
      refine r_aloadR C dX4_take_45 rfl ?_
      obtain ⟨ht, h⟩ := h
      obtain ⟨b67, hb, h⟩ := h
      refine r_getR C fw_RX4_60 rfl ht hb dX4_take_47 ?_
      refine r_aloadR_n C 1 dX4_take_50 rfl rfl ?_
      obtain ⟨ht, h⟩ := h
      refine r_callV C (r := (RX3, TX3, 2)) hL yw_X3_isReplyTo vw_RX4_64 rfl rfl ht rfl rfl (Nat.le_of_ble_eq_true rfl) ⟨(Nat.le_of_ble_eq_true rfl), (Nat.le_of_ble_eq_true rfl)⟩ (mX3_isReplyTo hfl h) rfl dX4_take_51 (kI (fun r68 G69 h => ?_)) kN
      refine r_if_eq C 60 dX4_take_54 (by decide) (fun c => ?_) (fun c => ?_)
      · replace h := h.1 c
        refine r_aloadR_n C 0 dX4_take_60 rfl rfl ?_
        refine r_aloadR C dX4_take_61 rfl ?_
        obtain ⟨ht, h⟩ := h
        refine r_callV C (r := (RX4, TX4, 2)) hL yw_X4_recycle vw_RX4_29 rfl rfl ht rfl rfl (Nat.le_of_ble_eq_true rfl) ⟨(Nat.le_of_ble_eq_true rfl), (Nat.le_of_ble_eq_true rfl)⟩ (mX4_recycle hfl h) rfl dX4_take_63 (kV' (fun G90 h => ?_)) kN
        refine r_iinc C 1 (lv' := [some (.ref a0), some (.ref a1), some (.int x2), some (.int x3), some (.int (x4 + 1)), some (.int r41), some (.ref b66)]) dX4_take_66 rfl (by decide) rfl rfl ?_
        refine r_goto C 11 dX4_take_69 (by decide) ?_
        refine r_fg (lv' := [some (.ref a0), some (.ref a1), some (.int x2), some (.int x3), some (.int (x4 + 1)), none, none]) (show fgt _ _ from ⟨rfl, ⟨rfl, ⟨rfl, ⟨rfl, ⟨rfl, trivial⟩⟩⟩⟩⟩) ?_
        exact hk11 _ _ _ _ _ _ h
      · replace h := h.2 c
        refine r_aloadR C dX4_take_57 rfl ?_
        exact r_aret C E0 hr (Or.inl ⟨_, rfl⟩) (x := (some b66)) ⟨_, rfl, h⟩ dX4_take_59
    · replace h := h.2 c
      refine r_aconst_null C dX4_take_29 ?_
      exact r_aret C E0 hr (Or.inl ⟨_, rfl⟩) (x := none) ⟨_, rfl, h⟩ dX4_take_30
theorem lX4_take_11 {X : Xt} {K : Kt} {l : Launch} {G0 : Gt} {Pr : Option Nat → Gt → Prop} {Px : String → Gt → Prop} (B : BX X K l cX4_take 7 RX4 8 192 G0 (some (.object "RegisterGateway$Reply")) "take") (I : Gt → Nat → Nat → Int32 → Int32 → Int32 → Prop) (μ : Gt → Nat → Nat → Int32 → Int32 → Int32 → Nat) (hS : ∀ (G : Gt) (a0 : Nat) (a1 : Nat) (x2 : Int32) (x3 : Int32) (x4 : Int32), I G a0 a1 x2 x3 x4 → wX4_take_11 X Pr Px (fun G' a0' a1' x2' x3' x4' => I G' a0' a1' x2' x3' x4' ∧ μ G' a0' a1' x2' x3' x4' < μ G a0 a1 x2 x3 x4) G a0 a1 x2 x3 x4) : ∀ (n : Nat) (G : Gt) (a0 : Nat) (a1 : Nat) (x2 : Int32) (x3 : Int32) (x4 : Int32), μ G a0 a1 x2 x3 x4 < n → I G a0 a1 x2 x3 x4 → WM X K (QM X K G0 (rA Pr) Px) G 11 [some (.ref a0), some (.ref a1), some (.int x2), some (.int x3), some (.int x4), none, none] [] := by
  intro n
  induction n with
  | zero => intro G a0 a1 x2 x3 x4 hm; exact absurd hm (Nat.not_lt_zero _)
  | succ n ih =>
    intro G a0 a1 x2 x3 x4 hm hi
    exact bX4_take_11 B (fun G' a0' a1' x2' x3' x4' hk => ih G' a0' a1' x2' x3' x4' (Nat.lt_of_lt_of_le hk.2 (Nat.le_of_lt_succ hm)) hk.1) (hS G a0 a1 x2 x3 x4 hi)
def wX4_take (X : Xt) (G : Gt) (a0 : Nat) (a1 : Nat) (x2 : Int32) (Pr : Option Nat → Gt → Prop) (Px : String → Gt → Prop) : Prop := gT G a0 = (1, 5) ∧ ∃ b1, gR G 160 a0 = some b1 ∧ gT G b1 = (1, 0) ∧ wJx4a65c_size_8abf5 X G b1 (fun r2 G3 => ∃ (I : Gt → Nat → Nat → Int32 → Int32 → Int32 → Prop) (μ : Gt → Nat → Nat → Int32 → Int32 → Int32 → Nat), I G3 a0 a1 x2 r2 (0 : Int32) ∧ ∀ (G : Gt) (a0 : Nat) (a1 : Nat) (x2 : Int32) (x3 : Int32) (x4 : Int32), I G a0 a1 x2 x3 x4 → wX4_take_11 X Pr Px (fun G' a0' a1' x2' x3' x4' => I G' a0' a1' x2' x3' x4' ∧ μ G' a0' a1' x2' x3' x4' < μ G a0 a1 x2 x3 x4) G a0 a1 x2 x3 x4)
set_option maxRecDepth 20000 in
theorem mX4_take {X : Xt} {l : Launch} (hfl : l.stackTraces = false) {G : Gt} {a0 : Nat} {a1 : Nat} {x2 : Int32} {Pr : Option Nat → Gt → Prop} {Px : String → Gt → Prop} (h : wX4_take X G a0 a1 x2 Pr Px) : Mc X l yX4_take (.code yX4_take cX4_take 7 (some (.object "RegisterGateway$Reply"))) 8 192 [.ref a0, .ref a1, .int x2] G (rA Pr) Px := by
  refine Mc.of (by decide +kernel) hfl [some (.ref a0), some (.ref a1), some (.int x2), none, none, none, none] rfl (Nat.le_of_ble_eq_true rfl) rfl ?_
  intro K hL C E0 hr hnm hex
  have B : BX X K l cX4_take 7 RX4 8 192 G (some (.object "RegisterGateway$Reply")) "take" := ⟨hL, C, E0, hr, hnm, hex, hfl⟩
  have C : Cx X K cX4_take 7 RX4 8 192 := C
  unfold wX4_take at h
  refine r_aloadR_n C 0 dX4_take_0 rfl rfl ?_
  obtain ⟨ht, h⟩ := h
  obtain ⟨b1, hb, h⟩ := h
  refine r_getR C fw_RX4_10 rfl ht hb dX4_take_1 ?_
  obtain ⟨ht, h⟩ := h
  refine r_callV C (r := (RJx4a65c, TJx4a65c, 3)) hL yw_Jx4a65c_size_8abf5 vw_RX4_19 rfl rfl ht rfl rfl (Nat.le_of_ble_eq_true rfl) ⟨(Nat.le_of_ble_eq_true rfl), (Nat.le_of_ble_eq_true rfl)⟩ (mJx4a65c_size_8abf5 hfl h) rfl dX4_take_4 (kI (fun r2 G3 h => ?_)) kN
  refine r_istore_n C 3 (lv' := [some (.ref a0), some (.ref a1), some (.int x2), some (.int r2), none, none, none]) dX4_take_7 rfl (Nat.le_of_ble_eq_true rfl) rfl rfl ?_
  refine r_iconst C 0 dX4_take_8 (by decide) ?_
  refine r_istore C (lv' := [some (.ref a0), some (.ref a1), some (.int x2), some (.int r2), some (.int 0), none, none]) dX4_take_9 (Nat.le_of_ble_eq_true rfl) rfl rfl ?_
  obtain ⟨I, μ, hI, hS⟩ := h
  exact lX4_take_11 B I μ hS _ _ _ _ _ _ _ (Nat.lt_succ_self _) hI
def wX1_noteTaken (X : Xt) (G : Gt) (a0 : Nat) (a1 : Nat) (Pr : Gt → Prop) : Prop := gT G a1 = (1, 8) ∧ gT G a1 = (1, 8) ∧ ∃ b1, gR G 256 a1 = some b1 ∧ gT G b1 = (1, 4) ∧ gT G a0 = (1, 2) ∧ ∀ G2, G2 = sI G 71 a0 ((gI G 257 a1) + (gI G 129 b1)) → gT G2 a0 = (1, 2) ∧ ∃ b3, gR G2 65 a0 = some b3 ∧ (gT G2 b3).1 = 2 ∧ vp_in 1 (gT G2 b3).2 ∧ (gT G2 b3).1 = 2 ∧ vp_in 1 (gT G2 b3).2 ∧ ∀ G4, G4 = sA G2 b3 (upd (gA G2 b3) (1 : Int32).toNatClampNeg ((gA G2 b3 (1 : Int32).toNatClampNeg) + 1)) → gT G4 a1 = (1, 8) ∧ gT G4 a0 = (1, 2) ∧ ((gI G4 258 a1) = (gI G4 72 a0) → Pr G4) ∧ (¬ ((gI G4 258 a1) = (gI G4 72 a0)) → gT G4 a0 = (1, 2) ∧ ∃ b45, gR G4 65 a0 = some b45 ∧ (gT G4 b45).1 = 2 ∧ vp_in 2 (gT G4 b45).2 ∧ (gT G4 b45).1 = 2 ∧ vp_in 2 (gT G4 b45).2 ∧ ∀ G46, G46 = sA G4 b45 (upd (gA G4 b45) (2 : Int32).toNatClampNeg ((gA G4 b45 (2 : Int32).toNatClampNeg) + 1)) → gT G46 a0 = (1, 2) ∧ ∀ G47, G47 = sI G46 74 a0 1 → Pr G47)
set_option maxRecDepth 20000 in
theorem mX1_noteTaken {X : Xt} {l : Launch} (hfl : l.stackTraces = false) {G : Gt} {a0 : Nat} {a1 : Nat} {Pr : Gt → Prop} (h : wX1_noteTaken X G a0 a1 Pr) : Mc X l yX1_noteTaken (.code yX1_noteTaken cX1_noteTaken 2 none) 0 0 [.ref a0, .ref a1] G (rV Pr) noX := by
  refine Mc.of (by decide +kernel) hfl [some (.ref a0), some (.ref a1)] rfl (Nat.le_of_ble_eq_true rfl) rfl ?_
  intro K hL C E0 hr hnm hex
  have B : BX X K l cX1_noteTaken 2 RX1 0 0 G none "noteTaken" := ⟨hL, C, E0, hr, hnm, hex, hfl⟩
  have C : Cx X K cX1_noteTaken 2 RX1 0 0 := C
  unfold wX1_noteTaken at h
  refine r_aloadR_n C 0 dX1_noteTaken_0 rfl rfl ?_
  refine r_aloadR_n C 1 dX1_noteTaken_1 rfl rfl ?_
  obtain ⟨ht, h⟩ := h
  refine r_getI C fw_RX1_247 rfl ht dX1_noteTaken_2 ?_
  refine r_aloadR_n C 1 dX1_noteTaken_5 rfl rfl ?_
  obtain ⟨ht, h⟩ := h
  obtain ⟨b1, hb, h⟩ := h
  refine r_getR C fw_RX1_184 rfl ht hb dX1_noteTaken_6 ?_
  obtain ⟨ht, h⟩ := h
  refine r_getI C fw_RX1_86 rfl ht dX1_noteTaken_9 ?_
  refine r_iadd C dX1_noteTaken_12 ?_
  obtain ⟨ht, h⟩ := h
  refine r_putI C cw_2 fp_RX1_53 rfl ht dX1_noteTaken_13 ?_
  refine r_nm (fun G2 hG2 => ?_)
  replace h := h G2 hG2
  refine r_aloadR_n C 0 dX1_noteTaken_16 rfl rfl ?_
  obtain ⟨ht, h⟩ := h
  obtain ⟨b3, hb, h⟩ := h
  refine r_getR C fw_RX1_15 rfl ht hb dX1_noteTaken_17 ?_
  refine r_iconst C 1 dX1_noteTaken_20 (by decide) ?_
  refine r_dup2 C dX1_noteTaken_21 rfl rfl ?_
  obtain ⟨ht, hi, h⟩ := h
  refine r_ialdP C ht hi dX1_noteTaken_22 ?_
  refine r_iconst C 1 dX1_noteTaken_23 (by decide) ?_
  refine r_iadd C dX1_noteTaken_24 ?_
  obtain ⟨ht, hi, h⟩ := h
  refine r_iastP C ht hi dX1_noteTaken_25 ?_
  refine r_nm (fun G4 hG4 => ?_)
  replace h := h G4 hG4
  refine r_aloadR_n C 1 dX1_noteTaken_26 rfl rfl ?_
  obtain ⟨ht, h⟩ := h
  refine r_getI C fw_RX1_226 rfl ht dX1_noteTaken_27 ?_
  refine r_aloadR_n C 0 dX1_noteTaken_30 rfl rfl ?_
  obtain ⟨ht, h⟩ := h
  refine r_getI C fw_RX1_57 rfl ht dX1_noteTaken_31 ?_
  refine r_icmp_eq C 52 dX1_noteTaken_34 (by decide) (fun c => ?_) (fun c => ?_)
  · replace h := h.1 c
    exact r_vret C E0 hr ⟨rfl, h⟩ dX1_noteTaken_52
  · replace h := h.2 c
    refine r_aloadR_n C 0 dX1_noteTaken_37 rfl rfl ?_
    obtain ⟨ht, h⟩ := h
    obtain ⟨b45, hb, h⟩ := h
    refine r_getR C fw_RX1_15 rfl ht hb dX1_noteTaken_38 ?_
    refine r_iconst C 2 dX1_noteTaken_41 (by decide) ?_
    refine r_dup2 C dX1_noteTaken_42 rfl rfl ?_
    obtain ⟨ht, hi, h⟩ := h
    refine r_ialdP C ht hi dX1_noteTaken_43 ?_
    refine r_iconst C 1 dX1_noteTaken_44 (by decide) ?_
    refine r_iadd C dX1_noteTaken_45 ?_
    obtain ⟨ht, hi, h⟩ := h
    refine r_iastP C ht hi dX1_noteTaken_46 ?_
    refine r_nm (fun G46 hG46 => ?_)
    replace h := h G46 hG46
    refine r_aloadR_n C 0 dX1_noteTaken_47 rfl rfl ?_
    refine r_iconst C 1 dX1_noteTaken_48 (by decide) ?_
    obtain ⟨ht, h⟩ := h
    refine r_putZ C cw_2 fp_RX1_64 rfl ht (Or.inr rfl) dX1_noteTaken_49 ?_
    refine r_nm (fun G47 hG47 => ?_)
    replace h := h G47 hG47
    exact r_vret C E0 hr ⟨rfl, h⟩ dX1_noteTaken_52
def wX1_tryFrame_173 (X : Xt) (Pr : Option Nat → Gt → Prop) (Px : String → Gt → Prop) (k34 : Gt → Nat → Nat → Int32 → Prop) (G : Gt) (a0 : Nat) (a1 : Nat) (x2 : Int32) (o4 : Option Nat) (sa0 : Nat) (sx1 : Int32) : Prop := gT G sa0 = (1, 2) ∧ (sx1 = 0 ∨ sx1 = 1) ∧ ∀ G1, G1 = sI G 73 sa0 sx1 → (o4 = none → gT G1 a0 = (1, 2) ∧ gT G1 a0 = (1, 2) ∧ ∃ b23, gR G1 64 a0 = some b23 ∧ (gT G1 b23).1 = 2 ∧ vp_in 1 (gT G1 b23).2 ∧ gT G1 a0 = (1, 2) ∧ ∀ G24, G24 = sI G1 71 a0 ((gI G1 71 a0) + (gA G1 b23 (1 : Int32).toNatClampNeg)) → gT G24 a0 = (1, 2) ∧ ∃ b25, gR G24 65 a0 = some b25 ∧ (gT G24 b25).1 = 2 ∧ vp_in 3 (gT G24 b25).2 ∧ (gT G24 b25).1 = 2 ∧ vp_in 3 (gT G24 b25).2 ∧ ∀ G26, G26 = sA G24 b25 (upd (gA G24 b25) (3 : Int32).toNatClampNeg ((gA G24 b25 (3 : Int32).toNatClampNeg) + 1)) → k34 G26 a0 a1 (x2 + 1)) ∧ (∀ b2, o4 = some b2 → gT G1 a0 = (1, 2) ∧ wX1_noteTaken X G1 a0 b2 (fun G43 => Pr (some b2) G43))
set_option maxRecDepth 20000 in
theorem bX1_tryFrame_173 {X : Xt} {K : Kt} {l : Launch} {G0 : Gt} {Pr : Option Nat → Gt → Prop} {Px : String → Gt → Prop} (B : BX X K l cX1_tryFrame 5 RX1 9 218 G0 (some (.object "RegisterGateway$Reply")) "tryFrame") {k34 : Gt → Nat → Nat → Int32 → Prop} (hk34 : ∀ (G : Gt) (a0 : Nat) (a1 : Nat) (x2 : Int32), k34 G a0 a1 x2 → WM X K (QM X K G0 (rA Pr) Px) G 34 [some (.ref a0), some (.ref a1), some (.int x2), none, none] []) {G : Gt} {a0 : Nat} {a1 : Nat} {x2 : Int32} {o4 : Option Nat} {sa0 : Nat} {sx1 : Int32} (h : wX1_tryFrame_173 X Pr Px k34 G a0 a1 x2 o4 sa0 sx1) : WM X K (QM X K G0 (rA Pr) Px) G 173 [some (.ref a0), some (.ref a1), some (.int x2), none, some (va_rf o4)] [.int sx1, .ref sa0] := by
  obtain ⟨hL, C, E0, hr, hnm, hex, hfl⟩ := id B
  unfold wX1_tryFrame_173 at h
  obtain ⟨ht, h⟩ := h
  obtain ⟨hz, h⟩ := h
  refine r_putZ C cw_2 fp_RX1_60 rfl ht hz dX1_tryFrame_173 ?_
  refine r_nm (fun G1 hG1 => ?_)
  replace h := h G1 hG1
  refine r_aload C (x := o4) dX1_tryFrame_176 rfl ?_
  refine r_ifnull C 190 dX1_tryFrame_178 (by decide) (fun c => ?_) (fun b2 c => ?_)
  · replace h := h.1 c
    subst c
    show WM _ _ _ _ _ [some (.ref a0), some (.ref a1), some (.int x2), none, some (.null)] []
    refine r_aloadR_n C 0 dX1_tryFrame_190 rfl rfl ?_
    refine r_dup C dX1_tryFrame_191 rfl ?_
    obtain ⟨ht, h⟩ := h
    refine r_getI C fw_RX1_53 rfl ht dX1_tryFrame_192 ?_
    refine r_aloadR_n C 0 dX1_tryFrame_195 rfl rfl ?_
    obtain ⟨ht, h⟩ := h
    obtain ⟨b23, hb, h⟩ := h
    refine r_getR C fw_RX1_9 rfl ht hb dX1_tryFrame_196 ?_
    refine r_iconst C 1 dX1_tryFrame_199 (by decide) ?_
    obtain ⟨ht, hi, h⟩ := h
    refine r_ialdP C ht hi dX1_tryFrame_200 ?_
    refine r_iadd C dX1_tryFrame_201 ?_
    obtain ⟨ht, h⟩ := h
    refine r_putI C cw_2 fp_RX1_53 rfl ht dX1_tryFrame_202 ?_
    refine r_nm (fun G24 hG24 => ?_)
    replace h := h G24 hG24
    refine r_aloadR_n C 0 dX1_tryFrame_205 rfl rfl ?_
    obtain ⟨ht, h⟩ := h
    obtain ⟨b25, hb, h⟩ := h
    refine r_getR C fw_RX1_15 rfl ht hb dX1_tryFrame_206 ?_
    refine r_iconst C 3 dX1_tryFrame_209 (by decide) ?_
    refine r_dup2 C dX1_tryFrame_210 rfl rfl ?_
    obtain ⟨ht, hi, h⟩ := h
    refine r_ialdP C ht hi dX1_tryFrame_211 ?_
    refine r_iconst C 1 dX1_tryFrame_212 (by decide) ?_
    refine r_iadd C dX1_tryFrame_213 ?_
    obtain ⟨ht, hi, h⟩ := h
    refine r_iastP C ht hi dX1_tryFrame_214 ?_
    refine r_nm (fun G26 hG26 => ?_)
    replace h := h G26 hG26
    refine r_iinc C 1 (lv' := [some (.ref a0), some (.ref a1), some (.int (x2 + 1)), none, some (.null)]) dX1_tryFrame_215 rfl (by decide) rfl rfl ?_
    refine r_goto C 34 dX1_tryFrame_218 (by decide) ?_
    refine r_fg (lv' := [some (.ref a0), some (.ref a1), some (.int (x2 + 1)), none, none]) (show fgt _ _ from ⟨rfl, ⟨rfl, ⟨rfl, trivial⟩⟩⟩) ?_
    exact hk34 _ _ _ _ h
  · replace h := h.2 b2 c
    subst c
    show WM _ _ _ _ _ [some (.ref a0), some (.ref a1), some (.int x2), none, some (.ref b2)] []
    refine r_aloadR_n C 0 dX1_tryFrame_181 rfl rfl ?_
    refine r_aloadR C dX1_tryFrame_182 rfl ?_
    obtain ⟨ht, h⟩ := h
    refine r_callV C (r := (RX1, TX1, 11)) hL yw_X1_noteTaken vw_RX1_244 rfl rfl ht rfl rfl (Nat.le_of_ble_eq_true rfl) ⟨(Nat.le_of_ble_eq_true rfl), (Nat.le_of_ble_eq_true rfl)⟩ (mX1_noteTaken hfl h) rfl dX1_tryFrame_184 (kV' (fun G43 h => ?_)) kN
    refine r_aloadR C dX1_tryFrame_187 rfl ?_
    exact r_aret C E0 hr (Or.inl ⟨_, rfl⟩) (x := (some b2)) ⟨_, rfl, h⟩ dX1_tryFrame_189
def wX1_tryFrame_138 (X : Xt) (Pr : Option Nat → Gt → Prop) (Px : String → Gt → Prop) (k34 : Gt → Nat → Nat → Int32 → Prop) (G : Gt) (a0 : Nat) (a1 : Nat) (x2 : Int32) : Prop := gT G a0 = (1, 2) ∧ ∃ b1, gR G 69 a0 = some b1 ∧ gT G a0 = (1, 2) ∧ ∃ b2, gR G 70 a0 = some b2 ∧ gT G a0 = (1, 2) ∧ gT G a0 = (1, 2) ∧ ∃ b3, gR G 64 a0 = some b3 ∧ (gT G b3).1 = 2 ∧ vp_in 1 (gT G b3).2 ∧ gT G b1 = (1, 5) ∧ wX4_take X G b1 b2 ((gI G 71 a0) + (gA G b3 (1 : Int32).toNatClampNeg)) (fun r4 G5 => (∀ b6, r4 = some b6 → wX1_tryFrame_173 X Pr Px k34 G5 a0 a1 x2 (some b6) a0 (0 : Int32)) ∧ (r4 = none → wX1_tryFrame_173 X Pr Px k34 G5 a0 a1 x2 none a0 (1 : Int32))) Px
set_option maxRecDepth 20000 in
theorem bX1_tryFrame_138 {X : Xt} {K : Kt} {l : Launch} {G0 : Gt} {Pr : Option Nat → Gt → Prop} {Px : String → Gt → Prop} (B : BX X K l cX1_tryFrame 5 RX1 9 218 G0 (some (.object "RegisterGateway$Reply")) "tryFrame") {k34 : Gt → Nat → Nat → Int32 → Prop} (hk34 : ∀ (G : Gt) (a0 : Nat) (a1 : Nat) (x2 : Int32), k34 G a0 a1 x2 → WM X K (QM X K G0 (rA Pr) Px) G 34 [some (.ref a0), some (.ref a1), some (.int x2), none, none] []) {G : Gt} {a0 : Nat} {a1 : Nat} {x2 : Int32} (h : wX1_tryFrame_138 X Pr Px k34 G a0 a1 x2) : WM X K (QM X K G0 (rA Pr) Px) G 138 [some (.ref a0), some (.ref a1), some (.int x2), none, none] [] := by
  obtain ⟨hL, C, E0, hr, hnm, hex, hfl⟩ := id B
  unfold wX1_tryFrame_138 at h
  refine r_aloadR_n C 0 dX1_tryFrame_138 rfl rfl ?_
  obtain ⟨ht, h⟩ := h
  obtain ⟨b1, hb, h⟩ := h
  refine r_getR C fw_RX1_42 rfl ht hb dX1_tryFrame_139 ?_
  refine r_aloadR_n C 0 dX1_tryFrame_142 rfl rfl ?_
  obtain ⟨ht, h⟩ := h
  obtain ⟨b2, hb, h⟩ := h
  refine r_getR C fw_RX1_49 rfl ht hb dX1_tryFrame_143 ?_
  refine r_aloadR_n C 0 dX1_tryFrame_146 rfl rfl ?_
  obtain ⟨ht, h⟩ := h
  refine r_getI C fw_RX1_53 rfl ht dX1_tryFrame_147 ?_
  refine r_aloadR_n C 0 dX1_tryFrame_150 rfl rfl ?_
  obtain ⟨ht, h⟩ := h
  obtain ⟨b3, hb, h⟩ := h
  refine r_getR C fw_RX1_9 rfl ht hb dX1_tryFrame_151 ?_
  refine r_iconst C 1 dX1_tryFrame_154 (by decide) ?_
  obtain ⟨ht, hi, h⟩ := h
  refine r_ialdP C ht hi dX1_tryFrame_155 ?_
  refine r_iadd C dX1_tryFrame_156 ?_
  obtain ⟨ht, h⟩ := h
  refine r_callV C (r := (RX4, TX4, 2)) hL yw_X4_take vw_RX1_240 rfl rfl ht rfl rfl (Nat.le_of_ble_eq_true rfl) ⟨(Nat.le_of_ble_eq_true rfl), (Nat.le_of_ble_eq_true rfl)⟩ (mX4_take hfl h) rfl dX1_tryFrame_157 (kA' (fun r4 G5 h => ?_)) (kO C E0 hex)
  refine r_astore C (x := r4) (lv' := [some (.ref a0), some (.ref a1), some (.int x2), none, some (va_rf r4)]) dX1_tryFrame_160 (Nat.le_of_ble_eq_true rfl) rfl rfl ?_
  refine r_aloadR_n C 0 dX1_tryFrame_162 rfl rfl ?_
  refine r_aload C (x := r4) dX1_tryFrame_163 rfl ?_
  refine r_ifnonnull C 172 dX1_tryFrame_165 (by decide) (fun b6 c => ?_) (fun c => ?_)
  · replace h := h.1 b6 c
    subst c
    show WM _ _ _ _ _ [some (.ref a0), some (.ref a1), some (.int x2), none, some (.ref b6)] [.ref a0]
    refine r_iconst C 0 dX1_tryFrame_172 (by decide) ?_
    exact bX1_tryFrame_173 B hk34 h
  · replace h := h.2 c
    subst c
    show WM _ _ _ _ _ [some (.ref a0), some (.ref a1), some (.int x2), none, some (.null)] [.ref a0]
    refine r_iconst C 1 dX1_tryFrame_168 (by decide) ?_
    refine r_goto C 173 dX1_tryFrame_169 (by decide) ?_
    exact bX1_tryFrame_173 B hk34 h
def wX1_tryFrame_34 (X : Xt) (Pr : Option Nat → Gt → Prop) (Px : String → Gt → Prop) (k34 : Gt → Nat → Nat → Int32 → Prop) (G : Gt) (a0 : Nat) (a1 : Nat) (x2 : Int32) : Prop := gT G a0 = (1, 2) ∧ ∃ b1, gR G 64 a0 = some b1 ∧ (gT G b1).1 = 2 ∧ vp_in 2 (gT G b1).2 ∧ ((gA G b1 (2 : Int32).toNatClampNeg) < x2 → Pr none G) ∧ (¬ ((gA G b1 (2 : Int32).toNatClampNeg) < x2) → gT G a0 = (1, 2) ∧ gT G a0 = (1, 2) ∧ ∃ b42, gR G 70 a0 = some b42 ∧ gT G b42 = (1, 4) ∧ gT G a0 = (1, 2) ∧ ∀ G43, G43 = sI G 71 a0 ((gI G 71 a0) + (4 + (gI G 129 b42))) → gT G43 a0 = (1, 2) ∧ ∃ b44, gR G43 65 a0 = some b44 ∧ (gT G43 b44).1 = 2 ∧ vp_in 0 (gT G43 b44).2 ∧ (gT G43 b44).1 = 2 ∧ vp_in 0 (gT G43 b44).2 ∧ ∀ G45, G45 = sA G43 b44 (upd (gA G43 b44) (0 : Int32).toNatClampNeg ((gA G43 b44 (0 : Int32).toNatClampNeg) + 1)) → gT G45 a0 = (1, 2) ∧ ∃ b46, gR G45 69 a0 = some b46 ∧ gT G45 a0 = (1, 2) ∧ gT G45 b46 = (1, 5) ∧ wX4_dropBefore X G45 b46 (gI G45 71 a0) (fun G47 => gT G47 a0 = (1, 2) ∧ ∃ b48, gR G47 69 a0 = some b48 ∧ gT G47 b48 = (1, 5) ∧ wX4_freeReply X G47 b48 (fun r49 G50 => ∃ b51, r49 = some b51 ∧ gT G50 a0 = (1, 2) ∧ gT G50 b51 = (1, 8) ∧ ∀ G52, G52 = sI G50 258 b51 (gI G50 72 a0) → gT G52 a0 = (1, 2) ∧ ∃ b53, gR G52 70 a0 = some b53 ∧ gT G52 a0 = (1, 2) ∧ gT G52 a1 = (1, 3) ∧ wX2_answer X G52 a1 b53 (gI G52 71 a0) b51 (fun r54 G55 => (r54 = 0 → gT G55 a0 = (1, 2) ∧ ∃ b76, gR G55 69 a0 = some b76 ∧ gT G55 b76 = (1, 5) ∧ wX4_recycle X G55 b76 b51 (fun G77 => wX1_tryFrame_138 X Pr Px k34 G77 a0 a1 x2)) ∧ (¬ (r54 = 0) → gT G55 a0 = (1, 2) ∧ ∃ b96, gR G55 69 a0 = some b96 ∧ gT G55 b96 = (1, 5) ∧ ∃ b97, gR G55 160 b96 = some b97 ∧ gT G55 b97 = (1, 0) ∧ wJx4a65c_add_9ea2d X G55 b97 b51 (fun r98 G99 => wX1_tryFrame_138 X Pr Px k34 G99 a0 a1 x2)))) Px) Px)
set_option maxRecDepth 20000 in
theorem bX1_tryFrame_34 {X : Xt} {K : Kt} {l : Launch} {G0 : Gt} {Pr : Option Nat → Gt → Prop} {Px : String → Gt → Prop} (B : BX X K l cX1_tryFrame 5 RX1 9 218 G0 (some (.object "RegisterGateway$Reply")) "tryFrame") {k34 : Gt → Nat → Nat → Int32 → Prop} (hk34 : ∀ (G : Gt) (a0 : Nat) (a1 : Nat) (x2 : Int32), k34 G a0 a1 x2 → WM X K (QM X K G0 (rA Pr) Px) G 34 [some (.ref a0), some (.ref a1), some (.int x2), none, none] []) {G : Gt} {a0 : Nat} {a1 : Nat} {x2 : Int32} (h : wX1_tryFrame_34 X Pr Px k34 G a0 a1 x2) : WM X K (QM X K G0 (rA Pr) Px) G 34 [some (.ref a0), some (.ref a1), some (.int x2), none, none] [] := by
  obtain ⟨hL, C, E0, hr, hnm, hex, hfl⟩ := id B
  unfold wX1_tryFrame_34 at h
  refine r_iload_n C 2 dX1_tryFrame_34 rfl rfl ?_
  refine r_aloadR_n C 0 dX1_tryFrame_35 rfl rfl ?_
  obtain ⟨ht, h⟩ := h
  obtain ⟨b1, hb, h⟩ := h
  refine r_getR C fw_RX1_9 rfl ht hb dX1_tryFrame_36 ?_
  refine r_iconst C 2 dX1_tryFrame_39 (by decide) ?_
  obtain ⟨ht, hi, h⟩ := h
  refine r_ialdP C ht hi dX1_tryFrame_40 ?_
  refine r_icmp_gt C 221 dX1_tryFrame_41 (by decide) (fun c => ?_) (fun c => ?_)
  · replace h := h.1 c
    refine r_aconst_null C dX1_tryFrame_221 ?_
    exact r_aret C E0 hr (Or.inl ⟨_, rfl⟩) (x := none) ⟨_, rfl, h⟩ dX1_tryFrame_222
  · replace h := h.2 c
    refine r_aloadR_n C 0 dX1_tryFrame_44 rfl rfl ?_
    refine r_dup C dX1_tryFrame_45 rfl ?_
    obtain ⟨ht, h⟩ := h
    refine r_getI C fw_RX1_53 rfl ht dX1_tryFrame_46 ?_
    refine r_iconst C 4 dX1_tryFrame_49 (by decide) ?_
    refine r_aloadR_n C 0 dX1_tryFrame_50 rfl rfl ?_
    obtain ⟨ht, h⟩ := h
    obtain ⟨b42, hb, h⟩ := h
    refine r_getR C fw_RX1_49 rfl ht hb dX1_tryFrame_51 ?_
    obtain ⟨ht, h⟩ := h
    refine r_getI C fw_RX1_86 rfl ht dX1_tryFrame_54 ?_
    refine r_iadd C dX1_tryFrame_57 ?_
    refine r_iadd C dX1_tryFrame_58 ?_
    obtain ⟨ht, h⟩ := h
    refine r_putI C cw_2 fp_RX1_53 rfl ht dX1_tryFrame_59 ?_
    refine r_nm (fun G43 hG43 => ?_)
    replace h := h G43 hG43
    refine r_aloadR_n C 0 dX1_tryFrame_62 rfl rfl ?_
    obtain ⟨ht, h⟩ := h
    obtain ⟨b44, hb, h⟩ := h
    refine r_getR C fw_RX1_15 rfl ht hb dX1_tryFrame_63 ?_
    refine r_iconst C 0 dX1_tryFrame_66 (by decide) ?_
    refine r_dup2 C dX1_tryFrame_67 rfl rfl ?_
    obtain ⟨ht, hi, h⟩ := h
    refine r_ialdP C ht hi dX1_tryFrame_68 ?_
    refine r_iconst C 1 dX1_tryFrame_69 (by decide) ?_
    refine r_iadd C dX1_tryFrame_70 ?_
    obtain ⟨ht, hi, h⟩ := h
    refine r_iastP C ht hi dX1_tryFrame_71 ?_
    refine r_nm (fun G45 hG45 => ?_)
    replace h := h G45 hG45
    refine r_aloadR_n C 0 dX1_tryFrame_72 rfl rfl ?_
    obtain ⟨ht, h⟩ := h
    obtain ⟨b46, hb, h⟩ := h
    refine r_getR C fw_RX1_42 rfl ht hb dX1_tryFrame_73 ?_
    refine r_aloadR_n C 0 dX1_tryFrame_76 rfl rfl ?_
    obtain ⟨ht, h⟩ := h
    refine r_getI C fw_RX1_53 rfl ht dX1_tryFrame_77 ?_
    obtain ⟨ht, h⟩ := h
    refine r_callV C (r := (RX4, TX4, 2)) hL yw_X4_dropBefore vw_RX1_219 rfl rfl ht rfl rfl (Nat.le_of_ble_eq_true rfl) ⟨(Nat.le_of_ble_eq_true rfl), (Nat.le_of_ble_eq_true rfl)⟩ (mX4_dropBefore hfl h) rfl dX1_tryFrame_80 (kV' (fun G47 h => ?_)) (kO C E0 hex)
    refine r_aloadR_n C 0 dX1_tryFrame_83 rfl rfl ?_
    obtain ⟨ht, h⟩ := h
    obtain ⟨b48, hb, h⟩ := h
    refine r_getR C fw_RX1_42 rfl ht hb dX1_tryFrame_84 ?_
    obtain ⟨ht, h⟩ := h
    refine r_callV C (r := (RX4, TX4, 2)) hL yw_X4_freeReply vw_RX1_222 rfl rfl ht rfl rfl (Nat.le_of_ble_eq_true rfl) ⟨(Nat.le_of_ble_eq_true rfl), (Nat.le_of_ble_eq_true rfl)⟩ (mX4_freeReply hfl h) rfl dX1_tryFrame_87 (kA' (fun r49 G50 h => ?_)) (kO C E0 hex)
    obtain ⟨b51, hb, h⟩ := h
    subst hb
    refine r_astoreR_n C 3 (lv' := [some (.ref a0), some (.ref a1), some (.int x2), some (.ref b51), none]) dX1_tryFrame_90 rfl (Nat.le_of_ble_eq_true rfl) rfl rfl ?_
    refine r_aloadR_n C 3 dX1_tryFrame_91 rfl rfl ?_
    refine r_aloadR_n C 0 dX1_tryFrame_92 rfl rfl ?_
    obtain ⟨ht, h⟩ := h
    refine r_getI C fw_RX1_57 rfl ht dX1_tryFrame_93 ?_
    obtain ⟨ht, h⟩ := h
    refine r_putI C cw_8 fp_RX1_226 rfl ht dX1_tryFrame_96 ?_
    refine r_nm (fun G52 hG52 => ?_)
    replace h := h G52 hG52
    refine r_aloadR_n C 1 dX1_tryFrame_99 rfl rfl ?_
    refine r_aloadR_n C 0 dX1_tryFrame_100 rfl rfl ?_
    obtain ⟨ht, h⟩ := h
    obtain ⟨b53, hb, h⟩ := h
    refine r_getR C fw_RX1_49 rfl ht hb dX1_tryFrame_101 ?_
    refine r_aloadR_n C 0 dX1_tryFrame_104 rfl rfl ?_
    obtain ⟨ht, h⟩ := h
    refine r_getI C fw_RX1_53 rfl ht dX1_tryFrame_105 ?_
    refine r_aloadR_n C 3 dX1_tryFrame_108 rfl rfl ?_
    obtain ⟨ht, h⟩ := h
    refine r_callV C (r := (RX2, TX2, 7)) hL yw_X2_answer vw_RX1_229 rfl rfl ht rfl rfl (Nat.le_of_ble_eq_true rfl) ⟨(Nat.le_of_ble_eq_true rfl), (Nat.le_of_ble_eq_true rfl)⟩ (mX2_answer hfl h) rfl dX1_tryFrame_109 (kI (fun r54 G55 h => ?_)) kN
    refine r_if_eq C 130 dX1_tryFrame_112 (by decide) (fun c => ?_) (fun c => ?_)
    · replace h := h.1 c
      refine r_aloadR_n C 0 dX1_tryFrame_130 rfl rfl ?_
      obtain ⟨ht, h⟩ := h
      obtain ⟨b76, hb, h⟩ := h
      refine r_getR C fw_RX1_42 rfl ht hb dX1_tryFrame_131 ?_
      refine r_aloadR_n C 3 dX1_tryFrame_134 rfl rfl ?_
      obtain ⟨ht, h⟩ := h
      refine r_callV C (r := (RX4, TX4, 2)) hL yw_X4_recycle vw_RX1_198 rfl rfl ht rfl rfl (Nat.le_of_ble_eq_true rfl) ⟨(Nat.le_of_ble_eq_true rfl), (Nat.le_of_ble_eq_true rfl)⟩ (mX4_recycle hfl h) rfl dX1_tryFrame_135 (kV' (fun G77 h => ?_)) kN
      refine r_fg (lv' := [some (.ref a0), some (.ref a1), some (.int x2), none, none]) (show fgt _ _ from ⟨rfl, ⟨rfl, ⟨rfl, trivial⟩⟩⟩) ?_
      exact bX1_tryFrame_138 B hk34 h
    · replace h := h.2 c
      refine r_aloadR_n C 0 dX1_tryFrame_115 rfl rfl ?_
      obtain ⟨ht, h⟩ := h
      obtain ⟨b96, hb, h⟩ := h
      refine r_getR C fw_RX1_42 rfl ht hb dX1_tryFrame_116 ?_
      obtain ⟨ht, h⟩ := h
      obtain ⟨b97, hb, h⟩ := h
      refine r_getR C fw_RX1_233 rfl ht hb dX1_tryFrame_119 ?_
      refine r_aloadR_n C 3 dX1_tryFrame_122 rfl rfl ?_
      obtain ⟨ht, h⟩ := h
      refine r_callV C (r := (RJx4a65c, TJx4a65c, 3)) hL yw_Jx4a65c_add_9ea2d vw_RX1_236 rfl rfl ht rfl rfl (Nat.le_of_ble_eq_true rfl) ⟨(Nat.le_of_ble_eq_true rfl), (Nat.le_of_ble_eq_true rfl)⟩ (mJx4a65c_add_9ea2d hfl h) rfl dX1_tryFrame_123 (kI (fun r98 G99 h => ?_)) kN
      refine r_pop C dX1_tryFrame_126 rfl ?_
      refine r_goto C 138 dX1_tryFrame_127 (by decide) ?_
      refine r_fg (lv' := [some (.ref a0), some (.ref a1), some (.int x2), none, none]) (show fgt _ _ from ⟨rfl, ⟨rfl, ⟨rfl, trivial⟩⟩⟩) ?_
      exact bX1_tryFrame_138 B hk34 h
theorem lX1_tryFrame_34 {X : Xt} {K : Kt} {l : Launch} {G0 : Gt} {Pr : Option Nat → Gt → Prop} {Px : String → Gt → Prop} (B : BX X K l cX1_tryFrame 5 RX1 9 218 G0 (some (.object "RegisterGateway$Reply")) "tryFrame") (I : Gt → Nat → Nat → Int32 → Prop) (μ : Gt → Nat → Nat → Int32 → Nat) (hS : ∀ (G : Gt) (a0 : Nat) (a1 : Nat) (x2 : Int32), I G a0 a1 x2 → wX1_tryFrame_34 X Pr Px (fun G' a0' a1' x2' => I G' a0' a1' x2' ∧ μ G' a0' a1' x2' < μ G a0 a1 x2) G a0 a1 x2) : ∀ (n : Nat) (G : Gt) (a0 : Nat) (a1 : Nat) (x2 : Int32), μ G a0 a1 x2 < n → I G a0 a1 x2 → WM X K (QM X K G0 (rA Pr) Px) G 34 [some (.ref a0), some (.ref a1), some (.int x2), none, none] [] := by
  intro n
  induction n with
  | zero => intro G a0 a1 x2 hm; exact absurd hm (Nat.not_lt_zero _)
  | succ n ih =>
    intro G a0 a1 x2 hm hi
    exact bX1_tryFrame_34 B (fun G' a0' a1' x2' hk => ih G' a0' a1' x2' (Nat.lt_of_lt_of_le hk.2 (Nat.le_of_lt_succ hm)) hk.1) (hS G a0 a1 x2 hi)
def wX1_tryFrame (X : Xt) (G : Gt) (a0 : Nat) (a1 : Nat) (Pr : Option Nat → Gt → Prop) (Px : String → Gt → Prop) : Prop := gT G a0 = (1, 2) ∧ ((gI G 73 a0) = 0 → gT G a0 = (1, 2) ∧ gT G a0 = (1, 2) ∧ ∀ G21, G21 = sI G 72 a0 ((gI G 72 a0) + 1) → ∃ (I : Gt → Nat → Nat → Int32 → Prop) (μ : Gt → Nat → Nat → Int32 → Nat), I G21 a0 a1 (0 : Int32) ∧ ∀ (G : Gt) (a0 : Nat) (a1 : Nat) (x2 : Int32), I G a0 a1 x2 → wX1_tryFrame_34 X Pr Px (fun G' a0' a1' x2' => I G' a0' a1' x2' ∧ μ G' a0' a1' x2' < μ G a0 a1 x2) G a0 a1 x2) ∧ (¬ ((gI G 73 a0) = 0) → gT G a0 = (1, 2) ∧ gT G a0 = (1, 2) ∧ ∃ b41, gR G 64 a0 = some b41 ∧ (gT G b41).1 = 2 ∧ vp_in 3 (gT G b41).2 ∧ gT G a0 = (1, 2) ∧ ∀ G42, G42 = sI G 71 a0 ((gI G 71 a0) + (gA G b41 (3 : Int32).toNatClampNeg)) → gT G42 a0 = (1, 2) ∧ gT G42 a0 = (1, 2) ∧ ∀ G43, G43 = sI G42 72 a0 ((gI G42 72 a0) + 1) → ∃ (I : Gt → Nat → Nat → Int32 → Prop) (μ : Gt → Nat → Nat → Int32 → Nat), I G43 a0 a1 (0 : Int32) ∧ ∀ (G : Gt) (a0 : Nat) (a1 : Nat) (x2 : Int32), I G a0 a1 x2 → wX1_tryFrame_34 X Pr Px (fun G' a0' a1' x2' => I G' a0' a1' x2' ∧ μ G' a0' a1' x2' < μ G a0 a1 x2) G a0 a1 x2)
set_option maxRecDepth 20000 in
theorem mX1_tryFrame {X : Xt} {l : Launch} (hfl : l.stackTraces = false) {G : Gt} {a0 : Nat} {a1 : Nat} {Pr : Option Nat → Gt → Prop} {Px : String → Gt → Prop} (h : wX1_tryFrame X G a0 a1 Pr Px) : Mc X l yX1_tryFrame (.code yX1_tryFrame cX1_tryFrame 5 (some (.object "RegisterGateway$Reply"))) 9 218 [.ref a0, .ref a1] G (rA Pr) Px := by
  refine Mc.of (by decide +kernel) hfl [some (.ref a0), some (.ref a1), none, none, none] rfl (Nat.le_of_ble_eq_true rfl) rfl ?_
  intro K hL C E0 hr hnm hex
  have B : BX X K l cX1_tryFrame 5 RX1 9 218 G (some (.object "RegisterGateway$Reply")) "tryFrame" := ⟨hL, C, E0, hr, hnm, hex, hfl⟩
  have C : Cx X K cX1_tryFrame 5 RX1 9 218 := C
  unfold wX1_tryFrame at h
  refine r_aloadR_n C 0 dX1_tryFrame_0 rfl rfl ?_
  obtain ⟨ht, h⟩ := h
  refine r_getI C fw_RX1_60 rfl ht dX1_tryFrame_1 ?_
  refine r_if_eq C 22 dX1_tryFrame_4 (by decide) (fun c => ?_) (fun c => ?_)
  · replace h := h.1 c
    refine r_aloadR_n C 0 dX1_tryFrame_22 rfl rfl ?_
    refine r_dup C dX1_tryFrame_23 rfl ?_
    obtain ⟨ht, h⟩ := h
    refine r_getI C fw_RX1_57 rfl ht dX1_tryFrame_24 ?_
    refine r_iconst C 1 dX1_tryFrame_27 (by decide) ?_
    refine r_iadd C dX1_tryFrame_28 ?_
    obtain ⟨ht, h⟩ := h
    refine r_putI C cw_2 fp_RX1_57 rfl ht dX1_tryFrame_29 ?_
    refine r_nm (fun G21 hG21 => ?_)
    replace h := h G21 hG21
    refine r_iconst C 0 dX1_tryFrame_32 (by decide) ?_
    refine r_istore_n C 2 (lv' := [some (.ref a0), some (.ref a1), some (.int 0), none, none]) dX1_tryFrame_33 rfl (Nat.le_of_ble_eq_true rfl) rfl rfl ?_
    obtain ⟨I, μ, hI, hS⟩ := h
    exact lX1_tryFrame_34 B I μ hS _ _ _ _ _ (Nat.lt_succ_self _) hI
  · replace h := h.2 c
    refine r_aloadR_n C 0 dX1_tryFrame_7 rfl rfl ?_
    refine r_dup C dX1_tryFrame_8 rfl ?_
    obtain ⟨ht, h⟩ := h
    refine r_getI C fw_RX1_53 rfl ht dX1_tryFrame_9 ?_
    refine r_aloadR_n C 0 dX1_tryFrame_12 rfl rfl ?_
    obtain ⟨ht, h⟩ := h
    obtain ⟨b41, hb, h⟩ := h
    refine r_getR C fw_RX1_9 rfl ht hb dX1_tryFrame_13 ?_
    refine r_iconst C 3 dX1_tryFrame_16 (by decide) ?_
    obtain ⟨ht, hi, h⟩ := h
    refine r_ialdP C ht hi dX1_tryFrame_17 ?_
    refine r_iadd C dX1_tryFrame_18 ?_
    obtain ⟨ht, h⟩ := h
    refine r_putI C cw_2 fp_RX1_53 rfl ht dX1_tryFrame_19 ?_
    refine r_nm (fun G42 hG42 => ?_)
    replace h := h G42 hG42
    refine r_aloadR_n C 0 dX1_tryFrame_22 rfl rfl ?_
    refine r_dup C dX1_tryFrame_23 rfl ?_
    obtain ⟨ht, h⟩ := h
    refine r_getI C fw_RX1_57 rfl ht dX1_tryFrame_24 ?_
    refine r_iconst C 1 dX1_tryFrame_27 (by decide) ?_
    refine r_iadd C dX1_tryFrame_28 ?_
    obtain ⟨ht, h⟩ := h
    refine r_putI C cw_2 fp_RX1_57 rfl ht dX1_tryFrame_29 ?_
    refine r_nm (fun G43 hG43 => ?_)
    replace h := h G43 hG43
    refine r_iconst C 0 dX1_tryFrame_32 (by decide) ?_
    refine r_istore_n C 2 (lv' := [some (.ref a0), some (.ref a1), some (.int 0), none, none]) dX1_tryFrame_33 rfl (Nat.le_of_ble_eq_true rfl) rfl rfl ?_
    obtain ⟨I, μ, hI, hS⟩ := h
    exact lX1_tryFrame_34 B I μ hS _ _ _ _ _ (Nat.lt_succ_self _) hI
def wX1_failGroup_80 (X : Xt) (Pr : Gt → Prop) (Px : String → Gt → Prop) (k80 : Gt → Nat → Int32 → Prop) (G : Gt) (a0 : Nat) (x2 : Int32) : Prop := gT G a0 = (1, 2) ∧ ∃ b1, gR G 68 a0 = some b1 ∧ gT G b1 = (1, 7) ∧ ((gI G 230 b1) ≤ x2 → Pr G) ∧ (¬ ((gI G 230 b1) ≤ x2) → gT G a0 = (1, 2) ∧ ∃ b42, gR G 67 a0 = some b42 ∧ gT G a0 = (1, 2) ∧ ∃ b43, gR G 68 a0 = some b43 ∧ gT G b43 = (1, 7) ∧ gT G b42 = (1, 1) ∧ wX0_forget X G b42 (gI G 227 b43) x2 (fun G44 => k80 G44 a0 (x2 + 1)))
set_option maxRecDepth 20000 in
theorem bX1_failGroup_80 {X : Xt} {K : Kt} {l : Launch} {G0 : Gt} {Pr : Gt → Prop} {Px : String → Gt → Prop} (B : BX X K l cX1_failGroup 3 RX1 3 68 G0 none "failGroup") {k80 : Gt → Nat → Int32 → Prop} (hk80 : ∀ (G : Gt) (a0 : Nat) (x2 : Int32), k80 G a0 x2 → WM X K (QM X K G0 (rV Pr) Px) G 80 [some (.ref a0), none, some (.int x2)] []) {G : Gt} {a0 : Nat} {x2 : Int32} (h : wX1_failGroup_80 X Pr Px k80 G a0 x2) : WM X K (QM X K G0 (rV Pr) Px) G 80 [some (.ref a0), none, some (.int x2)] [] := by
  obtain ⟨hL, C, E0, hr, hnm, hex, hfl⟩ := id B
  unfold wX1_failGroup_80 at h
  refine r_iload_n C 2 dX1_failGroup_80 rfl rfl ?_
  refine r_aloadR_n C 0 dX1_failGroup_81 rfl rfl ?_
  obtain ⟨ht, h⟩ := h
  obtain ⟨b1, hb, h⟩ := h
  refine r_getR C fw_RX1_35 rfl ht hb dX1_failGroup_82 ?_
  obtain ⟨ht, h⟩ := h
  refine r_getI C fw_RX1_142 rfl ht dX1_failGroup_85 ?_
  refine r_icmp_ge C 112 dX1_failGroup_88 (by decide) (fun c => ?_) (fun c => ?_)
  · replace h := h.1 c
    exact r_vret C E0 hr ⟨rfl, h⟩ dX1_failGroup_112
  · replace h := h.2 c
    refine r_aloadR_n C 0 dX1_failGroup_91 rfl rfl ?_
    obtain ⟨ht, h⟩ := h
    obtain ⟨b42, hb, h⟩ := h
    refine r_getR C fw_RX1_28 rfl ht hb dX1_failGroup_92 ?_
    refine r_aloadR_n C 0 dX1_failGroup_95 rfl rfl ?_
    obtain ⟨ht, h⟩ := h
    obtain ⟨b43, hb, h⟩ := h
    refine r_getR C fw_RX1_35 rfl ht hb dX1_failGroup_96 ?_
    obtain ⟨ht, h⟩ := h
    refine r_getI C fw_RX1_106 rfl ht dX1_failGroup_99 ?_
    refine r_iload_n C 2 dX1_failGroup_102 rfl rfl ?_
    obtain ⟨ht, h⟩ := h
    refine r_callV C (r := (RX0, TX0, 2)) hL yw_X0_forget vw_RX1_256 rfl rfl ht rfl rfl (Nat.le_of_ble_eq_true rfl) ⟨(Nat.le_of_ble_eq_true rfl), (Nat.le_of_ble_eq_true rfl)⟩ (mX0_forget hfl h) rfl dX1_failGroup_103 (kV' (fun G44 h => ?_)) kN
    refine r_iinc C 1 (lv' := [some (.ref a0), none, some (.int (x2 + 1))]) dX1_failGroup_106 rfl (by decide) rfl rfl ?_
    refine r_goto C 80 dX1_failGroup_109 (by decide) ?_
    exact hk80 _ _ _ h
theorem lX1_failGroup_80 {X : Xt} {K : Kt} {l : Launch} {G0 : Gt} {Pr : Gt → Prop} {Px : String → Gt → Prop} (B : BX X K l cX1_failGroup 3 RX1 3 68 G0 none "failGroup") (I : Gt → Nat → Int32 → Prop) (μ : Gt → Nat → Int32 → Nat) (hS : ∀ (G : Gt) (a0 : Nat) (x2 : Int32), I G a0 x2 → wX1_failGroup_80 X Pr Px (fun G' a0' x2' => I G' a0' x2' ∧ μ G' a0' x2' < μ G a0 x2) G a0 x2) : ∀ (n : Nat) (G : Gt) (a0 : Nat) (x2 : Int32), μ G a0 x2 < n → I G a0 x2 → WM X K (QM X K G0 (rV Pr) Px) G 80 [some (.ref a0), none, some (.int x2)] [] := by
  intro n
  induction n with
  | zero => intro G a0 x2 hm; exact absurd hm (Nat.not_lt_zero _)
  | succ n ih =>
    intro G a0 x2 hm hi
    exact bX1_failGroup_80 B (fun G' a0' x2' hk => ih G' a0' x2' (Nat.lt_of_lt_of_le hk.2 (Nat.le_of_lt_succ hm)) hk.1) (hS G a0 x2 hi)
def wX1_failGroup_8 (X : Xt) (Pr : Gt → Prop) (Px : String → Gt → Prop) (k8 : Gt → Nat → Int32 → Int32 → Prop) (G : Gt) (a0 : Nat) (x1 : Int32) (x2 : Int32) : Prop := gT G a0 = (1, 2) ∧ ∃ b1, gR G 68 a0 = some b1 ∧ gT G b1 = (1, 7) ∧ ∃ b2, gR G 224 b1 = some b2 ∧ gT G b2 = (1, 0) ∧ wJx4a65c_size_8abf5 X G b2 (fun r3 G4 => (r3 ≤ x2 → gT G4 a0 = (1, 2) ∧ ∃ b25, gR G4 68 a0 = some b25 ∧ gT G4 b25 = (1, 7) ∧ ((gI G4 228 b25) = 0 → Pr G4) ∧ (¬ ((gI G4 228 b25) = 0) → gT G4 a0 = (1, 2) ∧ ∃ b66, gR G4 68 a0 = some b66 ∧ gT G4 b66 = (1, 7) ∧ ∃ (I : Gt → Nat → Int32 → Prop) (μ : Gt → Nat → Int32 → Nat), I G4 a0 (gI G4 229 b66) ∧ ∀ (G : Gt) (a0 : Nat) (x2 : Int32), I G a0 x2 → wX1_failGroup_80 X Pr Px (fun G' a0' x2' => I G' a0' x2' ∧ μ G' a0' x2' < μ G a0 x2) G a0 x2)) ∧ (¬ (r3 ≤ x2) → gT G4 a0 = (1, 2) ∧ ∃ b45, gR G4 68 a0 = some b45 ∧ gT G4 b45 = (1, 7) ∧ wX6_isMember X G4 b45 x2 (fun r46 G47 => (r46 = 0 → k8 G47 a0 x1 (x2 + 1)) ∧ (¬ (r46 = 0) → gT G47 a0 = (1, 2) ∧ ∃ b88, gR G47 68 a0 = some b88 ∧ gT G47 b88 = (1, 7) ∧ ∃ b89, gR G47 224 b88 = some b89 ∧ gT G47 b89 = (1, 0) ∧ wJx4a65c_get_915e3 X G47 b89 x2 (fun r90 G91 => ∃ b92, r90 = some b92 ∧ gT G91 b92 = (1, 9) ∧ gT G91 a0 = (1, 2) ∧ gT G91 b92 = (1, 9) ∧ wX8_settle X G91 b92 2 x1 (gI G91 71 a0) (fun G93 => k8 G93 a0 x1 (x2 + 1))) Px))))
set_option maxRecDepth 20000 in
theorem bX1_failGroup_8 {X : Xt} {K : Kt} {l : Launch} {G0 : Gt} {Pr : Gt → Prop} {Px : String → Gt → Prop} (B : BX X K l cX1_failGroup 3 RX1 3 68 G0 none "failGroup") {k8 : Gt → Nat → Int32 → Int32 → Prop} (hk8 : ∀ (G : Gt) (a0 : Nat) (x1 : Int32) (x2 : Int32), k8 G a0 x1 x2 → WM X K (QM X K G0 (rV Pr) Px) G 8 [some (.ref a0), some (.int x1), some (.int x2)] []) {G : Gt} {a0 : Nat} {x1 : Int32} {x2 : Int32} (h : wX1_failGroup_8 X Pr Px k8 G a0 x1 x2) : WM X K (QM X K G0 (rV Pr) Px) G 8 [some (.ref a0), some (.int x1), some (.int x2)] [] := by
  obtain ⟨hL, C, E0, hr, hnm, hex, hfl⟩ := id B
  unfold wX1_failGroup_8 at h
  refine r_iload_n C 2 dX1_failGroup_8 rfl rfl ?_
  refine r_aloadR_n C 0 dX1_failGroup_9 rfl rfl ?_
  obtain ⟨ht, h⟩ := h
  obtain ⟨b1, hb, h⟩ := h
  refine r_getR C fw_RX1_35 rfl ht hb dX1_failGroup_10 ?_
  obtain ⟨ht, h⟩ := h
  obtain ⟨b2, hb, h⟩ := h
  refine r_getR C fw_RX1_160 rfl ht hb dX1_failGroup_13 ?_
  obtain ⟨ht, h⟩ := h
  refine r_callV C (r := (RJx4a65c, TJx4a65c, 3)) hL yw_Jx4a65c_size_8abf5 vw_RX1_250 rfl rfl ht rfl rfl (Nat.le_of_ble_eq_true rfl) ⟨(Nat.le_of_ble_eq_true rfl), (Nat.le_of_ble_eq_true rfl)⟩ (mJx4a65c_size_8abf5 hfl h) rfl dX1_failGroup_16 (kI (fun r3 G4 h => ?_)) kN
  refine r_icmp_ge C 62 dX1_failGroup_19 (by decide) (fun c => ?_) (fun c => ?_)
  · replace h := h.1 c
    refine r_aloadR_n C 0 dX1_failGroup_62 rfl rfl ?_
    obtain ⟨ht, h⟩ := h
    obtain ⟨b25, hb, h⟩ := h
    refine r_getR C fw_RX1_35 rfl ht hb dX1_failGroup_63 ?_
    obtain ⟨ht, h⟩ := h
    refine r_getI C fw_RX1_100 rfl ht dX1_failGroup_66 ?_
    refine r_if_eq C 112 dX1_failGroup_69 (by decide) (fun c => ?_) (fun c => ?_)
    · replace h := h.1 c
      exact r_vret C E0 hr ⟨rfl, h⟩ dX1_failGroup_112
    · replace h := h.2 c
      refine r_aloadR_n C 0 dX1_failGroup_72 rfl rfl ?_
      obtain ⟨ht, h⟩ := h
      obtain ⟨b66, hb, h⟩ := h
      refine r_getR C fw_RX1_35 rfl ht hb dX1_failGroup_73 ?_
      obtain ⟨ht, h⟩ := h
      refine r_getI C fw_RX1_113 rfl ht dX1_failGroup_76 ?_
      refine r_istore_n C 2 (lv' := [some (.ref a0), some (.int x1), some (.int (gI G4 229 b66))]) dX1_failGroup_79 rfl (Nat.le_of_ble_eq_true rfl) rfl rfl ?_
      refine r_fg (lv' := [some (.ref a0), none, some (.int (gI G4 229 b66))]) (show fgt _ _ from ⟨rfl, ⟨rfl, trivial⟩⟩) ?_
      obtain ⟨I, μ, hI, hS⟩ := h
      exact lX1_failGroup_80 B I μ hS _ _ _ _ (Nat.lt_succ_self _) hI
  · replace h := h.2 c
    refine r_aloadR_n C 0 dX1_failGroup_22 rfl rfl ?_
    obtain ⟨ht, h⟩ := h
    obtain ⟨b45, hb, h⟩ := h
    refine r_getR C fw_RX1_35 rfl ht hb dX1_failGroup_23 ?_
    refine r_iload_n C 2 dX1_failGroup_26 rfl rfl ?_
    obtain ⟨ht, h⟩ := h
    refine r_callV C (r := (RX6, TX6, 7)) hL yw_X6_isMember vw_RX1_252 rfl rfl ht rfl rfl (Nat.le_of_ble_eq_true rfl) ⟨(Nat.le_of_ble_eq_true rfl), (Nat.le_of_ble_eq_true rfl)⟩ (mX6_isMember hfl h) rfl dX1_failGroup_27 (kI (fun r46 G47 h => ?_)) kN
    refine r_if_eq C 56 dX1_failGroup_30 (by decide) (fun c => ?_) (fun c => ?_)
    · replace h := h.1 c
      refine r_iinc C 1 (lv' := [some (.ref a0), some (.int x1), some (.int (x2 + 1))]) dX1_failGroup_56 rfl (by decide) rfl rfl ?_
      refine r_goto C 8 dX1_failGroup_59 (by decide) ?_
      exact hk8 _ _ _ _ h
    · replace h := h.2 c
      refine r_aloadR_n C 0 dX1_failGroup_33 rfl rfl ?_
      obtain ⟨ht, h⟩ := h
      obtain ⟨b88, hb, h⟩ := h
      refine r_getR C fw_RX1_35 rfl ht hb dX1_failGroup_34 ?_
      obtain ⟨ht, h⟩ := h
      obtain ⟨b89, hb, h⟩ := h
      refine r_getR C fw_RX1_160 rfl ht hb dX1_failGroup_37 ?_
      refine r_iload_n C 2 dX1_failGroup_40 rfl rfl ?_
      obtain ⟨ht, h⟩ := h
      refine r_callV C (r := (RJx4a65c, TJx4a65c, 3)) hL yw_Jx4a65c_get_915e3 vw_RX1_167 rfl rfl ht rfl rfl (Nat.le_of_ble_eq_true rfl) ⟨(Nat.le_of_ble_eq_true rfl), (Nat.le_of_ble_eq_true rfl)⟩ (mJx4a65c_get_915e3 hfl h) rfl dX1_failGroup_41 (kA' (fun r90 G91 h => ?_)) (kO C E0 hex)
      obtain ⟨b92, hb, ht, h⟩ := h
      subst hb
      refine r_cast C (r := (RX8, TX8, 11)) rfl cl_RX1_128 ht dX1_failGroup_44 ?_
      refine r_iconst C 2 dX1_failGroup_47 (by decide) ?_
      refine r_iload_n C 1 dX1_failGroup_48 rfl rfl ?_
      refine r_aloadR_n C 0 dX1_failGroup_49 rfl rfl ?_
      obtain ⟨ht, h⟩ := h
      refine r_getI C fw_RX1_53 rfl ht dX1_failGroup_50 ?_
      obtain ⟨ht, h⟩ := h
      refine r_callV C (r := (RX8, TX8, 11)) hL yw_X8_settle vw_RX1_215 rfl rfl ht rfl rfl (Nat.le_of_ble_eq_true rfl) ⟨(Nat.le_of_ble_eq_true rfl), (Nat.le_of_ble_eq_true rfl)⟩ (mX8_settle hfl h) rfl dX1_failGroup_53 (kV' (fun G93 h => ?_)) kN
      refine r_iinc C 1 (lv' := [some (.ref a0), some (.int x1), some (.int (x2 + 1))]) dX1_failGroup_56 rfl (by decide) rfl rfl ?_
      refine r_goto C 8 dX1_failGroup_59 (by decide) ?_
      exact hk8 _ _ _ _ h
theorem lX1_failGroup_8 {X : Xt} {K : Kt} {l : Launch} {G0 : Gt} {Pr : Gt → Prop} {Px : String → Gt → Prop} (B : BX X K l cX1_failGroup 3 RX1 3 68 G0 none "failGroup") (I : Gt → Nat → Int32 → Int32 → Prop) (μ : Gt → Nat → Int32 → Int32 → Nat) (hS : ∀ (G : Gt) (a0 : Nat) (x1 : Int32) (x2 : Int32), I G a0 x1 x2 → wX1_failGroup_8 X Pr Px (fun G' a0' x1' x2' => I G' a0' x1' x2' ∧ μ G' a0' x1' x2' < μ G a0 x1 x2) G a0 x1 x2) : ∀ (n : Nat) (G : Gt) (a0 : Nat) (x1 : Int32) (x2 : Int32), μ G a0 x1 x2 < n → I G a0 x1 x2 → WM X K (QM X K G0 (rV Pr) Px) G 8 [some (.ref a0), some (.int x1), some (.int x2)] [] := by
  intro n
  induction n with
  | zero => intro G a0 x1 x2 hm; exact absurd hm (Nat.not_lt_zero _)
  | succ n ih =>
    intro G a0 x1 x2 hm hi
    exact bX1_failGroup_8 B (fun G' a0' x1' x2' hk => ih G' a0' x1' x2' (Nat.lt_of_lt_of_le hk.2 (Nat.le_of_lt_succ hm)) hk.1) (hS G a0 x1 x2 hi)
def wX1_failGroup (X : Xt) (G : Gt) (a0 : Nat) (x1 : Int32) (Pr : Gt → Prop) (Px : String → Gt → Prop) : Prop := gT G a0 = (1, 2) ∧ ∃ b1, gR G 68 a0 = some b1 ∧ gT G b1 = (1, 7) ∧ ∃ (I : Gt → Nat → Int32 → Int32 → Prop) (μ : Gt → Nat → Int32 → Int32 → Nat), I G a0 x1 (gI G 226 b1) ∧ ∀ (G : Gt) (a0 : Nat) (x1 : Int32) (x2 : Int32), I G a0 x1 x2 → wX1_failGroup_8 X Pr Px (fun G' a0' x1' x2' => I G' a0' x1' x2' ∧ μ G' a0' x1' x2' < μ G a0 x1 x2) G a0 x1 x2
set_option maxRecDepth 20000 in
theorem mX1_failGroup {X : Xt} {l : Launch} (hfl : l.stackTraces = false) {G : Gt} {a0 : Nat} {x1 : Int32} {Pr : Gt → Prop} {Px : String → Gt → Prop} (h : wX1_failGroup X G a0 x1 Pr Px) : Mc X l yX1_failGroup (.code yX1_failGroup cX1_failGroup 3 none) 3 68 [.ref a0, .int x1] G (rV Pr) Px := by
  refine Mc.of (by decide +kernel) hfl [some (.ref a0), some (.int x1), none] rfl (Nat.le_of_ble_eq_true rfl) rfl ?_
  intro K hL C E0 hr hnm hex
  have B : BX X K l cX1_failGroup 3 RX1 3 68 G none "failGroup" := ⟨hL, C, E0, hr, hnm, hex, hfl⟩
  have C : Cx X K cX1_failGroup 3 RX1 3 68 := C
  unfold wX1_failGroup at h
  refine r_aloadR_n C 0 dX1_failGroup_0 rfl rfl ?_
  obtain ⟨ht, h⟩ := h
  obtain ⟨b1, hb, h⟩ := h
  refine r_getR C fw_RX1_35 rfl ht hb dX1_failGroup_1 ?_
  obtain ⟨ht, h⟩ := h
  refine r_getI C fw_RX1_164 rfl ht dX1_failGroup_4 ?_
  refine r_istore_n C 2 (lv' := [some (.ref a0), some (.int x1), some (.int (gI G 226 b1))]) dX1_failGroup_7 rfl (Nat.le_of_ble_eq_true rfl) rfl rfl ?_
  obtain ⟨I, μ, hI, hS⟩ := h
  exact lX1_failGroup_8 B I μ hS _ _ _ _ _ (Nat.lt_succ_self _) hI
def wX3_isException (X : Xt) (G : Gt) (a0 : Nat) (Pr : Int32 → Gt → Prop) : Prop := gT G a0 = (1, 4) ∧ wX3_byteAt X G a0 1 (fun r1 G2 => (r1 < 128 → Pr 0 G2) ∧ (¬ (r1 < 128) → Pr 1 G2))
set_option maxRecDepth 20000 in
theorem mX3_isException {X : Xt} {l : Launch} (hfl : l.stackTraces = false) {G : Gt} {a0 : Nat} {Pr : Int32 → Gt → Prop} (h : wX3_isException X G a0 Pr) : Mc X l yX3_isException (.code yX3_isException cX3_isException 1 (some (.boolean))) 1 21 [.ref a0] G (rI Pr) noX := by
  refine Mc.of (by decide +kernel) hfl [some (.ref a0)] rfl (Nat.le_of_ble_eq_true rfl) rfl ?_
  intro K hL C E0 hr hnm hex
  have B : BX X K l cX3_isException 1 RX3 1 21 G (some (.boolean)) "isException" := ⟨hL, C, E0, hr, hnm, hex, hfl⟩
  have C : Cx X K cX3_isException 1 RX3 1 21 := C
  unfold wX3_isException at h
  refine r_aloadR_n C 0 dX3_isException_0 rfl rfl ?_
  refine r_iconst C 1 dX3_isException_1 (by decide) ?_
  obtain ⟨ht, h⟩ := h
  refine r_callV C (r := (RX3, TX3, 2)) hL yw_X3_byteAt vw_RX3_46 rfl rfl ht rfl rfl (Nat.le_of_ble_eq_true rfl) ⟨(Nat.le_of_ble_eq_true rfl), (Nat.le_of_ble_eq_true rfl)⟩ (mX3_byteAt hfl h) rfl dX3_isException_2 (kI (fun r1 G2 h => ?_)) kN
  refine r_sipush C 128 dX3_isException_5 (by decide) ?_
  refine r_icmp_lt C 15 dX3_isException_8 (by decide) (fun c => ?_) (fun c => ?_)
  · replace h := h.1 c
    refine r_iconst C 0 dX3_isException_15 (by decide) ?_
    exact r_zret C E0 hr (Or.inl rfl) ⟨_, rfl, h⟩ dX3_isException_16
  · replace h := h.2 c
    refine r_iconst C 1 dX3_isException_11 (by decide) ?_
    refine r_goto C 16 dX3_isException_12 (by decide) ?_
    exact r_zret C E0 hr (Or.inr rfl) ⟨_, rfl, h⟩ dX3_isException_16
def wX3_readValue (X : Xt) (G : Gt) (a0 : Nat) (x1 : Int32) (Pr : Int32 → Gt → Prop) : Prop := gT G a0 = (1, 4) ∧ wX3_wordAt X G a0 (3 + (2 * x1)) (fun r1 G2 => Pr r1 G2)
set_option maxRecDepth 20000 in
theorem mX3_readValue {X : Xt} {l : Launch} (hfl : l.stackTraces = false) {G : Gt} {a0 : Nat} {x1 : Int32} {Pr : Int32 → Gt → Prop} (h : wX3_readValue X G a0 x1 Pr) : Mc X l yX3_readValue (.code yX3_readValue cX3_readValue 2 (some (.int))) 1 21 [.ref a0, .int x1] G (rI Pr) noX := by
  refine Mc.of (by decide +kernel) hfl [some (.ref a0), some (.int x1)] rfl (Nat.le_of_ble_eq_true rfl) rfl ?_
  intro K hL C E0 hr hnm hex
  have B : BX X K l cX3_readValue 2 RX3 1 21 G (some (.int)) "readValue" := ⟨hL, C, E0, hr, hnm, hex, hfl⟩
  have C : Cx X K cX3_readValue 2 RX3 1 21 := C
  unfold wX3_readValue at h
  refine r_aloadR_n C 0 dX3_readValue_0 rfl rfl ?_
  refine r_iconst C 3 dX3_readValue_1 (by decide) ?_
  refine r_iconst C 2 dX3_readValue_2 (by decide) ?_
  refine r_iload_n C 1 dX3_readValue_3 rfl rfl ?_
  refine r_imul C dX3_readValue_4 ?_
  refine r_iadd C dX3_readValue_5 ?_
  obtain ⟨ht, h⟩ := h
  refine r_callV C (r := (RX3, TX3, 2)) hL yw_X3_wordAt vw_RX3_43 rfl rfl ht rfl rfl (Nat.le_of_ble_eq_true rfl) ⟨(Nat.le_of_ble_eq_true rfl), (Nat.le_of_ble_eq_true rfl)⟩ (mX3_wordAt hfl h) rfl dX3_readValue_6 (kI (fun r1 G2 h => ?_)) kN
  exact r_iret C E0 hr ⟨_, rfl, h⟩ dX3_readValue_9
def wX8_takeValues_2 (X : Xt) (Pr : Gt → Prop) (k2 : Gt → Nat → Nat → Int32 → Int32 → Prop) (G : Gt) (a0 : Nat) (a1 : Nat) (x2 : Int32) (x3 : Int32) : Prop := gT G a0 = (1, 9) ∧ ((gI G 291 a0) ≤ x3 → Pr G) ∧ (¬ ((gI G 291 a0) ≤ x3) → gT G a0 = (1, 9) ∧ ∃ b41, gR G 294 a0 = some b41 ∧ gT G a1 = (1, 4) ∧ wX3_readValue X G a1 (x2 + x3) (fun r42 G43 => (gT G43 b41).1 = 2 ∧ vp_in x3 (gT G43 b41).2 ∧ ∀ G44, G44 = sA G43 b41 (upd (gA G43 b41) x3.toNatClampNeg r42) → k2 G44 a0 a1 x2 (x3 + 1)))
set_option maxRecDepth 20000 in
theorem bX8_takeValues_2 {X : Xt} {K : Kt} {l : Launch} {G0 : Gt} {Pr : Gt → Prop} (B : BX X K l cX8_takeValues 4 RX8 2 42 G0 none "takeValues") {k2 : Gt → Nat → Nat → Int32 → Int32 → Prop} (hk2 : ∀ (G : Gt) (a0 : Nat) (a1 : Nat) (x2 : Int32) (x3 : Int32), k2 G a0 a1 x2 x3 → WM X K (QM X K G0 (rV Pr) noX) G 2 [some (.ref a0), some (.ref a1), some (.int x2), some (.int x3)] []) {G : Gt} {a0 : Nat} {a1 : Nat} {x2 : Int32} {x3 : Int32} (h : wX8_takeValues_2 X Pr k2 G a0 a1 x2 x3) : WM X K (QM X K G0 (rV Pr) noX) G 2 [some (.ref a0), some (.ref a1), some (.int x2), some (.int x3)] [] := by
  obtain ⟨hL, C, E0, hr, hnm, hex, hfl⟩ := id B
  unfold wX8_takeValues_2 at h
  refine r_iload_n C 3 dX8_takeValues_2 rfl rfl ?_
  refine r_aloadR_n C 0 dX8_takeValues_3 rfl rfl ?_
  obtain ⟨ht, h⟩ := h
  refine r_getI C fw_RX8_34 rfl ht dX8_takeValues_4 ?_
  refine r_icmp_ge C 29 dX8_takeValues_7 (by decide) (fun c => ?_) (fun c => ?_)
  · replace h := h.1 c
    exact r_vret C E0 hr ⟨rfl, h⟩ dX8_takeValues_29
  · replace h := h.2 c
    refine r_aloadR_n C 0 dX8_takeValues_10 rfl rfl ?_
    obtain ⟨ht, h⟩ := h
    obtain ⟨b41, hb, h⟩ := h
    refine r_getR C fw_RX8_52 rfl ht hb dX8_takeValues_11 ?_
    refine r_iload_n C 3 dX8_takeValues_14 rfl rfl ?_
    refine r_aloadR_n C 1 dX8_takeValues_15 rfl rfl ?_
    refine r_iload_n C 2 dX8_takeValues_16 rfl rfl ?_
    refine r_iload_n C 3 dX8_takeValues_17 rfl rfl ?_
    refine r_iadd C dX8_takeValues_18 ?_
    obtain ⟨ht, h⟩ := h
    refine r_callV C (r := (RX3, TX3, 2)) hL yw_X3_readValue vw_RX8_56 rfl rfl ht rfl rfl (Nat.le_of_ble_eq_true rfl) ⟨(Nat.le_of_ble_eq_true rfl), (Nat.le_of_ble_eq_true rfl)⟩ (mX3_readValue hfl h) rfl dX8_takeValues_19 (kI (fun r42 G43 h => ?_)) kN
    obtain ⟨ht, hi, h⟩ := h
    refine r_iastP C ht hi dX8_takeValues_22 ?_
    refine r_nm (fun G44 hG44 => ?_)
    replace h := h G44 hG44
    refine r_iinc C 1 (lv' := [some (.ref a0), some (.ref a1), some (.int x2), some (.int (x3 + 1))]) dX8_takeValues_23 rfl (by decide) rfl rfl ?_
    refine r_goto C 2 dX8_takeValues_26 (by decide) ?_
    exact hk2 _ _ _ _ _ h
theorem lX8_takeValues_2 {X : Xt} {K : Kt} {l : Launch} {G0 : Gt} {Pr : Gt → Prop} (B : BX X K l cX8_takeValues 4 RX8 2 42 G0 none "takeValues") (I : Gt → Nat → Nat → Int32 → Int32 → Prop) (μ : Gt → Nat → Nat → Int32 → Int32 → Nat) (hS : ∀ (G : Gt) (a0 : Nat) (a1 : Nat) (x2 : Int32) (x3 : Int32), I G a0 a1 x2 x3 → wX8_takeValues_2 X Pr (fun G' a0' a1' x2' x3' => I G' a0' a1' x2' x3' ∧ μ G' a0' a1' x2' x3' < μ G a0 a1 x2 x3) G a0 a1 x2 x3) : ∀ (n : Nat) (G : Gt) (a0 : Nat) (a1 : Nat) (x2 : Int32) (x3 : Int32), μ G a0 a1 x2 x3 < n → I G a0 a1 x2 x3 → WM X K (QM X K G0 (rV Pr) noX) G 2 [some (.ref a0), some (.ref a1), some (.int x2), some (.int x3)] [] := by
  intro n
  induction n with
  | zero => intro G a0 a1 x2 x3 hm; exact absurd hm (Nat.not_lt_zero _)
  | succ n ih =>
    intro G a0 a1 x2 x3 hm hi
    exact bX8_takeValues_2 B (fun G' a0' a1' x2' x3' hk => ih G' a0' a1' x2' x3' (Nat.lt_of_lt_of_le hk.2 (Nat.le_of_lt_succ hm)) hk.1) (hS G a0 a1 x2 x3 hi)
def wX8_takeValues (X : Xt) (G : Gt) (a0 : Nat) (a1 : Nat) (x2 : Int32) (Pr : Gt → Prop) : Prop := ∃ (I : Gt → Nat → Nat → Int32 → Int32 → Prop) (μ : Gt → Nat → Nat → Int32 → Int32 → Nat), I G a0 a1 x2 (0 : Int32) ∧ ∀ (G : Gt) (a0 : Nat) (a1 : Nat) (x2 : Int32) (x3 : Int32), I G a0 a1 x2 x3 → wX8_takeValues_2 X Pr (fun G' a0' a1' x2' x3' => I G' a0' a1' x2' x3' ∧ μ G' a0' a1' x2' x3' < μ G a0 a1 x2 x3) G a0 a1 x2 x3
set_option maxRecDepth 20000 in
theorem mX8_takeValues {X : Xt} {l : Launch} (hfl : l.stackTraces = false) {G : Gt} {a0 : Nat} {a1 : Nat} {x2 : Int32} {Pr : Gt → Prop} (h : wX8_takeValues X G a0 a1 x2 Pr) : Mc X l yX8_takeValues (.code yX8_takeValues cX8_takeValues 4 none) 2 42 [.ref a0, .ref a1, .int x2] G (rV Pr) noX := by
  refine Mc.of (by decide +kernel) hfl [some (.ref a0), some (.ref a1), some (.int x2), none] rfl (Nat.le_of_ble_eq_true rfl) rfl ?_
  intro K hL C E0 hr hnm hex
  have B : BX X K l cX8_takeValues 4 RX8 2 42 G none "takeValues" := ⟨hL, C, E0, hr, hnm, hex, hfl⟩
  have C : Cx X K cX8_takeValues 4 RX8 2 42 := C
  unfold wX8_takeValues at h
  refine r_iconst C 0 dX8_takeValues_0 (by decide) ?_
  refine r_istore_n C 3 (lv' := [some (.ref a0), some (.ref a1), some (.int x2), some (.int 0)]) dX8_takeValues_1 rfl (Nat.le_of_ble_eq_true rfl) rfl rfl ?_
  obtain ⟨I, μ, hI, hS⟩ := h
  exact lX8_takeValues_2 B I μ hS _ _ _ _ _ _ (Nat.lt_succ_self _) hI
def wX1_finishGroup_88 (X : Xt) (Pr : Gt → Prop) (Px : String → Gt → Prop) (k88 : Gt → Nat → Nat → Int32 → Prop) (G : Gt) (a0 : Nat) (a1 : Nat) (x2 : Int32) : Prop := gT G a0 = (1, 2) ∧ ∃ b1, gR G 68 a0 = some b1 ∧ gT G b1 = (1, 7) ∧ ∃ b2, gR G 224 b1 = some b2 ∧ gT G b2 = (1, 0) ∧ wJx4a65c_size_8abf5 X G b2 (fun r3 G4 => (r3 ≤ x2 → Pr G4) ∧ (¬ (r3 ≤ x2) → gT G4 a0 = (1, 2) ∧ ∃ b45, gR G4 68 a0 = some b45 ∧ gT G4 b45 = (1, 7) ∧ wX6_isMember X G4 b45 x2 (fun r46 G47 => (r46 = 0 → k88 G47 a0 a1 (x2 + 1)) ∧ (¬ (r46 = 0) → gT G47 a0 = (1, 2) ∧ ∃ b88, gR G47 68 a0 = some b88 ∧ gT G47 b88 = (1, 7) ∧ ∃ b89, gR G47 224 b88 = some b89 ∧ gT G47 b89 = (1, 0) ∧ wJx4a65c_get_915e3 X G47 b89 x2 (fun r90 G91 => ∃ b92, r90 = some b92 ∧ gT G91 b92 = (1, 9) ∧ gT G91 b92 = (1, 9) ∧ (¬ (gI G91 293 b92) = 0 → gT G91 a0 = (1, 2) ∧ gT G91 b92 = (1, 9) ∧ wX8_settle X G91 b92 1 0 (gI G91 71 a0) (fun G113 => k88 G113 a0 a1 (x2 + 1))) ∧ ((gI G91 293 b92) = 0 → gT G91 b92 = (1, 9) ∧ gT G91 a0 = (1, 2) ∧ ∃ b133, gR G91 68 a0 = some b133 ∧ gT G91 b133 = (1, 7) ∧ gT G91 b92 = (1, 9) ∧ wX8_takeValues X G91 b92 a1 ((gI G91 290 b92) - (gI G91 229 b133)) (fun G134 => gT G134 a0 = (1, 2) ∧ gT G134 b92 = (1, 9) ∧ wX8_settle X G134 b92 1 0 (gI G134 71 a0) (fun G135 => k88 G135 a0 a1 (x2 + 1))))) Px))))
set_option maxRecDepth 20000 in
theorem bX1_finishGroup_88 {X : Xt} {K : Kt} {l : Launch} {G0 : Gt} {Pr : Gt → Prop} {Px : String → Gt → Prop} (B : BX X K l cX1_finishGroup 4 RX1 4 87 G0 none "finishGroup") {k88 : Gt → Nat → Nat → Int32 → Prop} (hk88 : ∀ (G : Gt) (a0 : Nat) (a1 : Nat) (x2 : Int32), k88 G a0 a1 x2 → WM X K (QM X K G0 (rV Pr) Px) G 88 [some (.ref a0), some (.ref a1), some (.int x2), none] []) {G : Gt} {a0 : Nat} {a1 : Nat} {x2 : Int32} (h : wX1_finishGroup_88 X Pr Px k88 G a0 a1 x2) : WM X K (QM X K G0 (rV Pr) Px) G 88 [some (.ref a0), some (.ref a1), some (.int x2), none] [] := by
  obtain ⟨hL, C, E0, hr, hnm, hex, hfl⟩ := id B
  unfold wX1_finishGroup_88 at h
  refine r_iload_n C 2 dX1_finishGroup_88 rfl rfl ?_
  refine r_aloadR_n C 0 dX1_finishGroup_89 rfl rfl ?_
  obtain ⟨ht, h⟩ := h
  obtain ⟨b1, hb, h⟩ := h
  refine r_getR C fw_RX1_35 rfl ht hb dX1_finishGroup_90 ?_
  obtain ⟨ht, h⟩ := h
  obtain ⟨b2, hb, h⟩ := h
  refine r_getR C fw_RX1_160 rfl ht hb dX1_finishGroup_93 ?_
  obtain ⟨ht, h⟩ := h
  refine r_callV C (r := (RJx4a65c, TJx4a65c, 3)) hL yw_Jx4a65c_size_8abf5 vw_RX1_250 rfl rfl ht rfl rfl (Nat.le_of_ble_eq_true rfl) ⟨(Nat.le_of_ble_eq_true rfl), (Nat.le_of_ble_eq_true rfl)⟩ (mJx4a65c_size_8abf5 hfl h) rfl dX1_finishGroup_96 (kI (fun r3 G4 h => ?_)) kN
  refine r_icmp_ge C 168 dX1_finishGroup_99 (by decide) (fun c => ?_) (fun c => ?_)
  · replace h := h.1 c
    exact r_vret C E0 hr ⟨rfl, h⟩ dX1_finishGroup_168
  · replace h := h.2 c
    refine r_aloadR_n C 0 dX1_finishGroup_102 rfl rfl ?_
    obtain ⟨ht, h⟩ := h
    obtain ⟨b45, hb, h⟩ := h
    refine r_getR C fw_RX1_35 rfl ht hb dX1_finishGroup_103 ?_
    refine r_iload_n C 2 dX1_finishGroup_106 rfl rfl ?_
    obtain ⟨ht, h⟩ := h
    refine r_callV C (r := (RX6, TX6, 7)) hL yw_X6_isMember vw_RX1_252 rfl rfl ht rfl rfl (Nat.le_of_ble_eq_true rfl) ⟨(Nat.le_of_ble_eq_true rfl), (Nat.le_of_ble_eq_true rfl)⟩ (mX6_isMember hfl h) rfl dX1_finishGroup_107 (kI (fun r46 G47 h => ?_)) kN
    refine r_if_eq C 162 dX1_finishGroup_110 (by decide) (fun c => ?_) (fun c => ?_)
    · replace h := h.1 c
      refine r_iinc C 1 (lv' := [some (.ref a0), some (.ref a1), some (.int (x2 + 1)), none]) dX1_finishGroup_162 rfl (by decide) rfl rfl ?_
      refine r_goto C 88 dX1_finishGroup_165 (by decide) ?_
      exact hk88 _ _ _ _ h
    · replace h := h.2 c
      refine r_aloadR_n C 0 dX1_finishGroup_113 rfl rfl ?_
      obtain ⟨ht, h⟩ := h
      obtain ⟨b88, hb, h⟩ := h
      refine r_getR C fw_RX1_35 rfl ht hb dX1_finishGroup_114 ?_
      obtain ⟨ht, h⟩ := h
      obtain ⟨b89, hb, h⟩ := h
      refine r_getR C fw_RX1_160 rfl ht hb dX1_finishGroup_117 ?_
      refine r_iload_n C 2 dX1_finishGroup_120 rfl rfl ?_
      obtain ⟨ht, h⟩ := h
      refine r_callV C (r := (RJx4a65c, TJx4a65c, 3)) hL yw_Jx4a65c_get_915e3 vw_RX1_167 rfl rfl ht rfl rfl (Nat.le_of_ble_eq_true rfl) ⟨(Nat.le_of_ble_eq_true rfl), (Nat.le_of_ble_eq_true rfl)⟩ (mJx4a65c_get_915e3 hfl h) rfl dX1_finishGroup_121 (kA' (fun r90 G91 h => ?_)) (kO C E0 hex)
      obtain ⟨b92, hb, ht, h⟩ := h
      subst hb
      refine r_cast C (r := (RX8, TX8, 11)) rfl cl_RX1_128 ht dX1_finishGroup_124 ?_
      refine r_astoreR_n C 3 (lv' := [some (.ref a0), some (.ref a1), some (.int x2), some (.ref b92)]) dX1_finishGroup_127 rfl (Nat.le_of_ble_eq_true rfl) rfl rfl ?_
      refine r_aloadR_n C 3 dX1_finishGroup_128 rfl rfl ?_
      obtain ⟨ht, h⟩ := h
      refine r_getI C fw_RX1_127 rfl ht dX1_finishGroup_129 ?_
      refine r_if_ne C 152 dX1_finishGroup_132 (by decide) (fun c => ?_) (fun c => ?_)
      · replace h := h.1 c
        refine r_aloadR_n C 3 dX1_finishGroup_152 rfl rfl ?_
        refine r_iconst C 1 dX1_finishGroup_153 (by decide) ?_
        refine r_iconst C 0 dX1_finishGroup_154 (by decide) ?_
        refine r_aloadR_n C 0 dX1_finishGroup_155 rfl rfl ?_
        obtain ⟨ht, h⟩ := h
        refine r_getI C fw_RX1_53 rfl ht dX1_finishGroup_156 ?_
        obtain ⟨ht, h⟩ := h
        refine r_callV C (r := (RX8, TX8, 11)) hL yw_X8_settle vw_RX1_215 rfl rfl ht rfl rfl (Nat.le_of_ble_eq_true rfl) ⟨(Nat.le_of_ble_eq_true rfl), (Nat.le_of_ble_eq_true rfl)⟩ (mX8_settle hfl h) rfl dX1_finishGroup_159 (kV' (fun G113 h => ?_)) kN
        refine r_iinc C 1 (lv' := [some (.ref a0), some (.ref a1), some (.int (x2 + 1)), some (.ref b92)]) dX1_finishGroup_162 rfl (by decide) rfl rfl ?_
        refine r_goto C 88 dX1_finishGroup_165 (by decide) ?_
        refine r_fg (lv' := [some (.ref a0), some (.ref a1), some (.int (x2 + 1)), none]) (show fgt _ _ from ⟨rfl, ⟨rfl, ⟨rfl, trivial⟩⟩⟩) ?_
        exact hk88 _ _ _ _ h
      · replace h := h.2 c
        refine r_aloadR_n C 3 dX1_finishGroup_135 rfl rfl ?_
        refine r_aloadR_n C 1 dX1_finishGroup_136 rfl rfl ?_
        refine r_aloadR_n C 3 dX1_finishGroup_137 rfl rfl ?_
        obtain ⟨ht, h⟩ := h
        refine r_getI C fw_RX1_130 rfl ht dX1_finishGroup_138 ?_
        refine r_aloadR_n C 0 dX1_finishGroup_141 rfl rfl ?_
        obtain ⟨ht, h⟩ := h
        obtain ⟨b133, hb, h⟩ := h
        refine r_getR C fw_RX1_35 rfl ht hb dX1_finishGroup_142 ?_
        obtain ⟨ht, h⟩ := h
        refine r_getI C fw_RX1_113 rfl ht dX1_finishGroup_145 ?_
        refine r_isub C dX1_finishGroup_148 ?_
        obtain ⟨ht, h⟩ := h
        refine r_callV C (r := (RX8, TX8, 11)) hL yw_X8_takeValues vw_RX1_266 rfl rfl ht rfl rfl (Nat.le_of_ble_eq_true rfl) ⟨(Nat.le_of_ble_eq_true rfl), (Nat.le_of_ble_eq_true rfl)⟩ (mX8_takeValues hfl h) rfl dX1_finishGroup_149 (kV' (fun G134 h => ?_)) kN
        refine r_aloadR_n C 3 dX1_finishGroup_152 rfl rfl ?_
        refine r_iconst C 1 dX1_finishGroup_153 (by decide) ?_
        refine r_iconst C 0 dX1_finishGroup_154 (by decide) ?_
        refine r_aloadR_n C 0 dX1_finishGroup_155 rfl rfl ?_
        obtain ⟨ht, h⟩ := h
        refine r_getI C fw_RX1_53 rfl ht dX1_finishGroup_156 ?_
        obtain ⟨ht, h⟩ := h
        refine r_callV C (r := (RX8, TX8, 11)) hL yw_X8_settle vw_RX1_215 rfl rfl ht rfl rfl (Nat.le_of_ble_eq_true rfl) ⟨(Nat.le_of_ble_eq_true rfl), (Nat.le_of_ble_eq_true rfl)⟩ (mX8_settle hfl h) rfl dX1_finishGroup_159 (kV' (fun G135 h => ?_)) kN
        refine r_iinc C 1 (lv' := [some (.ref a0), some (.ref a1), some (.int (x2 + 1)), some (.ref b92)]) dX1_finishGroup_162 rfl (by decide) rfl rfl ?_
        refine r_goto C 88 dX1_finishGroup_165 (by decide) ?_
        refine r_fg (lv' := [some (.ref a0), some (.ref a1), some (.int (x2 + 1)), none]) (show fgt _ _ from ⟨rfl, ⟨rfl, ⟨rfl, trivial⟩⟩⟩) ?_
        exact hk88 _ _ _ _ h
theorem lX1_finishGroup_88 {X : Xt} {K : Kt} {l : Launch} {G0 : Gt} {Pr : Gt → Prop} {Px : String → Gt → Prop} (B : BX X K l cX1_finishGroup 4 RX1 4 87 G0 none "finishGroup") (I : Gt → Nat → Nat → Int32 → Prop) (μ : Gt → Nat → Nat → Int32 → Nat) (hS : ∀ (G : Gt) (a0 : Nat) (a1 : Nat) (x2 : Int32), I G a0 a1 x2 → wX1_finishGroup_88 X Pr Px (fun G' a0' a1' x2' => I G' a0' a1' x2' ∧ μ G' a0' a1' x2' < μ G a0 a1 x2) G a0 a1 x2) : ∀ (n : Nat) (G : Gt) (a0 : Nat) (a1 : Nat) (x2 : Int32), μ G a0 a1 x2 < n → I G a0 a1 x2 → WM X K (QM X K G0 (rV Pr) Px) G 88 [some (.ref a0), some (.ref a1), some (.int x2), none] [] := by
  intro n
  induction n with
  | zero => intro G a0 a1 x2 hm; exact absurd hm (Nat.not_lt_zero _)
  | succ n ih =>
    intro G a0 a1 x2 hm hi
    exact bX1_finishGroup_88 B (fun G' a0' a1' x2' hk => ih G' a0' a1' x2' (Nat.lt_of_lt_of_le hk.2 (Nat.le_of_lt_succ hm)) hk.1) (hS G a0 a1 x2 hi)
def wX1_finishGroup_53 (X : Xt) (Pr : Gt → Prop) (Px : String → Gt → Prop) (k8 : Gt → Nat → Nat → Int32 → Prop) (G : Gt) (a0 : Nat) (a1 : Nat) (x2 : Int32) (sx0 : Int32) : Prop := gT G a0 = (1, 2) ∧ ∃ b1, gR G 67 a0 = some b1 ∧ gT G a0 = (1, 2) ∧ ∃ b2, gR G 68 a0 = some b2 ∧ gT G b2 = (1, 7) ∧ gT G a0 = (1, 2) ∧ gT G b1 = (1, 1) ∧ wX0_put X G b1 (gI G 227 b2) x2 sx0 (gI G 71 a0) (fun G3 => k8 G3 a0 a1 (x2 + 1))
set_option maxRecDepth 20000 in
theorem bX1_finishGroup_53 {X : Xt} {K : Kt} {l : Launch} {G0 : Gt} {Pr : Gt → Prop} {Px : String → Gt → Prop} (B : BX X K l cX1_finishGroup 4 RX1 4 87 G0 none "finishGroup") {k8 : Gt → Nat → Nat → Int32 → Prop} (hk8 : ∀ (G : Gt) (a0 : Nat) (a1 : Nat) (x2 : Int32), k8 G a0 a1 x2 → WM X K (QM X K G0 (rV Pr) Px) G 8 [some (.ref a0), some (.ref a1), some (.int x2), none] []) {G : Gt} {a0 : Nat} {a1 : Nat} {x2 : Int32} {sx0 : Int32} (h : wX1_finishGroup_53 X Pr Px k8 G a0 a1 x2 sx0) : WM X K (QM X K G0 (rV Pr) Px) G 53 [some (.ref a0), some (.ref a1), some (.int x2), none] [.int sx0] := by
  obtain ⟨hL, C, E0, hr, hnm, hex, hfl⟩ := id B
  unfold wX1_finishGroup_53 at h
  refine r_istore_n C 3 (lv' := [some (.ref a0), some (.ref a1), some (.int x2), some (.int sx0)]) dX1_finishGroup_53 rfl (Nat.le_of_ble_eq_true rfl) rfl rfl ?_
  refine r_aloadR_n C 0 dX1_finishGroup_54 rfl rfl ?_
  obtain ⟨ht, h⟩ := h
  obtain ⟨b1, hb, h⟩ := h
  refine r_getR C fw_RX1_28 rfl ht hb dX1_finishGroup_55 ?_
  refine r_aloadR_n C 0 dX1_finishGroup_58 rfl rfl ?_
  obtain ⟨ht, h⟩ := h
  obtain ⟨b2, hb, h⟩ := h
  refine r_getR C fw_RX1_35 rfl ht hb dX1_finishGroup_59 ?_
  obtain ⟨ht, h⟩ := h
  refine r_getI C fw_RX1_106 rfl ht dX1_finishGroup_62 ?_
  refine r_iload_n C 2 dX1_finishGroup_65 rfl rfl ?_
  refine r_iload_n C 3 dX1_finishGroup_66 rfl rfl ?_
  refine r_aloadR_n C 0 dX1_finishGroup_67 rfl rfl ?_
  obtain ⟨ht, h⟩ := h
  refine r_getI C fw_RX1_53 rfl ht dX1_finishGroup_68 ?_
  obtain ⟨ht, h⟩ := h
  refine r_callV C (r := (RX0, TX0, 2)) hL yw_X0_put vw_RX1_262 rfl rfl ht rfl rfl (Nat.le_of_ble_eq_true rfl) ⟨(Nat.le_of_ble_eq_true rfl), (Nat.le_of_ble_eq_true rfl)⟩ (mX0_put hfl h) rfl dX1_finishGroup_71 (kV' (fun G3 h => ?_)) kN
  refine r_iinc C 1 (lv' := [some (.ref a0), some (.ref a1), some (.int (x2 + 1)), some (.int sx0)]) dX1_finishGroup_74 rfl (by decide) rfl rfl ?_
  refine r_goto C 8 dX1_finishGroup_77 (by decide) ?_
  refine r_fg (lv' := [some (.ref a0), some (.ref a1), some (.int (x2 + 1)), none]) (show fgt _ _ from ⟨rfl, ⟨rfl, ⟨rfl, trivial⟩⟩⟩) ?_
  exact hk8 _ _ _ _ h
def wX1_finishGroup_8 (X : Xt) (Pr : Gt → Prop) (Px : String → Gt → Prop) (k8 : Gt → Nat → Nat → Int32 → Prop) (G : Gt) (a0 : Nat) (a1 : Nat) (x2 : Int32) : Prop := gT G a0 = (1, 2) ∧ ∃ b1, gR G 68 a0 = some b1 ∧ gT G b1 = (1, 7) ∧ ((gI G 230 b1) ≤ x2 → gT G a0 = (1, 2) ∧ ∃ b22, gR G 68 a0 = some b22 ∧ gT G b22 = (1, 7) ∧ ∃ (I : Gt → Nat → Nat → Int32 → Prop) (μ : Gt → Nat → Nat → Int32 → Nat), I G a0 a1 (gI G 226 b22) ∧ ∀ (G : Gt) (a0 : Nat) (a1 : Nat) (x2 : Int32), I G a0 a1 x2 → wX1_finishGroup_88 X Pr Px (fun G' a0' a1' x2' => I G' a0' a1' x2' ∧ μ G' a0' a1' x2' < μ G a0 a1 x2) G a0 a1 x2) ∧ (¬ ((gI G 230 b1) ≤ x2) → gT G a0 = (1, 2) ∧ ∃ b42, gR G 68 a0 = some b42 ∧ gT G b42 = (1, 7) ∧ ((gI G 228 b42) = 0 → gT G a0 = (1, 2) ∧ ∃ b63, gR G 68 a0 = some b63 ∧ gT G b63 = (1, 7) ∧ gT G a1 = (1, 4) ∧ wX3_readValue X G a1 (x2 - (gI G 229 b63)) (fun r64 G65 => wX1_finishGroup_53 X Pr Px k8 G65 a0 a1 x2 r64)) ∧ (¬ ((gI G 228 b42) = 0) → gT G a0 = (1, 2) ∧ ∃ b83, gR G 68 a0 = some b83 ∧ gT G b83 = (1, 7) ∧ wX6_valueToWrite X G b83 x2 (fun r84 G85 => wX1_finishGroup_53 X Pr Px k8 G85 a0 a1 x2 r84) Px))
set_option maxRecDepth 20000 in
theorem bX1_finishGroup_8 {X : Xt} {K : Kt} {l : Launch} {G0 : Gt} {Pr : Gt → Prop} {Px : String → Gt → Prop} (B : BX X K l cX1_finishGroup 4 RX1 4 87 G0 none "finishGroup") {k8 : Gt → Nat → Nat → Int32 → Prop} (hk8 : ∀ (G : Gt) (a0 : Nat) (a1 : Nat) (x2 : Int32), k8 G a0 a1 x2 → WM X K (QM X K G0 (rV Pr) Px) G 8 [some (.ref a0), some (.ref a1), some (.int x2), none] []) {G : Gt} {a0 : Nat} {a1 : Nat} {x2 : Int32} (h : wX1_finishGroup_8 X Pr Px k8 G a0 a1 x2) : WM X K (QM X K G0 (rV Pr) Px) G 8 [some (.ref a0), some (.ref a1), some (.int x2), none] [] := by
  obtain ⟨hL, C, E0, hr, hnm, hex, hfl⟩ := id B
  unfold wX1_finishGroup_8 at h
  refine r_iload_n C 2 dX1_finishGroup_8 rfl rfl ?_
  refine r_aloadR_n C 0 dX1_finishGroup_9 rfl rfl ?_
  obtain ⟨ht, h⟩ := h
  obtain ⟨b1, hb, h⟩ := h
  refine r_getR C fw_RX1_35 rfl ht hb dX1_finishGroup_10 ?_
  obtain ⟨ht, h⟩ := h
  refine r_getI C fw_RX1_142 rfl ht dX1_finishGroup_13 ?_
  refine r_icmp_ge C 80 dX1_finishGroup_16 (by decide) (fun c => ?_) (fun c => ?_)
  · replace h := h.1 c
    refine r_aloadR_n C 0 dX1_finishGroup_80 rfl rfl ?_
    obtain ⟨ht, h⟩ := h
    obtain ⟨b22, hb, h⟩ := h
    refine r_getR C fw_RX1_35 rfl ht hb dX1_finishGroup_81 ?_
    obtain ⟨ht, h⟩ := h
    refine r_getI C fw_RX1_164 rfl ht dX1_finishGroup_84 ?_
    refine r_istore_n C 2 (lv' := [some (.ref a0), some (.ref a1), some (.int (gI G 226 b22)), none]) dX1_finishGroup_87 rfl (Nat.le_of_ble_eq_true rfl) rfl rfl ?_
    obtain ⟨I, μ, hI, hS⟩ := h
    exact lX1_finishGroup_88 B I μ hS _ _ _ _ _ (Nat.lt_succ_self _) hI
  · replace h := h.2 c
    refine r_aloadR_n C 0 dX1_finishGroup_19 rfl rfl ?_
    obtain ⟨ht, h⟩ := h
    obtain ⟨b42, hb, h⟩ := h
    refine r_getR C fw_RX1_35 rfl ht hb dX1_finishGroup_20 ?_
    obtain ⟨ht, h⟩ := h
    refine r_getI C fw_RX1_100 rfl ht dX1_finishGroup_23 ?_
    refine r_if_eq C 40 dX1_finishGroup_26 (by decide) (fun c => ?_) (fun c => ?_)
    · replace h := h.1 c
      refine r_aloadR_n C 1 dX1_finishGroup_40 rfl rfl ?_
      refine r_iload_n C 2 dX1_finishGroup_41 rfl rfl ?_
      refine r_aloadR_n C 0 dX1_finishGroup_42 rfl rfl ?_
      obtain ⟨ht, h⟩ := h
      obtain ⟨b63, hb, h⟩ := h
      refine r_getR C fw_RX1_35 rfl ht hb dX1_finishGroup_43 ?_
      obtain ⟨ht, h⟩ := h
      refine r_getI C fw_RX1_113 rfl ht dX1_finishGroup_46 ?_
      refine r_isub C dX1_finishGroup_49 ?_
      obtain ⟨ht, h⟩ := h
      refine r_callV C (r := (RX3, TX3, 2)) hL yw_X3_readValue vw_RX1_259 rfl rfl ht rfl rfl (Nat.le_of_ble_eq_true rfl) ⟨(Nat.le_of_ble_eq_true rfl), (Nat.le_of_ble_eq_true rfl)⟩ (mX3_readValue hfl h) rfl dX1_finishGroup_50 (kI (fun r64 G65 h => ?_)) kN
      exact bX1_finishGroup_53 B hk8 h
    · replace h := h.2 c
      refine r_aloadR_n C 0 dX1_finishGroup_29 rfl rfl ?_
      obtain ⟨ht, h⟩ := h
      obtain ⟨b83, hb, h⟩ := h
      refine r_getR C fw_RX1_35 rfl ht hb dX1_finishGroup_30 ?_
      refine r_iload_n C 2 dX1_finishGroup_33 rfl rfl ?_
      obtain ⟨ht, h⟩ := h
      refine r_callV C (r := (RX6, TX6, 7)) hL yw_X6_valueToWrite vw_RX1_143 rfl rfl ht rfl rfl (Nat.le_of_ble_eq_true rfl) ⟨(Nat.le_of_ble_eq_true rfl), (Nat.le_of_ble_eq_true rfl)⟩ (mX6_valueToWrite hfl h) rfl dX1_finishGroup_34 (kI (fun r84 G85 h => ?_)) (kO C E0 hex)
      refine r_goto C 53 dX1_finishGroup_37 (by decide) ?_
      exact bX1_finishGroup_53 B hk8 h
theorem lX1_finishGroup_8 {X : Xt} {K : Kt} {l : Launch} {G0 : Gt} {Pr : Gt → Prop} {Px : String → Gt → Prop} (B : BX X K l cX1_finishGroup 4 RX1 4 87 G0 none "finishGroup") (I : Gt → Nat → Nat → Int32 → Prop) (μ : Gt → Nat → Nat → Int32 → Nat) (hS : ∀ (G : Gt) (a0 : Nat) (a1 : Nat) (x2 : Int32), I G a0 a1 x2 → wX1_finishGroup_8 X Pr Px (fun G' a0' a1' x2' => I G' a0' a1' x2' ∧ μ G' a0' a1' x2' < μ G a0 a1 x2) G a0 a1 x2) : ∀ (n : Nat) (G : Gt) (a0 : Nat) (a1 : Nat) (x2 : Int32), μ G a0 a1 x2 < n → I G a0 a1 x2 → WM X K (QM X K G0 (rV Pr) Px) G 8 [some (.ref a0), some (.ref a1), some (.int x2), none] [] := by
  intro n
  induction n with
  | zero => intro G a0 a1 x2 hm; exact absurd hm (Nat.not_lt_zero _)
  | succ n ih =>
    intro G a0 a1 x2 hm hi
    exact bX1_finishGroup_8 B (fun G' a0' a1' x2' hk => ih G' a0' a1' x2' (Nat.lt_of_lt_of_le hk.2 (Nat.le_of_lt_succ hm)) hk.1) (hS G a0 a1 x2 hi)
def wX1_finishGroup (X : Xt) (G : Gt) (a0 : Nat) (a1 : Nat) (Pr : Gt → Prop) (Px : String → Gt → Prop) : Prop := gT G a0 = (1, 2) ∧ ∃ b1, gR G 68 a0 = some b1 ∧ gT G b1 = (1, 7) ∧ ∃ (I : Gt → Nat → Nat → Int32 → Prop) (μ : Gt → Nat → Nat → Int32 → Nat), I G a0 a1 (gI G 229 b1) ∧ ∀ (G : Gt) (a0 : Nat) (a1 : Nat) (x2 : Int32), I G a0 a1 x2 → wX1_finishGroup_8 X Pr Px (fun G' a0' a1' x2' => I G' a0' a1' x2' ∧ μ G' a0' a1' x2' < μ G a0 a1 x2) G a0 a1 x2
set_option maxRecDepth 20000 in
theorem mX1_finishGroup {X : Xt} {l : Launch} (hfl : l.stackTraces = false) {G : Gt} {a0 : Nat} {a1 : Nat} {Pr : Gt → Prop} {Px : String → Gt → Prop} (h : wX1_finishGroup X G a0 a1 Pr Px) : Mc X l yX1_finishGroup (.code yX1_finishGroup cX1_finishGroup 4 none) 4 87 [.ref a0, .ref a1] G (rV Pr) Px := by
  refine Mc.of (by decide +kernel) hfl [some (.ref a0), some (.ref a1), none, none] rfl (Nat.le_of_ble_eq_true rfl) rfl ?_
  intro K hL C E0 hr hnm hex
  have B : BX X K l cX1_finishGroup 4 RX1 4 87 G none "finishGroup" := ⟨hL, C, E0, hr, hnm, hex, hfl⟩
  have C : Cx X K cX1_finishGroup 4 RX1 4 87 := C
  unfold wX1_finishGroup at h
  refine r_aloadR_n C 0 dX1_finishGroup_0 rfl rfl ?_
  obtain ⟨ht, h⟩ := h
  obtain ⟨b1, hb, h⟩ := h
  refine r_getR C fw_RX1_35 rfl ht hb dX1_finishGroup_1 ?_
  obtain ⟨ht, h⟩ := h
  refine r_getI C fw_RX1_113 rfl ht dX1_finishGroup_4 ?_
  refine r_istore_n C 2 (lv' := [some (.ref a0), some (.ref a1), some (.int (gI G 229 b1)), none]) dX1_finishGroup_7 rfl (Nat.le_of_ble_eq_true rfl) rfl rfl ?_
  obtain ⟨I, μ, hI, hS⟩ := h
  exact lX1_finishGroup_8 B I μ hS _ _ _ _ _ (Nat.lt_succ_self _) hI
def wX1_takeStep (X : Xt) (G : Gt) (a0 : Nat) (Pr : Int32 → Gt → Prop) (Px : String → Gt → Prop) : Prop := gT G a0 = (1, 2) ∧ wX1_plan X G a0 (fun G1 => gT G1 a0 = (1, 2) ∧ ∃ b2, gR G1 68 a0 = some b2 ∧ gT G1 b2 = (1, 7) ∧ wJ13_bitCount_95d88 X G1 (gJ G1 225 b2) (fun r3 G4 => (¬ r3 = 0 → gT G4 a0 = (1, 2) ∧ ∃ b25, gR G4 70 a0 = some b25 ∧ gT G4 b25 = (1, 4) ∧ (¬ (gI G4 129 b25) = 0 → gT G4 a0 = (1, 2) ∧ ∃ b46, gR G4 65 a0 = some b46 ∧ (gT G4 b46).1 = 2 ∧ vp_in 5 (gT G4 b46).2 ∧ (gT G4 b46).1 = 2 ∧ vp_in 5 (gT G4 b46).2 ∧ ∀ G47, G47 = sA G4 b46 (upd (gA G4 b46) (5 : Int32).toNatClampNeg ((gA G4 b46 (5 : Int32).toNatClampNeg) + (r3 - 1))) → gT G47 a0 = (1, 2) ∧ ∃ b48, gR G47 66 a0 = some b48 ∧ gT G47 a0 = (1, 2) ∧ ∃ b49, gR G47 68 a0 = some b49 ∧ gT G47 b49 = (1, 7) ∧ (gT G47 b48).1 = 4 ∧ vp_in ((gI G47 227 b49) - 1) (gT G47 b48).2 ∧ ∃ b50, gB G47 b48 ((gI G47 227 b49) - 1).toNatClampNeg = some b50 ∧ gT G47 a0 = (1, 2) ∧ wX1_tryFrame X G47 a0 b50 (fun r51 G52 => (∀ b53, r51 = some b53 → gT G52 b53 = (1, 8) ∧ ∃ b74, gR G52 256 b53 = some b74 ∧ gT G52 b74 = (1, 4) ∧ wX3_isException X G52 b74 (fun r75 G76 => (r75 = 0 → gT G76 b53 = (1, 8) ∧ ∃ b97, gR G76 256 b53 = some b97 ∧ gT G76 a0 = (1, 2) ∧ wX1_finishGroup X G76 a0 b97 (fun G98 => gT G98 a0 = (1, 2) ∧ ∃ b99, gR G98 69 a0 = some b99 ∧ gT G98 b99 = (1, 5) ∧ wX4_recycle X G98 b99 b53 (fun G100 => Pr r3 G100)) Px) ∧ (¬ (r75 = 0) → gT G76 b53 = (1, 8) ∧ ∃ b117, gR G76 256 b53 = some b117 ∧ gT G76 b117 = (1, 4) ∧ wX3_byteAt X G76 b117 2 (fun r118 G119 => gT G119 a0 = (1, 2) ∧ wX1_failGroup X G119 a0 r118 (fun G120 => gT G120 a0 = (1, 2) ∧ ∃ b121, gR G120 69 a0 = some b121 ∧ gT G120 b121 = (1, 5) ∧ wX4_recycle X G120 b121 b53 (fun G122 => Pr r3 G122)) Px)))) ∧ (r51 = none → gT G52 a0 = (1, 2) ∧ wX1_failGroup X G52 a0 11 (fun G94 => Pr r3 G94) Px)) Px) ∧ ((gI G4 129 b25) = 0 → gT G4 a0 = (1, 2) ∧ ∃ b66, gR G4 65 a0 = some b66 ∧ (gT G4 b66).1 = 2 ∧ vp_in 4 (gT G4 b66).2 ∧ (gT G4 b66).1 = 2 ∧ vp_in 4 (gT G4 b66).2 ∧ ∀ G67, G67 = sA G4 b66 (upd (gA G4 b66) (4 : Int32).toNatClampNeg ((gA G4 b66 (4 : Int32).toNatClampNeg) + 1)) → gT G67 a0 = (1, 2) ∧ ∃ b68, gR G67 68 a0 = some b68 ∧ gT G67 b68 = (1, 7) ∧ ∃ b69, gR G67 224 b68 = some b69 ∧ gT G67 a0 = (1, 2) ∧ ∃ b70, gR G67 68 a0 = some b70 ∧ gT G67 b70 = (1, 7) ∧ gT G67 b69 = (1, 0) ∧ wJx4a65c_get_915e3 X G67 b69 (gI G67 226 b70) (fun r71 G72 => ∃ b73, r71 = some b73 ∧ gT G72 b73 = (1, 9) ∧ gT G72 a0 = (1, 2) ∧ wX1_endFromCache X G72 a0 b73 (fun G74 => Pr r3 G74)) Px)) ∧ (r3 = 0 → Pr 0 G4))) Px
set_option maxRecDepth 20000 in
theorem mX1_takeStep {X : Xt} {l : Launch} (hfl : l.stackTraces = false) {G : Gt} {a0 : Nat} {Pr : Int32 → Gt → Prop} {Px : String → Gt → Prop} (h : wX1_takeStep X G a0 Pr Px) : Mc X l yX1_takeStep (.code yX1_takeStep cX1_takeStep 3 (some (.int))) 10 242 [.ref a0] G (rI Pr) Px := by
  refine Mc.of (by decide +kernel) hfl [some (.ref a0), none, none] rfl (Nat.le_of_ble_eq_true rfl) rfl ?_
  intro K hL C E0 hr hnm hex
  have B : BX X K l cX1_takeStep 3 RX1 10 242 G (some (.int)) "takeStep" := ⟨hL, C, E0, hr, hnm, hex, hfl⟩
  have C : Cx X K cX1_takeStep 3 RX1 10 242 := C
  unfold wX1_takeStep at h
  refine r_aloadR_n C 0 dX1_takeStep_0 rfl rfl ?_
  obtain ⟨ht, h⟩ := h
  refine r_callV C (r := (RX1, TX1, 11)) hL yw_X1_plan vw_RX1_147 rfl rfl ht rfl rfl (Nat.le_of_ble_eq_true rfl) ⟨(Nat.le_of_ble_eq_true rfl), (Nat.le_of_ble_eq_true rfl)⟩ (mX1_plan hfl h) rfl dX1_takeStep_1 (kV' (fun G1 h => ?_)) (kO C E0 hex)
  refine r_aloadR_n C 0 dX1_takeStep_4 rfl rfl ?_
  obtain ⟨ht, h⟩ := h
  obtain ⟨b2, hb, h⟩ := h
  refine r_getR C fw_RX1_35 rfl ht hb dX1_takeStep_5 ?_
  obtain ⟨ht, h⟩ := h
  refine r_getJ C fw_RX1_150 rfl ht dX1_takeStep_8 ?_
  refine r_callS C hL yw_J13_bitCount_95d88 sw_RX1_154 rfl rfl (Nat.le_of_ble_eq_true rfl) ⟨(Nat.le_of_ble_eq_true rfl), (Nat.le_of_ble_eq_true rfl)⟩ (mJ13_bitCount_95d88 hfl h) rfl dX1_takeStep_11 (kI (fun r3 G4 h => ?_)) kN
  refine r_istore_n C 1 (lv' := [some (.ref a0), some (.int r3), none]) dX1_takeStep_14 rfl (Nat.le_of_ble_eq_true rfl) rfl rfl ?_
  refine r_iload_n C 1 dX1_takeStep_15 rfl rfl ?_
  refine r_if_ne C 21 dX1_takeStep_16 (by decide) (fun c => ?_) (fun c => ?_)
  · replace h := h.1 c
    refine r_aloadR_n C 0 dX1_takeStep_21 rfl rfl ?_
    obtain ⟨ht, h⟩ := h
    obtain ⟨b25, hb, h⟩ := h
    refine r_getR C fw_RX1_49 rfl ht hb dX1_takeStep_22 ?_
    obtain ⟨ht, h⟩ := h
    refine r_getI C fw_RX1_86 rfl ht dX1_takeStep_25 ?_
    refine r_if_ne C 67 dX1_takeStep_28 (by decide) (fun c => ?_) (fun c => ?_)
    · replace h := h.1 c
      refine r_aloadR_n C 0 dX1_takeStep_67 rfl rfl ?_
      obtain ⟨ht, h⟩ := h
      obtain ⟨b46, hb, h⟩ := h
      refine r_getR C fw_RX1_15 rfl ht hb dX1_takeStep_68 ?_
      refine r_iconst C 5 dX1_takeStep_71 (by decide) ?_
      refine r_dup2 C dX1_takeStep_72 rfl rfl ?_
      obtain ⟨ht, hi, h⟩ := h
      refine r_ialdP C ht hi dX1_takeStep_73 ?_
      refine r_iload_n C 1 dX1_takeStep_74 rfl rfl ?_
      refine r_iconst C 1 dX1_takeStep_75 (by decide) ?_
      refine r_isub C dX1_takeStep_76 ?_
      refine r_iadd C dX1_takeStep_77 ?_
      obtain ⟨ht, hi, h⟩ := h
      refine r_iastP C ht hi dX1_takeStep_78 ?_
      refine r_nm (fun G47 hG47 => ?_)
      replace h := h G47 hG47
      refine r_aloadR_n C 0 dX1_takeStep_79 rfl rfl ?_
      refine r_aloadR_n C 0 dX1_takeStep_80 rfl rfl ?_
      obtain ⟨ht, h⟩ := h
      obtain ⟨b48, hb, h⟩ := h
      refine r_getR C fw_RX1_21 rfl ht hb dX1_takeStep_81 ?_
      refine r_aloadR_n C 0 dX1_takeStep_84 rfl rfl ?_
      obtain ⟨ht, h⟩ := h
      obtain ⟨b49, hb, h⟩ := h
      refine r_getR C fw_RX1_35 rfl ht hb dX1_takeStep_85 ?_
      obtain ⟨ht, h⟩ := h
      refine r_getI C fw_RX1_106 rfl ht dX1_takeStep_88 ?_
      refine r_iconst C 1 dX1_takeStep_91 (by decide) ?_
      refine r_isub C dX1_takeStep_92 ?_
      obtain ⟨ht, hi, h⟩ := h
      obtain ⟨b50, hb, h⟩ := h
      refine r_aald4P C ht hi hb dX1_takeStep_93 ?_
      obtain ⟨ht, h⟩ := h
      refine r_callV C (r := (RX1, TX1, 11)) hL yw_X1_tryFrame vw_RX1_177 rfl rfl ht rfl rfl (Nat.le_of_ble_eq_true rfl) ⟨(Nat.le_of_ble_eq_true rfl), (Nat.le_of_ble_eq_true rfl)⟩ (mX1_tryFrame hfl h) rfl dX1_takeStep_94 (kA' (fun r51 G52 h => ?_)) (kO C E0 hex)
      refine r_astore_n C 2 (x := r51) (lv' := [some (.ref a0), some (.int r3), some (va_rf r51)]) dX1_takeStep_97 rfl (Nat.le_of_ble_eq_true rfl) rfl rfl ?_
      refine r_aload_n C 2 (x := r51) dX1_takeStep_98 rfl rfl ?_
      refine r_ifnonnull C 110 dX1_takeStep_99 (by decide) (fun b53 c => ?_) (fun c => ?_)
      · replace h := h.1 b53 c
        subst c
        show WM _ _ _ _ _ [some (.ref a0), some (.int r3), some (.ref b53)] []
        refine r_aloadR_n C 2 dX1_takeStep_110 rfl rfl ?_
        obtain ⟨ht, h⟩ := h
        obtain ⟨b74, hb, h⟩ := h
        refine r_getR C fw_RX1_184 rfl ht hb dX1_takeStep_111 ?_
        obtain ⟨ht, h⟩ := h
        refine r_callV C (r := (RX3, TX3, 2)) hL yw_X3_isException vw_RX1_187 rfl rfl ht rfl rfl (Nat.le_of_ble_eq_true rfl) ⟨(Nat.le_of_ble_eq_true rfl), (Nat.le_of_ble_eq_true rfl)⟩ (mX3_isException hfl h) rfl dX1_takeStep_114 (kI (fun r75 G76 h => ?_)) kN
        refine r_if_eq C 135 dX1_takeStep_117 (by decide) (fun c => ?_) (fun c => ?_)
        · replace h := h.1 c
          refine r_aloadR_n C 0 dX1_takeStep_135 rfl rfl ?_
          refine r_aloadR_n C 2 dX1_takeStep_136 rfl rfl ?_
          obtain ⟨ht, h⟩ := h
          obtain ⟨b97, hb, h⟩ := h
          refine r_getR C fw_RX1_184 rfl ht hb dX1_takeStep_137 ?_
          obtain ⟨ht, h⟩ := h
          refine r_callV C (r := (RX1, TX1, 11)) hL yw_X1_finishGroup vw_RX1_194 rfl rfl ht rfl rfl (Nat.le_of_ble_eq_true rfl) ⟨(Nat.le_of_ble_eq_true rfl), (Nat.le_of_ble_eq_true rfl)⟩ (mX1_finishGroup hfl h) rfl dX1_takeStep_140 (kV' (fun G98 h => ?_)) (kO C E0 hex)
          refine r_aloadR_n C 0 dX1_takeStep_143 rfl rfl ?_
          obtain ⟨ht, h⟩ := h
          obtain ⟨b99, hb, h⟩ := h
          refine r_getR C fw_RX1_42 rfl ht hb dX1_takeStep_144 ?_
          refine r_aloadR_n C 2 dX1_takeStep_147 rfl rfl ?_
          obtain ⟨ht, h⟩ := h
          refine r_callV C (r := (RX4, TX4, 2)) hL yw_X4_recycle vw_RX1_198 rfl rfl ht rfl rfl (Nat.le_of_ble_eq_true rfl) ⟨(Nat.le_of_ble_eq_true rfl), (Nat.le_of_ble_eq_true rfl)⟩ (mX4_recycle hfl h) rfl dX1_takeStep_148 (kV' (fun G100 h => ?_)) kN
          refine r_iload_n C 1 dX1_takeStep_151 rfl rfl ?_
          exact r_iret C E0 hr ⟨_, rfl, h⟩ dX1_takeStep_152
        · replace h := h.2 c
          refine r_aloadR_n C 0 dX1_takeStep_120 rfl rfl ?_
          refine r_aloadR_n C 2 dX1_takeStep_121 rfl rfl ?_
          obtain ⟨ht, h⟩ := h
          obtain ⟨b117, hb, h⟩ := h
          refine r_getR C fw_RX1_184 rfl ht hb dX1_takeStep_122 ?_
          refine r_iconst C 2 dX1_takeStep_125 (by decide) ?_
          obtain ⟨ht, h⟩ := h
          refine r_callV C (r := (RX3, TX3, 2)) hL yw_X3_byteAt vw_RX1_191 rfl rfl ht rfl rfl (Nat.le_of_ble_eq_true rfl) ⟨(Nat.le_of_ble_eq_true rfl), (Nat.le_of_ble_eq_true rfl)⟩ (mX3_byteAt hfl h) rfl dX1_takeStep_126 (kI (fun r118 G119 h => ?_)) kN
          obtain ⟨ht, h⟩ := h
          refine r_callV C (r := (RX1, TX1, 11)) hL yw_X1_failGroup vw_RX1_181 rfl rfl ht rfl rfl (Nat.le_of_ble_eq_true rfl) ⟨(Nat.le_of_ble_eq_true rfl), (Nat.le_of_ble_eq_true rfl)⟩ (mX1_failGroup hfl h) rfl dX1_takeStep_129 (kV' (fun G120 h => ?_)) (kO C E0 hex)
          refine r_goto C 143 dX1_takeStep_132 (by decide) ?_
          refine r_aloadR_n C 0 dX1_takeStep_143 rfl rfl ?_
          obtain ⟨ht, h⟩ := h
          obtain ⟨b121, hb, h⟩ := h
          refine r_getR C fw_RX1_42 rfl ht hb dX1_takeStep_144 ?_
          refine r_aloadR_n C 2 dX1_takeStep_147 rfl rfl ?_
          obtain ⟨ht, h⟩ := h
          refine r_callV C (r := (RX4, TX4, 2)) hL yw_X4_recycle vw_RX1_198 rfl rfl ht rfl rfl (Nat.le_of_ble_eq_true rfl) ⟨(Nat.le_of_ble_eq_true rfl), (Nat.le_of_ble_eq_true rfl)⟩ (mX4_recycle hfl h) rfl dX1_takeStep_148 (kV' (fun G122 h => ?_)) kN
          refine r_iload_n C 1 dX1_takeStep_151 rfl rfl ?_
          exact r_iret C E0 hr ⟨_, rfl, h⟩ dX1_takeStep_152
      · replace h := h.2 c
        subst c
        show WM _ _ _ _ _ [some (.ref a0), some (.int r3), some (.null)] []
        refine r_aloadR_n C 0 dX1_takeStep_102 rfl rfl ?_
        refine r_bipush C 11 dX1_takeStep_103 (by decide) ?_
        obtain ⟨ht, h⟩ := h
        refine r_callV C (r := (RX1, TX1, 11)) hL yw_X1_failGroup vw_RX1_181 rfl rfl ht rfl rfl (Nat.le_of_ble_eq_true rfl) ⟨(Nat.le_of_ble_eq_true rfl), (Nat.le_of_ble_eq_true rfl)⟩ (mX1_failGroup hfl h) rfl dX1_takeStep_105 (kV' (fun G94 h => ?_)) (kO C E0 hex)
        refine r_iload_n C 1 dX1_takeStep_108 rfl rfl ?_
        exact r_iret C E0 hr ⟨_, rfl, h⟩ dX1_takeStep_109
    · replace h := h.2 c
      refine r_aloadR_n C 0 dX1_takeStep_31 rfl rfl ?_
      obtain ⟨ht, h⟩ := h
      obtain ⟨b66, hb, h⟩ := h
      refine r_getR C fw_RX1_15 rfl ht hb dX1_takeStep_32 ?_
      refine r_iconst C 4 dX1_takeStep_35 (by decide) ?_
      refine r_dup2 C dX1_takeStep_36 rfl rfl ?_
      obtain ⟨ht, hi, h⟩ := h
      refine r_ialdP C ht hi dX1_takeStep_37 ?_
      refine r_iconst C 1 dX1_takeStep_38 (by decide) ?_
      refine r_iadd C dX1_takeStep_39 ?_
      obtain ⟨ht, hi, h⟩ := h
      refine r_iastP C ht hi dX1_takeStep_40 ?_
      refine r_nm (fun G67 hG67 => ?_)
      replace h := h G67 hG67
      refine r_aloadR_n C 0 dX1_takeStep_41 rfl rfl ?_
      refine r_aloadR_n C 0 dX1_takeStep_42 rfl rfl ?_
      obtain ⟨ht, h⟩ := h
      obtain ⟨b68, hb, h⟩ := h
      refine r_getR C fw_RX1_35 rfl ht hb dX1_takeStep_43 ?_
      obtain ⟨ht, h⟩ := h
      obtain ⟨b69, hb, h⟩ := h
      refine r_getR C fw_RX1_160 rfl ht hb dX1_takeStep_46 ?_
      refine r_aloadR_n C 0 dX1_takeStep_49 rfl rfl ?_
      obtain ⟨ht, h⟩ := h
      obtain ⟨b70, hb, h⟩ := h
      refine r_getR C fw_RX1_35 rfl ht hb dX1_takeStep_50 ?_
      obtain ⟨ht, h⟩ := h
      refine r_getI C fw_RX1_164 rfl ht dX1_takeStep_53 ?_
      obtain ⟨ht, h⟩ := h
      refine r_callV C (r := (RJx4a65c, TJx4a65c, 3)) hL yw_Jx4a65c_get_915e3 vw_RX1_167 rfl rfl ht rfl rfl (Nat.le_of_ble_eq_true rfl) ⟨(Nat.le_of_ble_eq_true rfl), (Nat.le_of_ble_eq_true rfl)⟩ (mJx4a65c_get_915e3 hfl h) rfl dX1_takeStep_56 (kA' (fun r71 G72 h => ?_)) (kO C E0 hex)
      obtain ⟨b73, hb, ht, h⟩ := h
      subst hb
      refine r_cast C (r := (RX8, TX8, 11)) rfl cl_RX1_128 ht dX1_takeStep_59 ?_
      obtain ⟨ht, h⟩ := h
      refine r_callV C (r := (RX1, TX1, 11)) hL yw_X1_endFromCache vw_RX1_173 rfl rfl ht rfl rfl (Nat.le_of_ble_eq_true rfl) ⟨(Nat.le_of_ble_eq_true rfl), (Nat.le_of_ble_eq_true rfl)⟩ (mX1_endFromCache hfl h) rfl dX1_takeStep_62 (kV' (fun G74 h => ?_)) kN
      refine r_iload_n C 1 dX1_takeStep_65 rfl rfl ?_
      exact r_iret C E0 hr ⟨_, rfl, h⟩ dX1_takeStep_66
  · replace h := h.2 c
    refine r_iconst C 0 dX1_takeStep_19 (by decide) ?_
    exact r_iret C E0 hr ⟨_, rfl, h⟩ dX1_takeStep_20
def wX2_appendFault (X : Xt) (G : Gt) (a0 : Nat) (x1 : Int32) (x2 : Int32) (Pr : Gt → Prop) : Prop := gT G a0 = (1, 3) ∧ (6 ≤ (gI G 99 a0) → Pr G) ∧ (¬ (6 ≤ (gI G 99 a0)) → gT G a0 = (1, 3) ∧ ∃ b41, gR G 97 a0 = some b41 ∧ gT G a0 = (1, 3) ∧ (gT G b41).1 = 2 ∧ vp_in (gI G 99 a0) (gT G b41).2 ∧ ∀ G42, G42 = sA G b41 (upd (gA G b41) (gI G 99 a0).toNatClampNeg x1) → gT G42 a0 = (1, 3) ∧ ∃ b43, gR G42 98 a0 = some b43 ∧ gT G42 a0 = (1, 3) ∧ (gT G42 b43).1 = 2 ∧ vp_in (gI G42 99 a0) (gT G42 b43).2 ∧ ∀ G44, G44 = sA G42 b43 (upd (gA G42 b43) (gI G42 99 a0).toNatClampNeg x2) → gT G44 a0 = (1, 3) ∧ gT G44 a0 = (1, 3) ∧ ∀ G45, G45 = sI G44 99 a0 ((gI G44 99 a0) + 1) → Pr G45)
set_option maxRecDepth 20000 in
theorem mX2_appendFault {X : Xt} {l : Launch} (hfl : l.stackTraces = false) {G : Gt} {a0 : Nat} {x1 : Int32} {x2 : Int32} {Pr : Gt → Prop} (h : wX2_appendFault X G a0 x1 x2 Pr) : Mc X l yX2_appendFault (.code yX2_appendFault cX2_appendFault 3 none) 0 0 [.ref a0, .int x1, .int x2] G (rV Pr) noX := by
  refine Mc.of (by decide +kernel) hfl [some (.ref a0), some (.int x1), some (.int x2)] rfl (Nat.le_of_ble_eq_true rfl) rfl ?_
  intro K hL C E0 hr hnm hex
  have B : BX X K l cX2_appendFault 3 RX2 0 0 G none "appendFault" := ⟨hL, C, E0, hr, hnm, hex, hfl⟩
  have C : Cx X K cX2_appendFault 3 RX2 0 0 := C
  unfold wX2_appendFault at h
  refine r_aloadR_n C 0 dX2_appendFault_0 rfl rfl ?_
  obtain ⟨ht, h⟩ := h
  refine r_getI C fw_RX2_21 rfl ht dX2_appendFault_1 ?_
  refine r_bipush C 6 dX2_appendFault_4 (by decide) ?_
  refine r_icmp_ge C 39 dX2_appendFault_6 (by decide) (fun c => ?_) (fun c => ?_)
  · replace h := h.1 c
    exact r_vret C E0 hr ⟨rfl, h⟩ dX2_appendFault_39
  · replace h := h.2 c
    refine r_aloadR_n C 0 dX2_appendFault_9 rfl rfl ?_
    obtain ⟨ht, h⟩ := h
    obtain ⟨b41, hb, h⟩ := h
    refine r_getR C fw_RX2_15 rfl ht hb dX2_appendFault_10 ?_
    refine r_aloadR_n C 0 dX2_appendFault_13 rfl rfl ?_
    obtain ⟨ht, h⟩ := h
    refine r_getI C fw_RX2_21 rfl ht dX2_appendFault_14 ?_
    refine r_iload_n C 1 dX2_appendFault_17 rfl rfl ?_
    obtain ⟨ht, hi, h⟩ := h
    refine r_iastP C ht hi dX2_appendFault_18 ?_
    refine r_nm (fun G42 hG42 => ?_)
    replace h := h G42 hG42
    refine r_aloadR_n C 0 dX2_appendFault_19 rfl rfl ?_
    obtain ⟨ht, h⟩ := h
    obtain ⟨b43, hb, h⟩ := h
    refine r_getR C fw_RX2_18 rfl ht hb dX2_appendFault_20 ?_
    refine r_aloadR_n C 0 dX2_appendFault_23 rfl rfl ?_
    obtain ⟨ht, h⟩ := h
    refine r_getI C fw_RX2_21 rfl ht dX2_appendFault_24 ?_
    refine r_iload_n C 2 dX2_appendFault_27 rfl rfl ?_
    obtain ⟨ht, hi, h⟩ := h
    refine r_iastP C ht hi dX2_appendFault_28 ?_
    refine r_nm (fun G44 hG44 => ?_)
    replace h := h G44 hG44
    refine r_aloadR_n C 0 dX2_appendFault_29 rfl rfl ?_
    refine r_dup C dX2_appendFault_30 rfl ?_
    obtain ⟨ht, h⟩ := h
    refine r_getI C fw_RX2_21 rfl ht dX2_appendFault_31 ?_
    refine r_iconst C 1 dX2_appendFault_34 (by decide) ?_
    refine r_iadd C dX2_appendFault_35 ?_
    obtain ⟨ht, h⟩ := h
    refine r_putI C cw_3 fp_RX2_21 rfl ht dX2_appendFault_36 ?_
    refine r_nm (fun G45 hG45 => ?_)
    replace h := h G45 hG45
    exact r_vret C E0 hr ⟨rfl, h⟩ dX2_appendFault_39
def wX5_init (X : Xt) (G : Gt) (a0 : Nat) (Pr : Gt → Prop) : Prop := gH G + 1 ≤ xC X ∧ gU G + 10 ≤ xS X ∧ ∀ G1, G1 = nA G 10 → gT G1 a0 = (1, 6) ∧ ∀ G2, G2 = sR G1 192 a0 (some (gH G)) → gH G2 + 1 ≤ xC X ∧ gU G2 + 10 ≤ xS X ∧ ∀ G3, G3 = nA G2 10 → gT G3 a0 = (1, 6) ∧ ∀ G4, G4 = sR G3 193 a0 (some (gH G2)) → gT G4 a0 = (1, 6) ∧ ∀ G5, G5 = sI G4 194 a0 0 → gT G5 a0 = (1, 6) ∧ ∀ G6, G6 = sI G5 195 a0 0 → gT G6 a0 = (1, 6) ∧ ∀ G7, G7 = sI G6 196 a0 65535 → gT G7 a0 = (1, 6) ∧ ∀ G8, G8 = sI G7 197 a0 0 → Pr G8
set_option maxRecDepth 20000 in
theorem mX5_init {X : Xt} {l : Launch} (hfl : l.stackTraces = false) {G : Gt} {a0 : Nat} {Pr : Gt → Prop} (h : wX5_init X G a0 Pr) : Mc X l yX5_init (.code yX5_init cX5_init 1 none) 1 20 [.ref a0] G (rV Pr) noX := by
  refine Mc.of (by decide +kernel) hfl [some (.ref a0)] rfl (Nat.le_of_ble_eq_true rfl) rfl ?_
  intro K hL C E0 hr hnm hex
  have B : BX X K l cX5_init 1 RX5 1 20 G none "<init>" := ⟨hL, C, E0, hr, hnm, hex, hfl⟩
  have C : Cx X K cX5_init 1 RX5 1 20 := C
  unfold wX5_init at h
  refine r_aloadR_n C 0 dX5_init_0 rfl rfl ?_
  refine r_objInit C oi_RX5_3 oi_inst oi_code rfl (Nat.le_of_ble_eq_true rfl) (Nat.le_of_ble_eq_true rfl) dX5_init_1 ?_
  refine r_aloadR_n C 0 dX5_init_4 rfl rfl ?_
  refine r_bipush C 10 dX5_init_5 (by decide) ?_
  obtain ⟨hr1, hr2, h⟩ := h
  refine r_newa C 10 (by decide) (by decide) (by decide) ac_int hr1 hr2 dX5_init_7 ?_
  refine r_nm (fun G1 hG1 => ?_)
  replace h := h G1 hG1
  obtain ⟨ht, h⟩ := h
  refine r_putRF C hnm cw_6 fp_RX5_9 rfl ht rfl rfl dX5_init_9 ?_
  refine r_nm (fun G2 hG2 => ?_)
  replace h := h G2 hG2
  refine r_aloadR_n C 0 dX5_init_12 rfl rfl ?_
  refine r_bipush C 10 dX5_init_13 (by decide) ?_
  obtain ⟨hr1, hr2, h⟩ := h
  refine r_newa C 10 (by decide) (by decide) (by decide) ac_int hr1 hr2 dX5_init_15 ?_
  refine r_nm (fun G3 hG3 => ?_)
  replace h := h G3 hG3
  obtain ⟨ht, h⟩ := h
  refine r_putRF C hnm cw_6 fp_RX5_15 rfl ht rfl rfl dX5_init_17 ?_
  refine r_nm (fun G4 hG4 => ?_)
  replace h := h G4 hG4
  refine r_aloadR_n C 0 dX5_init_20 rfl rfl ?_
  refine r_iconst C 0 dX5_init_21 (by decide) ?_
  obtain ⟨ht, h⟩ := h
  refine r_putI C cw_6 fp_RX5_18 rfl ht dX5_init_22 ?_
  refine r_nm (fun G5 hG5 => ?_)
  replace h := h G5 hG5
  refine r_aloadR_n C 0 dX5_init_25 rfl rfl ?_
  refine r_iconst C 0 dX5_init_26 (by decide) ?_
  obtain ⟨ht, h⟩ := h
  refine r_putI C cw_6 fp_RX5_22 rfl ht dX5_init_27 ?_
  refine r_nm (fun G6 hG6 => ?_)
  replace h := h G6 hG6
  refine r_aloadR_n C 0 dX5_init_30 rfl rfl ?_
  refine r_ldc C kc_RX5_25 dX5_init_31 ?_
  obtain ⟨ht, h⟩ := h
  refine r_putI C cw_6 fp_RX5_26 rfl ht dX5_init_33 ?_
  refine r_nm (fun G7 hG7 => ?_)
  replace h := h G7 hG7
  refine r_aloadR_n C 0 dX5_init_36 rfl rfl ?_
  refine r_iconst C 0 dX5_init_37 (by decide) ?_
  obtain ⟨ht, h⟩ := h
  refine r_putZ C cw_6 fp_RX5_29 rfl ht (Or.inl rfl) dX5_init_38 ?_
  refine r_nm (fun G8 hG8 => ?_)
  replace h := h G8 hG8
  exact r_vret C E0 hr ⟨rfl, h⟩ dX5_init_41
def wX5_judge (X : Xt) (G : Gt) (a0 : Nat) (Pr : Int32 → Gt → Prop) : Prop := gT G a0 = (1, 6) ∧ (4 ≤ (gI G 195 a0) → gT G a0 = (1, 6) ∧ ((gI G 195 a0) ≤ 30 → gT G a0 = (1, 6) ∧ ((gI G 197 a0) = 0 → gT G a0 = (1, 6) ∧ (¬ (gI G 196 a0) = 0 → Pr 4 G) ∧ ((gI G 196 a0) = 0 → Pr 0 G)) ∧ (¬ ((gI G 197 a0) = 0) → Pr 3 G)) ∧ (¬ ((gI G 195 a0) ≤ 30) → Pr 2 G)) ∧ (¬ (4 ≤ (gI G 195 a0)) → Pr 1 G)
set_option maxRecDepth 20000 in
theorem mX5_judge {X : Xt} {l : Launch} (hfl : l.stackTraces = false) {G : Gt} {a0 : Nat} {Pr : Int32 → Gt → Prop} (h : wX5_judge X G a0 Pr) : Mc X l yX5_judge (.code yX5_judge cX5_judge 1 (some (.int))) 0 0 [.ref a0] G (rI Pr) noX := by
  refine Mc.of (by decide +kernel) hfl [some (.ref a0)] rfl (Nat.le_of_ble_eq_true rfl) rfl ?_
  intro K hL C E0 hr hnm hex
  have B : BX X K l cX5_judge 1 RX5 0 0 G (some (.int)) "judge" := ⟨hL, C, E0, hr, hnm, hex, hfl⟩
  have C : Cx X K cX5_judge 1 RX5 0 0 := C
  unfold wX5_judge at h
  refine r_aloadR_n C 0 dX5_judge_0 rfl rfl ?_
  obtain ⟨ht, h⟩ := h
  refine r_getI C fw_RX5_22 rfl ht dX5_judge_1 ?_
  refine r_iconst C 4 dX5_judge_4 (by decide) ?_
  refine r_icmp_ge C 10 dX5_judge_5 (by decide) (fun c => ?_) (fun c => ?_)
  · replace h := h.1 c
    refine r_aloadR_n C 0 dX5_judge_10 rfl rfl ?_
    obtain ⟨ht, h⟩ := h
    refine r_getI C fw_RX5_22 rfl ht dX5_judge_11 ?_
    refine r_bipush C 30 dX5_judge_14 (by decide) ?_
    refine r_icmp_le C 21 dX5_judge_16 (by decide) (fun c => ?_) (fun c => ?_)
    · replace h := h.1 c
      refine r_aloadR_n C 0 dX5_judge_21 rfl rfl ?_
      obtain ⟨ht, h⟩ := h
      refine r_getI C fw_RX5_29 rfl ht dX5_judge_22 ?_
      refine r_if_eq C 30 dX5_judge_25 (by decide) (fun c => ?_) (fun c => ?_)
      · replace h := h.1 c
        refine r_aloadR_n C 0 dX5_judge_30 rfl rfl ?_
        obtain ⟨ht, h⟩ := h
        refine r_getI C fw_RX5_26 rfl ht dX5_judge_31 ?_
        refine r_if_ne C 41 dX5_judge_34 (by decide) (fun c => ?_) (fun c => ?_)
        · replace h := h.1 c
          refine r_iconst C 4 dX5_judge_41 (by decide) ?_
          exact r_iret C E0 hr ⟨_, rfl, h⟩ dX5_judge_42
        · replace h := h.2 c
          refine r_iconst C 0 dX5_judge_37 (by decide) ?_
          refine r_goto C 42 dX5_judge_38 (by decide) ?_
          exact r_iret C E0 hr ⟨_, rfl, h⟩ dX5_judge_42
      · replace h := h.2 c
        refine r_iconst C 3 dX5_judge_28 (by decide) ?_
        exact r_iret C E0 hr ⟨_, rfl, h⟩ dX5_judge_29
    · replace h := h.2 c
      refine r_iconst C 2 dX5_judge_19 (by decide) ?_
      exact r_iret C E0 hr ⟨_, rfl, h⟩ dX5_judge_20
  · replace h := h.2 c
    refine r_iconst C 1 dX5_judge_8 (by decide) ?_
    exact r_iret C E0 hr ⟨_, rfl, h⟩ dX5_judge_9
def wX5_close (X : Xt) (G : Gt) (a0 : Nat) (Pr : Gt → Prop) : Prop := gT G a0 = (1, 6) ∧ (¬ (gI G 195 a0) = 0 → gT G a0 = (1, 6) ∧ wJ9_floorMod_7cf53 X G (gI G 194 a0) 10 (fun r21 G22 => gT G22 a0 = (1, 6) ∧ ∃ b23, gR G22 192 a0 = some b23 ∧ gT G22 a0 = (1, 6) ∧ wX5_judge X G22 a0 (fun r24 G25 => (gT G25 b23).1 = 2 ∧ vp_in r21 (gT G25 b23).2 ∧ ∀ G26, G26 = sA G25 b23 (upd (gA G25 b23) r21.toNatClampNeg r24) → gT G26 a0 = (1, 6) ∧ ∃ b27, gR G26 193 a0 = some b27 ∧ gT G26 a0 = (1, 6) ∧ (gT G26 b27).1 = 2 ∧ vp_in r21 (gT G26 b27).2 ∧ ∀ G28, G28 = sA G26 b27 (upd (gA G26 b27) r21.toNatClampNeg (gI G26 195 a0)) → gT G28 a0 = (1, 6) ∧ gT G28 a0 = (1, 6) ∧ ∀ G29, G29 = sI G28 194 a0 ((gI G28 194 a0) + 1) → gT G29 a0 = (1, 6) ∧ ∀ G30, G30 = sI G29 195 a0 0 → gT G30 a0 = (1, 6) ∧ ∀ G31, G31 = sI G30 196 a0 65535 → gT G31 a0 = (1, 6) ∧ ∀ G32, G32 = sI G31 197 a0 0 → Pr G32))) ∧ ((gI G 195 a0) = 0 → Pr G)
set_option maxRecDepth 20000 in
theorem mX5_close {X : Xt} {l : Launch} (hfl : l.stackTraces = false) {G : Gt} {a0 : Nat} {Pr : Gt → Prop} (h : wX5_close X G a0 Pr) : Mc X l yX5_close (.code yX5_close cX5_close 2 none) 1 22 [.ref a0] G (rV Pr) noX := by
  refine Mc.of (by decide +kernel) hfl [some (.ref a0), none] rfl (Nat.le_of_ble_eq_true rfl) rfl ?_
  intro K hL C E0 hr hnm hex
  have B : BX X K l cX5_close 2 RX5 1 22 G none "close" := ⟨hL, C, E0, hr, hnm, hex, hfl⟩
  have C : Cx X K cX5_close 2 RX5 1 22 := C
  unfold wX5_close at h
  refine r_aloadR_n C 0 dX5_close_0 rfl rfl ?_
  obtain ⟨ht, h⟩ := h
  refine r_getI C fw_RX5_22 rfl ht dX5_close_1 ?_
  refine r_if_ne C 8 dX5_close_4 (by decide) (fun c => ?_) (fun c => ?_)
  · replace h := h.1 c
    refine r_aloadR_n C 0 dX5_close_8 rfl rfl ?_
    obtain ⟨ht, h⟩ := h
    refine r_getI C fw_RX5_18 rfl ht dX5_close_9 ?_
    refine r_bipush C 10 dX5_close_12 (by decide) ?_
    refine r_callS C hL yw_J9_floorMod_7cf53 sw_RX5_40 rfl rfl (Nat.le_of_ble_eq_true rfl) ⟨(Nat.le_of_ble_eq_true rfl), (Nat.le_of_ble_eq_true rfl)⟩ (mJ9_floorMod_7cf53 hfl h) rfl dX5_close_14 (kI (fun r21 G22 h => ?_)) kN
    refine r_istore_n C 1 (lv' := [some (.ref a0), some (.int r21)]) dX5_close_17 rfl (Nat.le_of_ble_eq_true rfl) rfl rfl ?_
    refine r_aloadR_n C 0 dX5_close_18 rfl rfl ?_
    obtain ⟨ht, h⟩ := h
    obtain ⟨b23, hb, h⟩ := h
    refine r_getR C fw_RX5_9 rfl ht hb dX5_close_19 ?_
    refine r_iload_n C 1 dX5_close_22 rfl rfl ?_
    refine r_aloadR_n C 0 dX5_close_23 rfl rfl ?_
    obtain ⟨ht, h⟩ := h
    refine r_callV C (r := (RX5, TX5, 6)) hL yw_X5_judge vw_RX5_45 rfl rfl ht rfl rfl (Nat.le_of_ble_eq_true rfl) ⟨(Nat.le_of_ble_eq_true rfl), (Nat.le_of_ble_eq_true rfl)⟩ (mX5_judge hfl h) rfl dX5_close_24 (kI (fun r24 G25 h => ?_)) kN
    obtain ⟨ht, hi, h⟩ := h
    refine r_iastP C ht hi dX5_close_27 ?_
    refine r_nm (fun G26 hG26 => ?_)
    replace h := h G26 hG26
    refine r_aloadR_n C 0 dX5_close_28 rfl rfl ?_
    obtain ⟨ht, h⟩ := h
    obtain ⟨b27, hb, h⟩ := h
    refine r_getR C fw_RX5_15 rfl ht hb dX5_close_29 ?_
    refine r_iload_n C 1 dX5_close_32 rfl rfl ?_
    refine r_aloadR_n C 0 dX5_close_33 rfl rfl ?_
    obtain ⟨ht, h⟩ := h
    refine r_getI C fw_RX5_22 rfl ht dX5_close_34 ?_
    obtain ⟨ht, hi, h⟩ := h
    refine r_iastP C ht hi dX5_close_37 ?_
    refine r_nm (fun G28 hG28 => ?_)
    replace h := h G28 hG28
    refine r_aloadR_n C 0 dX5_close_38 rfl rfl ?_
    refine r_dup C dX5_close_39 rfl ?_
    obtain ⟨ht, h⟩ := h
    refine r_getI C fw_RX5_18 rfl ht dX5_close_40 ?_
    refine r_iconst C 1 dX5_close_43 (by decide) ?_
    refine r_iadd C dX5_close_44 ?_
    obtain ⟨ht, h⟩ := h
    refine r_putI C cw_6 fp_RX5_18 rfl ht dX5_close_45 ?_
    refine r_nm (fun G29 hG29 => ?_)
    replace h := h G29 hG29
    refine r_aloadR_n C 0 dX5_close_48 rfl rfl ?_
    refine r_iconst C 0 dX5_close_49 (by decide) ?_
    obtain ⟨ht, h⟩ := h
    refine r_putI C cw_6 fp_RX5_22 rfl ht dX5_close_50 ?_
    refine r_nm (fun G30 hG30 => ?_)
    replace h := h G30 hG30
    refine r_aloadR_n C 0 dX5_close_53 rfl rfl ?_
    refine r_ldc C kc_RX5_25 dX5_close_54 ?_
    obtain ⟨ht, h⟩ := h
    refine r_putI C cw_6 fp_RX5_26 rfl ht dX5_close_56 ?_
    refine r_nm (fun G31 hG31 => ?_)
    replace h := h G31 hG31
    refine r_aloadR_n C 0 dX5_close_59 rfl rfl ?_
    refine r_iconst C 0 dX5_close_60 (by decide) ?_
    obtain ⟨ht, h⟩ := h
    refine r_putZ C cw_6 fp_RX5_29 rfl ht (Or.inl rfl) dX5_close_61 ?_
    refine r_nm (fun G32 hG32 => ?_)
    replace h := h G32 hG32
    exact r_vret C E0 hr ⟨rfl, h⟩ dX5_close_64
  · replace h := h.2 c
    exact r_vret C E0 hr ⟨rfl, h⟩ dX5_close_7
def wX5_hear_29 (X : Xt) (Pr : Gt → Prop) (G : Gt) (a0 : Nat) (x1 : Int32) : Prop := gT G a0 = (1, 6) ∧ wX9_nextSum X G (gI G 196 a0) x1 (fun r1 G2 => gT G2 a0 = (1, 6) ∧ ∀ G3, G3 = sI G2 196 a0 r1 → gT G3 a0 = (1, 6) ∧ gT G3 a0 = (1, 6) ∧ ∀ G4, G4 = sI G3 195 a0 ((gI G3 195 a0) + 1) → Pr G4)
set_option maxRecDepth 20000 in
theorem bX5_hear_29 {X : Xt} {K : Kt} {l : Launch} {G0 : Gt} {Pr : Gt → Prop} (B : BX X K l cX5_hear 3 RX5 2 43 G0 none "hear") {G : Gt} {a0 : Nat} {x1 : Int32} (h : wX5_hear_29 X Pr G a0 x1) : WM X K (QM X K G0 (rV Pr) noX) G 29 [some (.ref a0), some (.int x1), none] [] := by
  obtain ⟨hL, C, E0, hr, hnm, hex, hfl⟩ := id B
  unfold wX5_hear_29 at h
  refine r_aloadR_n C 0 dX5_hear_29 rfl rfl ?_
  refine r_aloadR_n C 0 dX5_hear_30 rfl rfl ?_
  obtain ⟨ht, h⟩ := h
  refine r_getI C fw_RX5_26 rfl ht dX5_hear_31 ?_
  refine r_iload_n C 1 dX5_hear_34 rfl rfl ?_
  refine r_callNS C hL yw_X9_nextSum ns_RX5_36 rfl rfl (Nat.le_of_ble_eq_true rfl) ⟨(Nat.le_of_ble_eq_true rfl), (Nat.le_of_ble_eq_true rfl)⟩ (mX9_nextSum hfl h) rfl dX5_hear_35 (kI (fun r1 G2 h => ?_)) kN
  obtain ⟨ht, h⟩ := h
  refine r_putI C cw_6 fp_RX5_26 rfl ht dX5_hear_38 ?_
  refine r_nm (fun G3 hG3 => ?_)
  replace h := h G3 hG3
  refine r_aloadR_n C 0 dX5_hear_41 rfl rfl ?_
  refine r_dup C dX5_hear_42 rfl ?_
  obtain ⟨ht, h⟩ := h
  refine r_getI C fw_RX5_22 rfl ht dX5_hear_43 ?_
  refine r_iconst C 1 dX5_hear_46 (by decide) ?_
  refine r_iadd C dX5_hear_47 ?_
  obtain ⟨ht, h⟩ := h
  refine r_putI C cw_6 fp_RX5_22 rfl ht dX5_hear_48 ?_
  refine r_nm (fun G4 hG4 => ?_)
  replace h := h G4 hG4
  exact r_vret C E0 hr ⟨rfl, h⟩ dX5_hear_51
def wX5_hear (X : Xt) (G : Gt) (a0 : Nat) (x1 : Int32) (x2 : Int32) (Pr : Gt → Prop) : Prop := (x2 < 4 → (x2 < 2 → wX5_hear_29 X Pr G a0 x1) ∧ (¬ (x2 < 2) → gT G a0 = (1, 6) ∧ ((gI G 195 a0) ≤ 0 → wX5_hear_29 X Pr G a0 x1) ∧ (¬ ((gI G 195 a0) ≤ 0) → gT G a0 = (1, 6) ∧ ∀ G101, G101 = sI G 197 a0 1 → wX5_hear_29 X Pr G101 a0 x1))) ∧ (¬ (x2 < 4) → gT G a0 = (1, 6) ∧ wX5_close X G a0 (fun G41 => wX5_hear_29 X Pr G41 a0 x1))
set_option maxRecDepth 20000 in
theorem mX5_hear {X : Xt} {l : Launch} (hfl : l.stackTraces = false) {G : Gt} {a0 : Nat} {x1 : Int32} {x2 : Int32} {Pr : Gt → Prop} (h : wX5_hear X G a0 x1 x2 Pr) : Mc X l yX5_hear (.code yX5_hear cX5_hear 3 none) 2 43 [.ref a0, .int x1, .int x2] G (rV Pr) noX := by
  refine Mc.of (by decide +kernel) hfl [some (.ref a0), some (.int x1), some (.int x2)] rfl (Nat.le_of_ble_eq_true rfl) rfl ?_
  intro K hL C E0 hr hnm hex
  have B : BX X K l cX5_hear 3 RX5 2 43 G none "hear" := ⟨hL, C, E0, hr, hnm, hex, hfl⟩
  have C : Cx X K cX5_hear 3 RX5 2 43 := C
  unfold wX5_hear at h
  refine r_iload_n C 2 dX5_hear_0 rfl rfl ?_
  refine r_iconst C 4 dX5_hear_1 (by decide) ?_
  refine r_icmp_lt C 12 dX5_hear_2 (by decide) (fun c => ?_) (fun c => ?_)
  · replace h := h.1 c
    refine r_iload_n C 2 dX5_hear_12 rfl rfl ?_
    refine r_iconst C 2 dX5_hear_13 (by decide) ?_
    refine r_icmp_lt C 29 dX5_hear_14 (by decide) (fun c => ?_) (fun c => ?_)
    · replace h := h.1 c
      refine r_fg (lv' := [some (.ref a0), some (.int x1), none]) (show fgt _ _ from ⟨rfl, ⟨rfl, trivial⟩⟩) ?_
      exact bX5_hear_29 B h
    · replace h := h.2 c
      refine r_aloadR_n C 0 dX5_hear_17 rfl rfl ?_
      obtain ⟨ht, h⟩ := h
      refine r_getI C fw_RX5_22 rfl ht dX5_hear_18 ?_
      refine r_if_le C 29 dX5_hear_21 (by decide) (fun c => ?_) (fun c => ?_)
      · replace h := h.1 c
        refine r_fg (lv' := [some (.ref a0), some (.int x1), none]) (show fgt _ _ from ⟨rfl, ⟨rfl, trivial⟩⟩) ?_
        exact bX5_hear_29 B h
      · replace h := h.2 c
        refine r_aloadR_n C 0 dX5_hear_24 rfl rfl ?_
        refine r_iconst C 1 dX5_hear_25 (by decide) ?_
        obtain ⟨ht, h⟩ := h
        refine r_putZ C cw_6 fp_RX5_29 rfl ht (Or.inr rfl) dX5_hear_26 ?_
        refine r_nm (fun G101 hG101 => ?_)
        replace h := h G101 hG101
        refine r_fg (lv' := [some (.ref a0), some (.int x1), none]) (show fgt _ _ from ⟨rfl, ⟨rfl, trivial⟩⟩) ?_
        exact bX5_hear_29 B h
  · replace h := h.2 c
    refine r_aloadR_n C 0 dX5_hear_5 rfl rfl ?_
    obtain ⟨ht, h⟩ := h
    refine r_callV C (r := (RX5, TX5, 6)) hL yw_X5_close vw_RX5_33 rfl rfl ht rfl rfl (Nat.le_of_ble_eq_true rfl) ⟨(Nat.le_of_ble_eq_true rfl), (Nat.le_of_ble_eq_true rfl)⟩ (mX5_close hfl h) rfl dX5_hear_6 (kV' (fun G41 h => ?_)) kN
    refine r_goto C 29 dX5_hear_9 (by decide) ?_
    refine r_fg (lv' := [some (.ref a0), some (.int x1), none]) (show fgt _ _ from ⟨rfl, ⟨rfl, trivial⟩⟩) ?_
    exact bX5_hear_29 B h
def wX5_isKept (X : Xt) (G : Gt) (a0 : Nat) (x1 : Int32) (Pr : Int32 → Gt → Prop) : Prop := (x1 < 0 → Pr 0 G) ∧ (¬ (x1 < 0) → (10 ≤ x1 → Pr 0 G) ∧ (¬ (10 ≤ x1) → gT G a0 = (1, 6) ∧ ((gI G 194 a0) ≤ x1 → Pr 0 G) ∧ (¬ ((gI G 194 a0) ≤ x1) → Pr 1 G)))
set_option maxRecDepth 20000 in
theorem mX5_isKept {X : Xt} {l : Launch} (hfl : l.stackTraces = false) {G : Gt} {a0 : Nat} {x1 : Int32} {Pr : Int32 → Gt → Prop} (h : wX5_isKept X G a0 x1 Pr) : Mc X l yX5_isKept (.code yX5_isKept cX5_isKept 2 (some (.boolean))) 0 0 [.ref a0, .int x1] G (rI Pr) noX := by
  refine Mc.of (by decide +kernel) hfl [some (.ref a0), some (.int x1)] rfl (Nat.le_of_ble_eq_true rfl) rfl ?_
  intro K hL C E0 hr hnm hex
  have B : BX X K l cX5_isKept 2 RX5 0 0 G (some (.boolean)) "isKept" := ⟨hL, C, E0, hr, hnm, hex, hfl⟩
  have C : Cx X K cX5_isKept 2 RX5 0 0 := C
  unfold wX5_isKept at h
  refine r_iload_n C 1 dX5_isKept_0 rfl rfl ?_
  refine r_if_lt C 22 dX5_isKept_1 (by decide) (fun c => ?_) (fun c => ?_)
  · replace h := h.1 c
    refine r_iconst C 0 dX5_isKept_22 (by decide) ?_
    exact r_zret C E0 hr (Or.inl rfl) ⟨_, rfl, h⟩ dX5_isKept_23
  · replace h := h.2 c
    refine r_iload_n C 1 dX5_isKept_4 rfl rfl ?_
    refine r_bipush C 10 dX5_isKept_5 (by decide) ?_
    refine r_icmp_ge C 22 dX5_isKept_7 (by decide) (fun c => ?_) (fun c => ?_)
    · replace h := h.1 c
      refine r_iconst C 0 dX5_isKept_22 (by decide) ?_
      exact r_zret C E0 hr (Or.inl rfl) ⟨_, rfl, h⟩ dX5_isKept_23
    · replace h := h.2 c
      refine r_iload_n C 1 dX5_isKept_10 rfl rfl ?_
      refine r_aloadR_n C 0 dX5_isKept_11 rfl rfl ?_
      obtain ⟨ht, h⟩ := h
      refine r_getI C fw_RX5_18 rfl ht dX5_isKept_12 ?_
      refine r_icmp_ge C 22 dX5_isKept_15 (by decide) (fun c => ?_) (fun c => ?_)
      · replace h := h.1 c
        refine r_iconst C 0 dX5_isKept_22 (by decide) ?_
        exact r_zret C E0 hr (Or.inl rfl) ⟨_, rfl, h⟩ dX5_isKept_23
      · replace h := h.2 c
        refine r_iconst C 1 dX5_isKept_18 (by decide) ?_
        refine r_goto C 23 dX5_isKept_19 (by decide) ?_
        exact r_zret C E0 hr (Or.inr rfl) ⟨_, rfl, h⟩ dX5_isKept_23
def wX5_placeOf (X : Xt) (G : Gt) (a0 : Nat) (x1 : Int32) (Pr : Int32 → Gt → Prop) : Prop := gT G a0 = (1, 6) ∧ wJ9_floorMod_7cf53 X G (((gI G 194 a0) - 1) - x1) 10 (fun r1 G2 => Pr r1 G2)
set_option maxRecDepth 20000 in
theorem mX5_placeOf {X : Xt} {l : Launch} (hfl : l.stackTraces = false) {G : Gt} {a0 : Nat} {x1 : Int32} {Pr : Int32 → Gt → Prop} (h : wX5_placeOf X G a0 x1 Pr) : Mc X l yX5_placeOf (.code yX5_placeOf cX5_placeOf 2 (some (.int))) 1 22 [.ref a0, .int x1] G (rI Pr) noX := by
  refine Mc.of (by decide +kernel) hfl [some (.ref a0), some (.int x1)] rfl (Nat.le_of_ble_eq_true rfl) rfl ?_
  intro K hL C E0 hr hnm hex
  have B : BX X K l cX5_placeOf 2 RX5 1 22 G (some (.int)) "placeOf" := ⟨hL, C, E0, hr, hnm, hex, hfl⟩
  have C : Cx X K cX5_placeOf 2 RX5 1 22 := C
  unfold wX5_placeOf at h
  refine r_aloadR_n C 0 dX5_placeOf_0 rfl rfl ?_
  obtain ⟨ht, h⟩ := h
  refine r_getI C fw_RX5_18 rfl ht dX5_placeOf_1 ?_
  refine r_iconst C 1 dX5_placeOf_4 (by decide) ?_
  refine r_isub C dX5_placeOf_5 ?_
  refine r_iload_n C 1 dX5_placeOf_6 rfl rfl ?_
  refine r_isub C dX5_placeOf_7 ?_
  refine r_bipush C 10 dX5_placeOf_8 (by decide) ?_
  refine r_callS C hL yw_J9_floorMod_7cf53 sw_RX5_40 rfl rfl (Nat.le_of_ble_eq_true rfl) ⟨(Nat.le_of_ble_eq_true rfl), (Nat.le_of_ble_eq_true rfl)⟩ (mJ9_floorMod_7cf53 hfl h) rfl dX5_placeOf_10 (kI (fun r1 G2 h => ?_)) kN
  exact r_iret C E0 hr ⟨_, rfl, h⟩ dX5_placeOf_13
def wX6_append (X : Xt) (G : Gt) (a0 : Nat) (a1 : Nat) (Pr : Int32 → Gt → Prop) : Prop := gT G a0 = (1, 7) ∧ ∃ b1, gR G 224 a0 = some b1 ∧ gT G b1 = (1, 0) ∧ wJx4a65c_add_9ea2d X G b1 a1 (fun r2 G3 => gT G3 a0 = (1, 7) ∧ ∃ b4, gR G3 224 a0 = some b4 ∧ gT G3 b4 = (1, 0) ∧ wJx4a65c_size_8abf5 X G3 b4 (fun r5 G6 => Pr (r5 - 1) G6))
set_option maxRecDepth 20000 in
theorem mX6_append {X : Xt} {l : Launch} (hfl : l.stackTraces = false) {G : Gt} {a0 : Nat} {a1 : Nat} {Pr : Int32 → Gt → Prop} (h : wX6_append X G a0 a1 Pr) : Mc X l yX6_append (.code yX6_append cX6_append 2 (some (.int))) 7 171 [.ref a0, .ref a1] G (rI Pr) noX := by
  refine Mc.of (by decide +kernel) hfl [some (.ref a0), some (.ref a1)] rfl (Nat.le_of_ble_eq_true rfl) rfl ?_
  intro K hL C E0 hr hnm hex
  have B : BX X K l cX6_append 2 RX6 7 171 G (some (.int)) "append" := ⟨hL, C, E0, hr, hnm, hex, hfl⟩
  have C : Cx X K cX6_append 2 RX6 7 171 := C
  unfold wX6_append at h
  refine r_aloadR_n C 0 dX6_append_0 rfl rfl ?_
  obtain ⟨ht, h⟩ := h
  obtain ⟨b1, hb, h⟩ := h
  refine r_getR C fw_RX6_12 rfl ht hb dX6_append_1 ?_
  refine r_aloadR_n C 1 dX6_append_4 rfl rfl ?_
  obtain ⟨ht, h⟩ := h
  refine r_callV C (r := (RJx4a65c, TJx4a65c, 3)) hL yw_Jx4a65c_add_9ea2d vw_RX6_61 rfl rfl ht rfl rfl (Nat.le_of_ble_eq_true rfl) ⟨(Nat.le_of_ble_eq_true rfl), (Nat.le_of_ble_eq_true rfl)⟩ (mJx4a65c_add_9ea2d hfl h) rfl dX6_append_5 (kI (fun r2 G3 h => ?_)) kN
  refine r_pop C dX6_append_8 rfl ?_
  refine r_aloadR_n C 0 dX6_append_9 rfl rfl ?_
  obtain ⟨ht, h⟩ := h
  obtain ⟨b4, hb, h⟩ := h
  refine r_getR C fw_RX6_12 rfl ht hb dX6_append_10 ?_
  obtain ⟨ht, h⟩ := h
  refine r_callV C (r := (RJx4a65c, TJx4a65c, 3)) hL yw_Jx4a65c_size_8abf5 vw_RX6_39 rfl rfl ht rfl rfl (Nat.le_of_ble_eq_true rfl) ⟨(Nat.le_of_ble_eq_true rfl), (Nat.le_of_ble_eq_true rfl)⟩ (mJx4a65c_size_8abf5 hfl h) rfl dX6_append_13 (kI (fun r5 G6 h => ?_)) kN
  refine r_iconst C 1 dX6_append_16 (by decide) ?_
  refine r_isub C dX6_append_17 ?_
  exact r_iret C E0 hr ⟨_, rfl, h⟩ dX6_append_18
def wX6_countOf_5 (X : Xt) (Pr : Int32 → Gt → Prop) (Px : String → Gt → Prop) (k5 : Gt → Nat → Int32 → Int32 → Int32 → Int32 → Prop) (G : Gt) (a0 : Nat) (x1 : Int32) (x2 : Int32) (x3 : Int32) (x4 : Int32) : Prop := gT G a0 = (1, 7) ∧ ∃ b1, gR G 224 a0 = some b1 ∧ gT G b1 = (1, 0) ∧ wJx4a65c_size_8abf5 X G b1 (fun r2 G3 => (r2 ≤ x4 → Pr x3 G3) ∧ (¬ (r2 ≤ x4) → gT G3 a0 = (1, 7) ∧ ∃ b44, gR G3 224 a0 = some b44 ∧ gT G3 b44 = (1, 0) ∧ wJx4a65c_get_915e3 X G3 b44 x4 (fun r45 G46 => ∃ b47, r45 = some b47 ∧ gT G46 b47 = (1, 9) ∧ gT G46 b47 = (1, 9) ∧ (¬ (gI G46 288 b47) = x1 → k5 G46 a0 x1 x2 x3 (x4 + 1)) ∧ ((gI G46 288 b47) = x1 → gT G46 b47 = (1, 9) ∧ (¬ (gI G46 295 b47) = x2 → k5 G46 a0 x1 x2 x3 (x4 + 1)) ∧ ((gI G46 295 b47) = x2 → k5 G46 a0 x1 x2 (x3 + 1) (x4 + 1)))) Px))
set_option maxRecDepth 20000 in
theorem bX6_countOf_5 {X : Xt} {K : Kt} {l : Launch} {G0 : Gt} {Pr : Int32 → Gt → Prop} {Px : String → Gt → Prop} (B : BX X K l cX6_countOf 6 RX6 3 64 G0 (some (.int)) "countOf") {k5 : Gt → Nat → Int32 → Int32 → Int32 → Int32 → Prop} (hk5 : ∀ (G : Gt) (a0 : Nat) (x1 : Int32) (x2 : Int32) (x3 : Int32) (x4 : Int32), k5 G a0 x1 x2 x3 x4 → WM X K (QM X K G0 (rI Pr) Px) G 5 [some (.ref a0), some (.int x1), some (.int x2), some (.int x3), some (.int x4), none] []) {G : Gt} {a0 : Nat} {x1 : Int32} {x2 : Int32} {x3 : Int32} {x4 : Int32} (h : wX6_countOf_5 X Pr Px k5 G a0 x1 x2 x3 x4) : WM X K (QM X K G0 (rI Pr) Px) G 5 [some (.ref a0), some (.int x1), some (.int x2), some (.int x3), some (.int x4), none] [] := by
  obtain ⟨hL, C, E0, hr, hnm, hex, hfl⟩ := id B
  unfold wX6_countOf_5 at h
  refine r_iload C dX6_countOf_5 rfl ?_
  refine r_aloadR_n C 0 dX6_countOf_7 rfl rfl ?_
  obtain ⟨ht, h⟩ := h
  obtain ⟨b1, hb, h⟩ := h
  refine r_getR C fw_RX6_12 rfl ht hb dX6_countOf_8 ?_
  obtain ⟨ht, h⟩ := h
  refine r_callV C (r := (RJx4a65c, TJx4a65c, 3)) hL yw_Jx4a65c_size_8abf5 vw_RX6_39 rfl rfl ht rfl rfl (Nat.le_of_ble_eq_true rfl) ⟨(Nat.le_of_ble_eq_true rfl), (Nat.le_of_ble_eq_true rfl)⟩ (mJx4a65c_size_8abf5 hfl h) rfl dX6_countOf_11 (kI (fun r2 G3 h => ?_)) kN
  refine r_icmp_ge C 58 dX6_countOf_14 (by decide) (fun c => ?_) (fun c => ?_)
  · replace h := h.1 c
    refine r_iload_n C 3 dX6_countOf_58 rfl rfl ?_
    exact r_iret C E0 hr ⟨_, rfl, h⟩ dX6_countOf_59
  · replace h := h.2 c
    refine r_aloadR_n C 0 dX6_countOf_17 rfl rfl ?_
    obtain ⟨ht, h⟩ := h
    obtain ⟨b44, hb, h⟩ := h
    refine r_getR C fw_RX6_12 rfl ht hb dX6_countOf_18 ?_
    refine r_iload C dX6_countOf_21 rfl ?_
    obtain ⟨ht, h⟩ := h
    refine r_callV C (r := (RJx4a65c, TJx4a65c, 3)) hL yw_Jx4a65c_get_915e3 vw_RX6_43 rfl rfl ht rfl rfl (Nat.le_of_ble_eq_true rfl) ⟨(Nat.le_of_ble_eq_true rfl), (Nat.le_of_ble_eq_true rfl)⟩ (mJx4a65c_get_915e3 hfl h) rfl dX6_countOf_23 (kA' (fun r45 G46 h => ?_)) (kO C E0 hex)
    obtain ⟨b47, hb, ht, h⟩ := h
    subst hb
    refine r_cast C (r := (RX8, TX8, 11)) rfl cl_RX6_47 ht dX6_countOf_26 ?_
    refine r_astoreR C (lv' := [some (.ref a0), some (.int x1), some (.int x2), some (.int x3), some (.int x4), some (.ref b47)]) dX6_countOf_29 (Nat.le_of_ble_eq_true rfl) rfl rfl ?_
    refine r_aloadR C dX6_countOf_31 rfl ?_
    obtain ⟨ht, h⟩ := h
    refine r_getI C fw_RX6_49 rfl ht dX6_countOf_33 ?_
    refine r_iload_n C 1 dX6_countOf_36 rfl rfl ?_
    refine r_icmp_ne C 52 dX6_countOf_37 (by decide) (fun c => ?_) (fun c => ?_)
    · replace h := h.1 c
      refine r_iinc C 1 (lv' := [some (.ref a0), some (.int x1), some (.int x2), some (.int x3), some (.int (x4 + 1)), some (.ref b47)]) dX6_countOf_52 rfl (by decide) rfl rfl ?_
      refine r_goto C 5 dX6_countOf_55 (by decide) ?_
      refine r_fg (lv' := [some (.ref a0), some (.int x1), some (.int x2), some (.int x3), some (.int (x4 + 1)), none]) (show fgt _ _ from ⟨rfl, ⟨rfl, ⟨rfl, ⟨rfl, ⟨rfl, trivial⟩⟩⟩⟩⟩) ?_
      exact hk5 _ _ _ _ _ _ h
    · replace h := h.2 c
      refine r_aloadR C dX6_countOf_40 rfl ?_
      obtain ⟨ht, h⟩ := h
      refine r_getI C fw_RX6_65 rfl ht dX6_countOf_42 ?_
      refine r_iload_n C 2 dX6_countOf_45 rfl rfl ?_
      refine r_icmp_ne C 52 dX6_countOf_46 (by decide) (fun c => ?_) (fun c => ?_)
      · replace h := h.1 c
        refine r_iinc C 1 (lv' := [some (.ref a0), some (.int x1), some (.int x2), some (.int x3), some (.int (x4 + 1)), some (.ref b47)]) dX6_countOf_52 rfl (by decide) rfl rfl ?_
        refine r_goto C 5 dX6_countOf_55 (by decide) ?_
        refine r_fg (lv' := [some (.ref a0), some (.int x1), some (.int x2), some (.int x3), some (.int (x4 + 1)), none]) (show fgt _ _ from ⟨rfl, ⟨rfl, ⟨rfl, ⟨rfl, ⟨rfl, trivial⟩⟩⟩⟩⟩) ?_
        exact hk5 _ _ _ _ _ _ h
      · replace h := h.2 c
        refine r_iinc C 1 (lv' := [some (.ref a0), some (.int x1), some (.int x2), some (.int (x3 + 1)), some (.int x4), some (.ref b47)]) dX6_countOf_49 rfl (by decide) rfl rfl ?_
        refine r_iinc C 1 (lv' := [some (.ref a0), some (.int x1), some (.int x2), some (.int (x3 + 1)), some (.int (x4 + 1)), some (.ref b47)]) dX6_countOf_52 rfl (by decide) rfl rfl ?_
        refine r_goto C 5 dX6_countOf_55 (by decide) ?_
        refine r_fg (lv' := [some (.ref a0), some (.int x1), some (.int x2), some (.int (x3 + 1)), some (.int (x4 + 1)), none]) (show fgt _ _ from ⟨rfl, ⟨rfl, ⟨rfl, ⟨rfl, ⟨rfl, trivial⟩⟩⟩⟩⟩) ?_
        exact hk5 _ _ _ _ _ _ h
theorem lX6_countOf_5 {X : Xt} {K : Kt} {l : Launch} {G0 : Gt} {Pr : Int32 → Gt → Prop} {Px : String → Gt → Prop} (B : BX X K l cX6_countOf 6 RX6 3 64 G0 (some (.int)) "countOf") (I : Gt → Nat → Int32 → Int32 → Int32 → Int32 → Prop) (μ : Gt → Nat → Int32 → Int32 → Int32 → Int32 → Nat) (hS : ∀ (G : Gt) (a0 : Nat) (x1 : Int32) (x2 : Int32) (x3 : Int32) (x4 : Int32), I G a0 x1 x2 x3 x4 → wX6_countOf_5 X Pr Px (fun G' a0' x1' x2' x3' x4' => I G' a0' x1' x2' x3' x4' ∧ μ G' a0' x1' x2' x3' x4' < μ G a0 x1 x2 x3 x4) G a0 x1 x2 x3 x4) : ∀ (n : Nat) (G : Gt) (a0 : Nat) (x1 : Int32) (x2 : Int32) (x3 : Int32) (x4 : Int32), μ G a0 x1 x2 x3 x4 < n → I G a0 x1 x2 x3 x4 → WM X K (QM X K G0 (rI Pr) Px) G 5 [some (.ref a0), some (.int x1), some (.int x2), some (.int x3), some (.int x4), none] [] := by
  intro n
  induction n with
  | zero => intro G a0 x1 x2 x3 x4 hm; exact absurd hm (Nat.not_lt_zero _)
  | succ n ih =>
    intro G a0 x1 x2 x3 x4 hm hi
    exact bX6_countOf_5 B (fun G' a0' x1' x2' x3' x4' hk => ih G' a0' x1' x2' x3' x4' (Nat.lt_of_lt_of_le hk.2 (Nat.le_of_lt_succ hm)) hk.1) (hS G a0 x1 x2 x3 x4 hi)
def wX6_countOf (X : Xt) (G : Gt) (a0 : Nat) (x1 : Int32) (x2 : Int32) (Pr : Int32 → Gt → Prop) (Px : String → Gt → Prop) : Prop := ∃ (I : Gt → Nat → Int32 → Int32 → Int32 → Int32 → Prop) (μ : Gt → Nat → Int32 → Int32 → Int32 → Int32 → Nat), I G a0 x1 x2 (0 : Int32) (0 : Int32) ∧ ∀ (G : Gt) (a0 : Nat) (x1 : Int32) (x2 : Int32) (x3 : Int32) (x4 : Int32), I G a0 x1 x2 x3 x4 → wX6_countOf_5 X Pr Px (fun G' a0' x1' x2' x3' x4' => I G' a0' x1' x2' x3' x4' ∧ μ G' a0' x1' x2' x3' x4' < μ G a0 x1 x2 x3 x4) G a0 x1 x2 x3 x4
set_option maxRecDepth 20000 in
theorem mX6_countOf {X : Xt} {l : Launch} (hfl : l.stackTraces = false) {G : Gt} {a0 : Nat} {x1 : Int32} {x2 : Int32} {Pr : Int32 → Gt → Prop} {Px : String → Gt → Prop} (h : wX6_countOf X G a0 x1 x2 Pr Px) : Mc X l yX6_countOf (.code yX6_countOf cX6_countOf 6 (some (.int))) 3 64 [.ref a0, .int x1, .int x2] G (rI Pr) Px := by
  refine Mc.of (by decide +kernel) hfl [some (.ref a0), some (.int x1), some (.int x2), none, none, none] rfl (Nat.le_of_ble_eq_true rfl) rfl ?_
  intro K hL C E0 hr hnm hex
  have B : BX X K l cX6_countOf 6 RX6 3 64 G (some (.int)) "countOf" := ⟨hL, C, E0, hr, hnm, hex, hfl⟩
  have C : Cx X K cX6_countOf 6 RX6 3 64 := C
  unfold wX6_countOf at h
  refine r_iconst C 0 dX6_countOf_0 (by decide) ?_
  refine r_istore_n C 3 (lv' := [some (.ref a0), some (.int x1), some (.int x2), some (.int 0), none, none]) dX6_countOf_1 rfl (Nat.le_of_ble_eq_true rfl) rfl rfl ?_
  refine r_iconst C 0 dX6_countOf_2 (by decide) ?_
  refine r_istore C (lv' := [some (.ref a0), some (.int x1), some (.int x2), some (.int 0), some (.int 0), none]) dX6_countOf_3 (Nat.le_of_ble_eq_true rfl) rfl rfl ?_
  obtain ⟨I, μ, hI, hS⟩ := h
  exact lX6_countOf_5 B I μ hS _ _ _ _ _ _ _ (Nat.lt_succ_self _) hI
def wX8_isReadDone (X : Xt) (G : Gt) (a0 : Nat) (Pr : Int32 → Gt → Prop) : Prop := gT G a0 = (1, 9) ∧ (¬ (gI G 293 a0) = 0 → Pr 0 G) ∧ ((gI G 293 a0) = 0 → gT G a0 = (1, 9) ∧ (¬ (gI G 295 a0) = 1 → Pr 0 G) ∧ ((gI G 295 a0) = 1 → Pr 1 G))
set_option maxRecDepth 20000 in
theorem mX8_isReadDone {X : Xt} {l : Launch} (hfl : l.stackTraces = false) {G : Gt} {a0 : Nat} {Pr : Int32 → Gt → Prop} (h : wX8_isReadDone X G a0 Pr) : Mc X l yX8_isReadDone (.code yX8_isReadDone cX8_isReadDone 1 (some (.boolean))) 0 0 [.ref a0] G (rI Pr) noX := by
  refine Mc.of (by decide +kernel) hfl [some (.ref a0)] rfl (Nat.le_of_ble_eq_true rfl) rfl ?_
  intro K hL C E0 hr hnm hex
  have B : BX X K l cX8_isReadDone 1 RX8 0 0 G (some (.boolean)) "isReadDone" := ⟨hL, C, E0, hr, hnm, hex, hfl⟩
  have C : Cx X K cX8_isReadDone 1 RX8 0 0 := C
  unfold wX8_isReadDone at h
  refine r_aloadR_n C 0 dX8_isReadDone_0 rfl rfl ?_
  obtain ⟨ht, h⟩ := h
  refine r_getI C fw_RX8_40 rfl ht dX8_isReadDone_1 ?_
  refine r_if_ne C 19 dX8_isReadDone_4 (by decide) (fun c => ?_) (fun c => ?_)
  · replace h := h.1 c
    refine r_iconst C 0 dX8_isReadDone_19 (by decide) ?_
    exact r_zret C E0 hr (Or.inl rfl) ⟨_, rfl, h⟩ dX8_isReadDone_20
  · replace h := h.2 c
    refine r_aloadR_n C 0 dX8_isReadDone_7 rfl rfl ?_
    obtain ⟨ht, h⟩ := h
    refine r_getI C fw_RX8_9 rfl ht dX8_isReadDone_8 ?_
    refine r_iconst C 1 dX8_isReadDone_11 (by decide) ?_
    refine r_icmp_ne C 19 dX8_isReadDone_12 (by decide) (fun c => ?_) (fun c => ?_)
    · replace h := h.1 c
      refine r_iconst C 0 dX8_isReadDone_19 (by decide) ?_
      exact r_zret C E0 hr (Or.inl rfl) ⟨_, rfl, h⟩ dX8_isReadDone_20
    · replace h := h.2 c
      refine r_iconst C 1 dX8_isReadDone_15 (by decide) ?_
      refine r_goto C 20 dX8_isReadDone_16 (by decide) ?_
      exact r_zret C E0 hr (Or.inr rfl) ⟨_, rfl, h⟩ dX8_isReadDone_20
def wX9_init (X : Xt) (G : Gt) (a0 : Nat) (Pr : Gt → Prop) : Prop := gH G + 1 ≤ xC X ∧ gU G + 11 ≤ xS X ∧ ∀ G1, G1 = nO G 2 11 → wX1_init X G1 (gH G) (fun G2 => gT G2 a0 = (1, 10) ∧ ∀ G3, G3 = sR G2 320 a0 (some (gH G)) → gH G3 + 1 ≤ xC X ∧ gU G3 + 6 ≤ xS X ∧ ∀ G4, G4 = nO G3 6 6 → wX5_init X G4 (gH G3) (fun G5 => gT G5 a0 = (1, 10) ∧ ∀ G6, G6 = sR G5 321 a0 (some (gH G3)) → Pr G6))
set_option maxRecDepth 20000 in
theorem mX9_init {X : Xt} {l : Launch} (hfl : l.stackTraces = false) {G : Gt} {a0 : Nat} {Pr : Gt → Prop} (h : wX9_init X G a0 Pr) : Mc X l yX9_init (.code yX9_init cX9_init 1 none) 6 120 [.ref a0] G (rV Pr) noX := by
  refine Mc.of (by decide +kernel) hfl [some (.ref a0)] rfl (Nat.le_of_ble_eq_true rfl) rfl ?_
  intro K hL C E0 hr hnm hex
  have B : BX X K l cX9_init 1 RX9 6 120 G none "<init>" := ⟨hL, C, E0, hr, hnm, hex, hfl⟩
  have C : Cx X K cX9_init 1 RX9 6 120 := C
  unfold wX9_init at h
  refine r_aloadR_n C 0 dX9_init_0 rfl rfl ?_
  refine r_objInit C oi_RX9_1 oi_inst oi_code rfl (Nat.le_of_ble_eq_true rfl) (Nat.le_of_ble_eq_true rfl) dX9_init_1 ?_
  refine r_aloadR_n C 0 dX9_init_4 rfl rfl ?_
  obtain ⟨hr1, hr2, h⟩ := h
  refine r_new C cw_2 (T := TX1) (N := 11) rfl cl_RX9_7 hr1 hr2 dX9_init_5 ?_
  refine r_nm (fun G1 hG1 => ?_)
  replace h := h G1 hG1
  refine r_dup C dX9_init_8 rfl ?_
  refine r_callNI C hL yw_X1_init ni_RX9_9 rfl rfl (Nat.le_of_ble_eq_true rfl) ⟨(Nat.le_of_ble_eq_true rfl), (Nat.le_of_ble_eq_true rfl)⟩ (mX1_init hfl h) rfl dX9_init_9 (kV' (fun G2 h => ?_)) kN
  obtain ⟨ht, h⟩ := h
  refine r_putRF C hnm cw_10 fp_RX9_10 rfl ht rfl rfl dX9_init_12 ?_
  refine r_nm (fun G3 hG3 => ?_)
  replace h := h G3 hG3
  refine r_aloadR_n C 0 dX9_init_15 rfl rfl ?_
  obtain ⟨hr1, hr2, h⟩ := h
  refine r_new C cw_6 (T := TX5) (N := 6) rfl cl_RX9_16 hr1 hr2 dX9_init_16 ?_
  refine r_nm (fun G4 hG4 => ?_)
  replace h := h G4 hG4
  refine r_dup C dX9_init_19 rfl ?_
  refine r_callNI C hL yw_X5_init ni_RX9_18 rfl rfl (Nat.le_of_ble_eq_true rfl) ⟨(Nat.le_of_ble_eq_true rfl), (Nat.le_of_ble_eq_true rfl)⟩ (mX5_init hfl h) rfl dX9_init_20 (kV' (fun G5 h => ?_)) kN
  obtain ⟨ht, h⟩ := h
  refine r_putRF C hnm cw_10 fp_RX9_19 rfl ht rfl rfl dX9_init_23 ?_
  refine r_nm (fun G6 hG6 => ?_)
  replace h := h G6 hG6
  exact r_vret C E0 hr ⟨rfl, h⟩ dX9_init_26
def wX9_needInRange (X : Xt) (G : Gt) (x0 : Int32) (x1 : Int32) (x2 : Int32) (Pr : Gt → Prop) (Px : String → Gt → Prop) : Prop := (x0 < x1 → gH G + 1 ≤ xC X ∧ gU G + 6 ≤ xS X ∧ ∀ h u, gH G ≤ h → h ≤ gH G + 1 → gU G ≤ u → u ≤ gU G + 6 → Px "java/lang/IllegalArgumentException" (nX G h u)) ∧ (¬ (x0 < x1) → (x0 ≤ x2 → Pr G) ∧ (¬ (x0 ≤ x2) → gH G + 1 ≤ xC X ∧ gU G + 6 ≤ xS X ∧ ∀ h u, gH G ≤ h → h ≤ gH G + 1 → gU G ≤ u → u ≤ gU G + 6 → Px "java/lang/IllegalArgumentException" (nX G h u)))
set_option maxRecDepth 20000 in
theorem mX9_needInRange {X : Xt} {l : Launch} (hfl : l.stackTraces = false) {G : Gt} {x0 : Int32} {x1 : Int32} {x2 : Int32} {Pr : Gt → Prop} {Px : String → Gt → Prop} (h : wX9_needInRange X G x0 x1 x2 Pr Px) : Mc X l yX9_needInRange (.code yX9_needInRange cX9_needInRange 3 none) 6 100 [.int x0, .int x1, .int x2] G (rV Pr) Px := by
  refine Mc.of (by decide +kernel) hfl [some (.int x0), some (.int x1), some (.int x2)] rfl (Nat.le_of_ble_eq_true rfl) rfl ?_
  intro K hL C E0 hr hnm hex
  have B : BX X K l cX9_needInRange 3 RX9 6 100 G none "needInRange" := ⟨hL, C, E0, hr, hnm, hex, hfl⟩
  have C : Cx X K cX9_needInRange 3 RX9 6 100 := C
  unfold wX9_needInRange at h
  refine r_iload_n C 0 dX9_needInRange_0 rfl rfl ?_
  refine r_iload_n C 1 dX9_needInRange_1 rfl rfl ?_
  refine r_icmp_lt C 10 dX9_needInRange_2 (by decide) (fun c => ?_) (fun c => ?_)
  · replace h := h.1 c
    exact r_throwW hL hfl C E0 hex th_RX9_281_285 st_RX9_283 h rfl (Nat.le_of_ble_eq_true rfl) (Nat.le_of_ble_eq_true rfl) dX9_needInRange_10 dX9_needInRange_13 dX9_needInRange_14 dX9_needInRange_17 dX9_needInRange_20
  · replace h := h.2 c
    refine r_iload_n C 0 dX9_needInRange_5 rfl rfl ?_
    refine r_iload_n C 2 dX9_needInRange_6 rfl rfl ?_
    refine r_icmp_le C 21 dX9_needInRange_7 (by decide) (fun c => ?_) (fun c => ?_)
    · replace h := h.1 c
      exact r_vret C E0 hr ⟨rfl, h⟩ dX9_needInRange_21
    · replace h := h.2 c
      exact r_throwW hL hfl C E0 hex th_RX9_281_285 st_RX9_283 h rfl (Nat.le_of_ble_eq_true rfl) (Nat.le_of_ble_eq_true rfl) dX9_needInRange_10 dX9_needInRange_13 dX9_needInRange_14 dX9_needInRange_17 dX9_needInRange_20
def wX9_set (X : Xt) (G : Gt) (a0 : Nat) (x1 : Int32) (x2 : Int32) (Pr : Int32 → Gt → Prop) (Px : String → Gt → Prop) : Prop := (x1 < 0 → gH G + 1 ≤ xC X ∧ gU G + 6 ≤ xS X ∧ ∀ h u, gH G ≤ h → h ≤ gH G + 1 → gU G ≤ u → u ≤ gU G + 6 → Px "java/lang/IndexOutOfBoundsException" (nX G h u)) ∧ (¬ (x1 < 0) → (x1 < 5 → vp_in x1 5 ∧ vp_in x1 5 ∧ wX9_needInRange X G x2 (lst0 x1.toNatClampNeg) (lst1 x1.toNatClampNeg) (fun G61 => gT G61 a0 = (1, 10) ∧ ∃ b62, gR G61 320 a0 = some b62 ∧ gT G61 b62 = (1, 2) ∧ ∃ b63, gR G61 64 b62 = some b63 ∧ (gT G61 b63).1 = 2 ∧ vp_in x1 (gT G61 b63).2 ∧ gT G61 a0 = (1, 10) ∧ ∃ b64, gR G61 320 a0 = some b64 ∧ gT G61 b64 = (1, 2) ∧ ∃ b65, gR G61 64 b64 = some b65 ∧ (gT G61 b65).1 = 2 ∧ vp_in x1 (gT G61 b65).2 ∧ ∀ G66, G66 = sA G61 b65 (upd (gA G61 b65) x1.toNatClampNeg x2) → Pr (gA G61 b63 x1.toNatClampNeg) G66) Px) ∧ (¬ (x1 < 5) → gH G + 1 ≤ xC X ∧ gU G + 6 ≤ xS X ∧ ∀ h u, gH G ≤ h → h ≤ gH G + 1 → gU G ≤ u → u ≤ gU G + 6 → Px "java/lang/IndexOutOfBoundsException" (nX G h u)))
set_option maxRecDepth 20000 in
theorem mX9_set {X : Xt} {l : Launch} (hfl : l.stackTraces = false) {G : Gt} {a0 : Nat} {x1 : Int32} {x2 : Int32} {Pr : Int32 → Gt → Prop} {Px : String → Gt → Prop} (h : wX9_set X G a0 x1 x2 Pr Px) : Mc X l yX9_set (.code yX9_set cX9_set 4 (some (.int))) 7 122 [.ref a0, .int x1, .int x2] G (rI Pr) Px := by
  refine Mc.of (by decide +kernel) hfl [some (.ref a0), some (.int x1), some (.int x2), none] rfl (Nat.le_of_ble_eq_true rfl) rfl ?_
  intro K hL C E0 hr hnm hex
  have B : BX X K l cX9_set 4 RX9 7 122 G (some (.int)) "set" := ⟨hL, C, E0, hr, hnm, hex, hfl⟩
  have C : Cx X K cX9_set 4 RX9 7 122 := C
  unfold wX9_set at h
  refine r_iload_n C 1 dX9_set_0 rfl rfl ?_
  refine r_if_lt C 9 dX9_set_1 (by decide) (fun c => ?_) (fun c => ?_)
  · replace h := h.1 c
    exact r_throw hL hfl C E0 hex th_RX9_23_27 st_RX9_25 h rfl (Nat.le_of_ble_eq_true rfl) (Nat.le_of_ble_eq_true rfl) dX9_set_9 dX9_set_12 dX9_set_13 dX9_set_15 dX9_set_18
  · replace h := h.2 c
    refine r_iload_n C 1 dX9_set_4 rfl rfl ?_
    refine r_iconst C 5 dX9_set_5 (by decide) ?_
    refine r_icmp_lt C 19 dX9_set_6 (by decide) (fun c => ?_) (fun c => ?_)
    · replace h := h.1 c
      refine r_iload_n C 2 dX9_set_19 rfl rfl ?_
      refine r_gets0 C sl_RX9_30 dX9_set_20 ?_
      refine r_iload_n C 1 dX9_set_23 rfl rfl ?_
      obtain ⟨hi, h⟩ := h
      refine r_iald0 C hi dX9_set_24 ?_
      refine r_gets1 C sl_RX9_34 dX9_set_25 ?_
      refine r_iload_n C 1 dX9_set_28 rfl rfl ?_
      obtain ⟨hi, h⟩ := h
      refine r_iald1 C hi dX9_set_29 ?_
      refine r_callS C hL yw_X9_needInRange sw_RX9_37 rfl rfl (Nat.le_of_ble_eq_true rfl) ⟨(Nat.le_of_ble_eq_true rfl), (Nat.le_of_ble_eq_true rfl)⟩ (mX9_needInRange hfl h) rfl dX9_set_30 (kV' (fun G61 h => ?_)) (kO C E0 hex)
      refine r_aloadR_n C 0 dX9_set_33 rfl rfl ?_
      obtain ⟨ht, h⟩ := h
      obtain ⟨b62, hb, h⟩ := h
      refine r_getR C fw_RX9_10 rfl ht hb dX9_set_34 ?_
      obtain ⟨ht, h⟩ := h
      obtain ⟨b63, hb, h⟩ := h
      refine r_getR C fw_RX9_41 rfl ht hb dX9_set_37 ?_
      refine r_iload_n C 1 dX9_set_40 rfl rfl ?_
      obtain ⟨ht, hi, h⟩ := h
      refine r_ialdP C ht hi dX9_set_41 ?_
      refine r_istore_n C 3 (lv' := [some (.ref a0), some (.int x1), some (.int x2), some (.int (gA G61 b63 x1.toNatClampNeg))]) dX9_set_42 rfl (Nat.le_of_ble_eq_true rfl) rfl rfl ?_
      refine r_aloadR_n C 0 dX9_set_43 rfl rfl ?_
      obtain ⟨ht, h⟩ := h
      obtain ⟨b64, hb, h⟩ := h
      refine r_getR C fw_RX9_10 rfl ht hb dX9_set_44 ?_
      obtain ⟨ht, h⟩ := h
      obtain ⟨b65, hb, h⟩ := h
      refine r_getR C fw_RX9_41 rfl ht hb dX9_set_47 ?_
      refine r_iload_n C 1 dX9_set_50 rfl rfl ?_
      refine r_iload_n C 2 dX9_set_51 rfl rfl ?_
      obtain ⟨ht, hi, h⟩ := h
      refine r_iastP C ht hi dX9_set_52 ?_
      refine r_nm (fun G66 hG66 => ?_)
      replace h := h G66 hG66
      refine r_iload_n C 3 dX9_set_53 rfl rfl ?_
      exact r_iret C E0 hr ⟨_, rfl, h⟩ dX9_set_54
    · replace h := h.2 c
      exact r_throw hL hfl C E0 hex th_RX9_23_27 st_RX9_25 h rfl (Nat.le_of_ble_eq_true rfl) (Nat.le_of_ble_eq_true rfl) dX9_set_9 dX9_set_12 dX9_set_13 dX9_set_15 dX9_set_18
def wX9_needDevice (X : Xt) (G : Gt) (x0 : Int32) (Pr : Gt → Prop) (Px : String → Gt → Prop) : Prop := (x0 < 1 → gH G + 1 ≤ xC X ∧ gU G + 6 ≤ xS X ∧ ∀ h u, gH G ≤ h → h ≤ gH G + 1 → gU G ≤ u → u ≤ gU G + 6 → Px "java/lang/IndexOutOfBoundsException" (nX G h u)) ∧ (¬ (x0 < 1) → (x0 ≤ 3 → Pr G) ∧ (¬ (x0 ≤ 3) → gH G + 1 ≤ xC X ∧ gU G + 6 ≤ xS X ∧ ∀ h u, gH G ≤ h → h ≤ gH G + 1 → gU G ≤ u → u ≤ gU G + 6 → Px "java/lang/IndexOutOfBoundsException" (nX G h u)))
set_option maxRecDepth 20000 in
theorem mX9_needDevice {X : Xt} {l : Launch} (hfl : l.stackTraces = false) {G : Gt} {x0 : Int32} {Pr : Gt → Prop} {Px : String → Gt → Prop} (h : wX9_needDevice X G x0 Pr Px) : Mc X l yX9_needDevice (.code yX9_needDevice cX9_needDevice 1 none) 6 100 [.int x0] G (rV Pr) Px := by
  refine Mc.of (by decide +kernel) hfl [some (.int x0)] rfl (Nat.le_of_ble_eq_true rfl) rfl ?_
  intro K hL C E0 hr hnm hex
  have B : BX X K l cX9_needDevice 1 RX9 6 100 G none "needDevice" := ⟨hL, C, E0, hr, hnm, hex, hfl⟩
  have C : Cx X K cX9_needDevice 1 RX9 6 100 := C
  unfold wX9_needDevice at h
  refine r_iload_n C 0 dX9_needDevice_0 rfl rfl ?_
  refine r_iconst C 1 dX9_needDevice_1 (by decide) ?_
  refine r_icmp_lt C 10 dX9_needDevice_2 (by decide) (fun c => ?_) (fun c => ?_)
  · replace h := h.1 c
    exact r_throwW hL hfl C E0 hex th_RX9_23_27 st_RX9_288 h rfl (Nat.le_of_ble_eq_true rfl) (Nat.le_of_ble_eq_true rfl) dX9_needDevice_10 dX9_needDevice_13 dX9_needDevice_14 dX9_needDevice_17 dX9_needDevice_20
  · replace h := h.2 c
    refine r_iload_n C 0 dX9_needDevice_5 rfl rfl ?_
    refine r_iconst C 3 dX9_needDevice_6 (by decide) ?_
    refine r_icmp_le C 21 dX9_needDevice_7 (by decide) (fun c => ?_) (fun c => ?_)
    · replace h := h.1 c
      exact r_vret C E0 hr ⟨rfl, h⟩ dX9_needDevice_21
    · replace h := h.2 c
      exact r_throwW hL hfl C E0 hex th_RX9_23_27 st_RX9_288 h rfl (Nat.le_of_ble_eq_true rfl) (Nat.le_of_ble_eq_true rfl) dX9_needDevice_10 dX9_needDevice_13 dX9_needDevice_14 dX9_needDevice_17 dX9_needDevice_20
def wX9_setDevice_70 (X : Xt) (Pr : Int32 → Gt → Prop) (Px : String → Gt → Prop) (G : Gt) (x2 : Int32) (x3 : Int32) (a4 : Nat) (sx0 : Int32) : Prop := (¬ x2 = 0 → gT G a4 = (1, 3) ∧ ∀ G21, G21 = sI G 101 a4 x3 → Pr sx0 G21) ∧ (x2 = 0 → gT G a4 = (1, 3) ∧ ∀ G41, G41 = sI G 102 a4 x3 → Pr sx0 G41)
set_option maxRecDepth 20000 in
theorem bX9_setDevice_70 {X : Xt} {K : Kt} {l : Launch} {G0 : Gt} {Pr : Int32 → Gt → Prop} {Px : String → Gt → Prop} (B : BX X K l cX9_setDevice 6 RX9 7 122 G0 (some (.int)) "setDevice") {G : Gt} {x2 : Int32} {x3 : Int32} {a4 : Nat} {sx0 : Int32} (h : wX9_setDevice_70 X Pr Px G x2 x3 a4 sx0) : WM X K (QM X K G0 (rI Pr) Px) G 70 [none, none, some (.int x2), some (.int x3), some (.ref a4), none] [.int sx0] := by
  obtain ⟨hL, C, E0, hr, hnm, hex, hfl⟩ := id B
  unfold wX9_setDevice_70 at h
  refine r_istore C (lv' := [none, none, some (.int x2), some (.int x3), some (.ref a4), some (.int sx0)]) dX9_setDevice_70 (Nat.le_of_ble_eq_true rfl) rfl rfl ?_
  refine r_iload_n C 2 dX9_setDevice_72 rfl rfl ?_
  refine r_if_ne C 85 dX9_setDevice_73 (by decide) (fun c => ?_) (fun c => ?_)
  · replace h := h.1 c
    refine r_aloadR C dX9_setDevice_85 rfl ?_
    refine r_iload_n C 3 dX9_setDevice_87 rfl rfl ?_
    obtain ⟨ht, h⟩ := h
    refine r_putI C cw_3 fp_RX9_61 rfl ht dX9_setDevice_88 ?_
    refine r_nm (fun G21 hG21 => ?_)
    replace h := h G21 hG21
    refine r_iload C dX9_setDevice_91 rfl ?_
    exact r_iret C E0 hr ⟨_, rfl, h⟩ dX9_setDevice_93
  · replace h := h.2 c
    refine r_aloadR C dX9_setDevice_76 rfl ?_
    refine r_iload_n C 3 dX9_setDevice_78 rfl rfl ?_
    obtain ⟨ht, h⟩ := h
    refine r_putI C cw_3 fp_RX9_55 rfl ht dX9_setDevice_79 ?_
    refine r_nm (fun G41 hG41 => ?_)
    replace h := h G41 hG41
    refine r_goto C 91 dX9_setDevice_82 (by decide) ?_
    refine r_iload C dX9_setDevice_91 rfl ?_
    exact r_iret C E0 hr ⟨_, rfl, h⟩ dX9_setDevice_93
def wX9_setDevice_37 (X : Xt) (Pr : Int32 → Gt → Prop) (Px : String → Gt → Prop) (G : Gt) (a0 : Nat) (x1 : Int32) (x2 : Int32) (x3 : Int32) (sx0 : Int32) (sx1 : Int32) (sx2 : Int32) : Prop := wX9_needInRange X G sx0 sx1 sx2 (fun G1 => gT G1 a0 = (1, 10) ∧ ∃ b2, gR G1 320 a0 = some b2 ∧ gT G1 b2 = (1, 2) ∧ ∃ b3, gR G1 66 b2 = some b3 ∧ (gT G1 b3).1 = 4 ∧ vp_in (x1 - 1) (gT G1 b3).2 ∧ ∃ b4, gB G1 b3 (x1 - 1).toNatClampNeg = some b4 ∧ (¬ x2 = 0 → gT G1 b4 = (1, 3) ∧ wX9_setDevice_70 X Pr Px G1 x2 x3 b4 (gI G1 101 b4)) ∧ (x2 = 0 → gT G1 b4 = (1, 3) ∧ wX9_setDevice_70 X Pr Px G1 x2 x3 b4 (gI G1 102 b4))) Px
set_option maxRecDepth 20000 in
theorem bX9_setDevice_37 {X : Xt} {K : Kt} {l : Launch} {G0 : Gt} {Pr : Int32 → Gt → Prop} {Px : String → Gt → Prop} (B : BX X K l cX9_setDevice 6 RX9 7 122 G0 (some (.int)) "setDevice") {G : Gt} {a0 : Nat} {x1 : Int32} {x2 : Int32} {x3 : Int32} {sx0 : Int32} {sx1 : Int32} {sx2 : Int32} (h : wX9_setDevice_37 X Pr Px G a0 x1 x2 x3 sx0 sx1 sx2) : WM X K (QM X K G0 (rI Pr) Px) G 37 [some (.ref a0), some (.int x1), some (.int x2), some (.int x3), none, none] [.int sx2, .int sx1, .int sx0] := by
  obtain ⟨hL, C, E0, hr, hnm, hex, hfl⟩ := id B
  unfold wX9_setDevice_37 at h
  refine r_callS C hL yw_X9_needInRange sw_RX9_37 rfl rfl (Nat.le_of_ble_eq_true rfl) ⟨(Nat.le_of_ble_eq_true rfl), (Nat.le_of_ble_eq_true rfl)⟩ (mX9_needInRange hfl h) rfl dX9_setDevice_37 (kV' (fun G1 h => ?_)) (kO C E0 hex)
  refine r_aloadR_n C 0 dX9_setDevice_40 rfl rfl ?_
  obtain ⟨ht, h⟩ := h
  obtain ⟨b2, hb, h⟩ := h
  refine r_getR C fw_RX9_10 rfl ht hb dX9_setDevice_41 ?_
  obtain ⟨ht, h⟩ := h
  obtain ⟨b3, hb, h⟩ := h
  refine r_getR C fw_RX9_51 rfl ht hb dX9_setDevice_44 ?_
  refine r_iload_n C 1 dX9_setDevice_47 rfl rfl ?_
  refine r_iconst C 1 dX9_setDevice_48 (by decide) ?_
  refine r_isub C dX9_setDevice_49 ?_
  obtain ⟨ht, hi, h⟩ := h
  obtain ⟨b4, hb, h⟩ := h
  refine r_aald4P C ht hi hb dX9_setDevice_50 ?_
  refine r_astoreR C (lv' := [some (.ref a0), some (.int x1), some (.int x2), some (.int x3), some (.ref b4), none]) dX9_setDevice_51 (Nat.le_of_ble_eq_true rfl) rfl rfl ?_
  refine r_iload_n C 2 dX9_setDevice_53 rfl rfl ?_
  refine r_if_ne C 65 dX9_setDevice_54 (by decide) (fun c => ?_) (fun c => ?_)
  · replace h := h.1 c
    refine r_aloadR C dX9_setDevice_65 rfl ?_
    obtain ⟨ht, h⟩ := h
    refine r_getI C fw_RX9_61 rfl ht dX9_setDevice_67 ?_
    refine r_fg (lv' := [none, none, some (.int x2), some (.int x3), some (.ref b4), none]) (show fgt _ _ from ⟨rfl, ⟨rfl, ⟨rfl, trivial⟩⟩⟩) ?_
    exact bX9_setDevice_70 B h
  · replace h := h.2 c
    refine r_aloadR C dX9_setDevice_57 rfl ?_
    obtain ⟨ht, h⟩ := h
    refine r_getI C fw_RX9_55 rfl ht dX9_setDevice_59 ?_
    refine r_goto C 70 dX9_setDevice_62 (by decide) ?_
    refine r_fg (lv' := [none, none, some (.int x2), some (.int x3), some (.ref b4), none]) (show fgt _ _ from ⟨rfl, ⟨rfl, ⟨rfl, trivial⟩⟩⟩) ?_
    exact bX9_setDevice_70 B h
def wX9_setDevice (X : Xt) (G : Gt) (a0 : Nat) (x1 : Int32) (x2 : Int32) (x3 : Int32) (Pr : Int32 → Gt → Prop) (Px : String → Gt → Prop) : Prop := wX9_needDevice X G x1 (fun G1 => (x2 < 0 → gH G1 + 1 ≤ xC X ∧ gU G1 + 6 ≤ xS X ∧ ∀ h u, gH G1 ≤ h → h ≤ gH G1 + 1 → gU G1 ≤ u → u ≤ gU G1 + 6 → Px "java/lang/IndexOutOfBoundsException" (nX G1 h u)) ∧ (¬ (x2 < 0) → (x2 ≤ 1 → (¬ x2 = 0 → wX9_setDevice_37 X Pr Px G1 a0 x1 x2 x3 x3 (0 : Int32) (65535 : Int32)) ∧ (x2 = 0 → wX9_setDevice_37 X Pr Px G1 a0 x1 x2 x3 x3 (0 : Int32) (1000 : Int32))) ∧ (¬ (x2 ≤ 1) → gH G1 + 1 ≤ xC X ∧ gU G1 + 6 ≤ xS X ∧ ∀ h u, gH G1 ≤ h → h ≤ gH G1 + 1 → gU G1 ≤ u → u ≤ gU G1 + 6 → Px "java/lang/IndexOutOfBoundsException" (nX G1 h u)))) Px
set_option maxRecDepth 20000 in
theorem mX9_setDevice {X : Xt} {l : Launch} (hfl : l.stackTraces = false) {G : Gt} {a0 : Nat} {x1 : Int32} {x2 : Int32} {x3 : Int32} {Pr : Int32 → Gt → Prop} {Px : String → Gt → Prop} (h : wX9_setDevice X G a0 x1 x2 x3 Pr Px) : Mc X l yX9_setDevice (.code yX9_setDevice cX9_setDevice 6 (some (.int))) 7 122 [.ref a0, .int x1, .int x2, .int x3] G (rI Pr) Px := by
  refine Mc.of (by decide +kernel) hfl [some (.ref a0), some (.int x1), some (.int x2), some (.int x3), none, none] rfl (Nat.le_of_ble_eq_true rfl) rfl ?_
  intro K hL C E0 hr hnm hex
  have B : BX X K l cX9_setDevice 6 RX9 7 122 G (some (.int)) "setDevice" := ⟨hL, C, E0, hr, hnm, hex, hfl⟩
  have C : Cx X K cX9_setDevice 6 RX9 7 122 := C
  unfold wX9_setDevice at h
  refine r_iload_n C 1 dX9_setDevice_0 rfl rfl ?_
  refine r_callS C hL yw_X9_needDevice sw_RX9_44 rfl rfl (Nat.le_of_ble_eq_true rfl) ⟨(Nat.le_of_ble_eq_true rfl), (Nat.le_of_ble_eq_true rfl)⟩ (mX9_needDevice hfl h) rfl dX9_setDevice_1 (kV' (fun G1 h => ?_)) (kO C E0 hex)
  refine r_iload_n C 2 dX9_setDevice_4 rfl rfl ?_
  refine r_if_lt C 13 dX9_setDevice_5 (by decide) (fun c => ?_) (fun c => ?_)
  · replace h := h.1 c
    exact r_throw hL hfl C E0 hex th_RX9_23_27 st_RX9_48 h rfl (Nat.le_of_ble_eq_true rfl) (Nat.le_of_ble_eq_true rfl) dX9_setDevice_13 dX9_setDevice_16 dX9_setDevice_17 dX9_setDevice_19 dX9_setDevice_22
  · replace h := h.2 c
    refine r_iload_n C 2 dX9_setDevice_8 rfl rfl ?_
    refine r_iconst C 1 dX9_setDevice_9 (by decide) ?_
    refine r_icmp_le C 23 dX9_setDevice_10 (by decide) (fun c => ?_) (fun c => ?_)
    · replace h := h.1 c
      refine r_iload_n C 3 dX9_setDevice_23 rfl rfl ?_
      refine r_iconst C 0 dX9_setDevice_24 (by decide) ?_
      refine r_iload_n C 2 dX9_setDevice_25 rfl rfl ?_
      refine r_if_ne C 35 dX9_setDevice_26 (by decide) (fun c => ?_) (fun c => ?_)
      · replace h := h.1 c
        refine r_ldc C kc_RX9_50 dX9_setDevice_35 ?_
        exact bX9_setDevice_37 B h
      · replace h := h.2 c
        refine r_sipush C 1000 dX9_setDevice_29 (by decide) ?_
        refine r_goto C 37 dX9_setDevice_32 (by decide) ?_
        exact bX9_setDevice_37 B h
    · replace h := h.2 c
      exact r_throw hL hfl C E0 hex th_RX9_23_27 st_RX9_48 h rfl (Nat.le_of_ble_eq_true rfl) (Nat.le_of_ble_eq_true rfl) dX9_setDevice_13 dX9_setDevice_16 dX9_setDevice_17 dX9_setDevice_19 dX9_setDevice_22
def wX9_needRegister (X : Xt) (G : Gt) (x0 : Int32) (x1 : Int32) (Pr : Gt → Prop) (Px : String → Gt → Prop) : Prop := wX9_needDevice X G x0 (fun G1 => (x1 < 0 → gH G1 + 1 ≤ xC X ∧ gU G1 + 6 ≤ xS X ∧ ∀ h u, gH G1 ≤ h → h ≤ gH G1 + 1 → gU G1 ≤ u → u ≤ gU G1 + 6 → Px "java/lang/IndexOutOfBoundsException" (nX G1 h u)) ∧ (¬ (x1 < 0) → (x1 < 32 → Pr G1) ∧ (¬ (x1 < 32) → gH G1 + 1 ≤ xC X ∧ gU G1 + 6 ≤ xS X ∧ ∀ h u, gH G1 ≤ h → h ≤ gH G1 + 1 → gU G1 ≤ u → u ≤ gU G1 + 6 → Px "java/lang/IndexOutOfBoundsException" (nX G1 h u)))) Px
set_option maxRecDepth 20000 in
theorem mX9_needRegister {X : Xt} {l : Launch} (hfl : l.stackTraces = false) {G : Gt} {x0 : Int32} {x1 : Int32} {Pr : Gt → Prop} {Px : String → Gt → Prop} (h : wX9_needRegister X G x0 x1 Pr Px) : Mc X l yX9_needRegister (.code yX9_needRegister cX9_needRegister 2 none) 7 120 [.int x0, .int x1] G (rV Pr) Px := by
  refine Mc.of (by decide +kernel) hfl [some (.int x0), some (.int x1)] rfl (Nat.le_of_ble_eq_true rfl) rfl ?_
  intro K hL C E0 hr hnm hex
  have B : BX X K l cX9_needRegister 2 RX9 7 120 G none "needRegister" := ⟨hL, C, E0, hr, hnm, hex, hfl⟩
  have C : Cx X K cX9_needRegister 2 RX9 7 120 := C
  unfold wX9_needRegister at h
  refine r_iload_n C 0 dX9_needRegister_0 rfl rfl ?_
  refine r_callS C hL yw_X9_needDevice sw_RX9_44 rfl rfl (Nat.le_of_ble_eq_true rfl) ⟨(Nat.le_of_ble_eq_true rfl), (Nat.le_of_ble_eq_true rfl)⟩ (mX9_needDevice hfl h) rfl dX9_needRegister_1 (kV' (fun G1 h => ?_)) (kO C E0 hex)
  refine r_iload_n C 1 dX9_needRegister_4 rfl rfl ?_
  refine r_if_lt C 14 dX9_needRegister_5 (by decide) (fun c => ?_) (fun c => ?_)
  · replace h := h.1 c
    exact r_throwW hL hfl C E0 hex th_RX9_23_27 st_RX9_290 h rfl (Nat.le_of_ble_eq_true rfl) (Nat.le_of_ble_eq_true rfl) dX9_needRegister_14 dX9_needRegister_17 dX9_needRegister_18 dX9_needRegister_21 dX9_needRegister_24
  · replace h := h.2 c
    refine r_iload_n C 1 dX9_needRegister_8 rfl rfl ?_
    refine r_bipush C 32 dX9_needRegister_9 (by decide) ?_
    refine r_icmp_lt C 25 dX9_needRegister_11 (by decide) (fun c => ?_) (fun c => ?_)
    · replace h := h.1 c
      exact r_vret C E0 hr ⟨rfl, h⟩ dX9_needRegister_25
    · replace h := h.2 c
      exact r_throwW hL hfl C E0 hex th_RX9_23_27 st_RX9_290 h rfl (Nat.le_of_ble_eq_true rfl) (Nat.le_of_ble_eq_true rfl) dX9_needRegister_14 dX9_needRegister_17 dX9_needRegister_18 dX9_needRegister_21 dX9_needRegister_24
def wX9_poke (X : Xt) (G : Gt) (a0 : Nat) (x1 : Int32) (x2 : Int32) (x3 : Int32) (Pr : Int32 → Gt → Prop) (Px : String → Gt → Prop) : Prop := wX9_needRegister X G x1 x2 (fun G1 => wX9_needInRange X G1 x3 0 65535 (fun G2 => gT G2 a0 = (1, 10) ∧ ∃ b3, gR G2 320 a0 = some b3 ∧ gT G2 b3 = (1, 2) ∧ ∃ b4, gR G2 66 b3 = some b4 ∧ (gT G2 b4).1 = 4 ∧ vp_in (x1 - 1) (gT G2 b4).2 ∧ ∃ b5, gB G2 b4 (x1 - 1).toNatClampNeg = some b5 ∧ gT G2 b5 = (1, 3) ∧ ∃ b6, gR G2 96 b5 = some b6 ∧ (gT G2 b6).1 = 2 ∧ vp_in x2 (gT G2 b6).2 ∧ (gT G2 b6).1 = 2 ∧ vp_in x2 (gT G2 b6).2 ∧ ∀ G7, G7 = sA G2 b6 (upd (gA G2 b6) x2.toNatClampNeg x3) → Pr (gA G2 b6 x2.toNatClampNeg) G7) Px) Px
set_option maxRecDepth 20000 in
theorem mX9_poke {X : Xt} {l : Launch} (hfl : l.stackTraces = false) {G : Gt} {a0 : Nat} {x1 : Int32} {x2 : Int32} {x3 : Int32} {Pr : Int32 → Gt → Prop} {Px : String → Gt → Prop} (h : wX9_poke X G a0 x1 x2 x3 Pr Px) : Mc X l yX9_poke (.code yX9_poke cX9_poke 6 (some (.int))) 8 141 [.ref a0, .int x1, .int x2, .int x3] G (rI Pr) Px := by
  refine Mc.of (by decide +kernel) hfl [some (.ref a0), some (.int x1), some (.int x2), some (.int x3), none, none] rfl (Nat.le_of_ble_eq_true rfl) rfl ?_
  intro K hL C E0 hr hnm hex
  have B : BX X K l cX9_poke 6 RX9 8 141 G (some (.int)) "poke" := ⟨hL, C, E0, hr, hnm, hex, hfl⟩
  have C : Cx X K cX9_poke 6 RX9 8 141 := C
  unfold wX9_poke at h
  refine r_iload_n C 1 dX9_poke_0 rfl rfl ?_
  refine r_iload_n C 2 dX9_poke_1 rfl rfl ?_
  refine r_callS C hL yw_X9_needRegister sw_RX9_64 rfl rfl (Nat.le_of_ble_eq_true rfl) ⟨(Nat.le_of_ble_eq_true rfl), (Nat.le_of_ble_eq_true rfl)⟩ (mX9_needRegister hfl h) rfl dX9_poke_2 (kV' (fun G1 h => ?_)) (kO C E0 hex)
  refine r_iload_n C 3 dX9_poke_5 rfl rfl ?_
  refine r_iconst C 0 dX9_poke_6 (by decide) ?_
  refine r_ldc C kc_RX9_50 dX9_poke_7 ?_
  refine r_callS C hL yw_X9_needInRange sw_RX9_37 rfl rfl (Nat.le_of_ble_eq_true rfl) ⟨(Nat.le_of_ble_eq_true rfl), (Nat.le_of_ble_eq_true rfl)⟩ (mX9_needInRange hfl h) rfl dX9_poke_9 (kV' (fun G2 h => ?_)) (kO C E0 hex)
  refine r_aloadR_n C 0 dX9_poke_12 rfl rfl ?_
  obtain ⟨ht, h⟩ := h
  obtain ⟨b3, hb, h⟩ := h
  refine r_getR C fw_RX9_10 rfl ht hb dX9_poke_13 ?_
  obtain ⟨ht, h⟩ := h
  obtain ⟨b4, hb, h⟩ := h
  refine r_getR C fw_RX9_51 rfl ht hb dX9_poke_16 ?_
  refine r_iload_n C 1 dX9_poke_19 rfl rfl ?_
  refine r_iconst C 1 dX9_poke_20 (by decide) ?_
  refine r_isub C dX9_poke_21 ?_
  obtain ⟨ht, hi, h⟩ := h
  obtain ⟨b5, hb, h⟩ := h
  refine r_aald4P C ht hi hb dX9_poke_22 ?_
  obtain ⟨ht, h⟩ := h
  obtain ⟨b6, hb, h⟩ := h
  refine r_getR C fw_RX9_68 rfl ht hb dX9_poke_23 ?_
  refine r_astoreR C (lv' := [some (.ref a0), some (.int x1), some (.int x2), some (.int x3), some (.ref b6), none]) dX9_poke_26 (Nat.le_of_ble_eq_true rfl) rfl rfl ?_
  refine r_aloadR C dX9_poke_28 rfl ?_
  refine r_iload_n C 2 dX9_poke_30 rfl rfl ?_
  obtain ⟨ht, hi, h⟩ := h
  refine r_ialdP C ht hi dX9_poke_31 ?_
  refine r_istore C (lv' := [some (.ref a0), some (.int x1), some (.int x2), some (.int x3), some (.ref b6), some (.int (gA G2 b6 x2.toNatClampNeg))]) dX9_poke_32 (Nat.le_of_ble_eq_true rfl) rfl rfl ?_
  refine r_aloadR C dX9_poke_34 rfl ?_
  refine r_iload_n C 2 dX9_poke_36 rfl rfl ?_
  refine r_iload_n C 3 dX9_poke_37 rfl rfl ?_
  obtain ⟨ht, hi, h⟩ := h
  refine r_iastP C ht hi dX9_poke_38 ?_
  refine r_nm (fun G7 hG7 => ?_)
  replace h := h G7 hG7
  refine r_iload C dX9_poke_39 rfl ?_
  exact r_iret C E0 hr ⟨_, rfl, h⟩ dX9_poke_41
def wX9_peek (X : Xt) (G : Gt) (a0 : Nat) (x1 : Int32) (x2 : Int32) (Pr : Int32 → Gt → Prop) (Px : String → Gt → Prop) : Prop := wX9_needRegister X G x1 x2 (fun G1 => gT G1 a0 = (1, 10) ∧ ∃ b2, gR G1 320 a0 = some b2 ∧ gT G1 b2 = (1, 2) ∧ ∃ b3, gR G1 66 b2 = some b3 ∧ (gT G1 b3).1 = 4 ∧ vp_in (x1 - 1) (gT G1 b3).2 ∧ ∃ b4, gB G1 b3 (x1 - 1).toNatClampNeg = some b4 ∧ gT G1 b4 = (1, 3) ∧ ∃ b5, gR G1 96 b4 = some b5 ∧ (gT G1 b5).1 = 2 ∧ vp_in x2 (gT G1 b5).2 ∧ Pr (gA G1 b5 x2.toNatClampNeg) G1) Px
set_option maxRecDepth 20000 in
theorem mX9_peek {X : Xt} {l : Launch} (hfl : l.stackTraces = false) {G : Gt} {a0 : Nat} {x1 : Int32} {x2 : Int32} {Pr : Int32 → Gt → Prop} {Px : String → Gt → Prop} (h : wX9_peek X G a0 x1 x2 Pr Px) : Mc X l yX9_peek (.code yX9_peek cX9_peek 3 (some (.int))) 8 141 [.ref a0, .int x1, .int x2] G (rI Pr) Px := by
  refine Mc.of (by decide +kernel) hfl [some (.ref a0), some (.int x1), some (.int x2)] rfl (Nat.le_of_ble_eq_true rfl) rfl ?_
  intro K hL C E0 hr hnm hex
  have B : BX X K l cX9_peek 3 RX9 8 141 G (some (.int)) "peek" := ⟨hL, C, E0, hr, hnm, hex, hfl⟩
  have C : Cx X K cX9_peek 3 RX9 8 141 := C
  unfold wX9_peek at h
  refine r_iload_n C 1 dX9_peek_0 rfl rfl ?_
  refine r_iload_n C 2 dX9_peek_1 rfl rfl ?_
  refine r_callS C hL yw_X9_needRegister sw_RX9_64 rfl rfl (Nat.le_of_ble_eq_true rfl) ⟨(Nat.le_of_ble_eq_true rfl), (Nat.le_of_ble_eq_true rfl)⟩ (mX9_needRegister hfl h) rfl dX9_peek_2 (kV' (fun G1 h => ?_)) (kO C E0 hex)
  refine r_aloadR_n C 0 dX9_peek_5 rfl rfl ?_
  obtain ⟨ht, h⟩ := h
  obtain ⟨b2, hb, h⟩ := h
  refine r_getR C fw_RX9_10 rfl ht hb dX9_peek_6 ?_
  obtain ⟨ht, h⟩ := h
  obtain ⟨b3, hb, h⟩ := h
  refine r_getR C fw_RX9_51 rfl ht hb dX9_peek_9 ?_
  refine r_iload_n C 1 dX9_peek_12 rfl rfl ?_
  refine r_iconst C 1 dX9_peek_13 (by decide) ?_
  refine r_isub C dX9_peek_14 ?_
  obtain ⟨ht, hi, h⟩ := h
  obtain ⟨b4, hb, h⟩ := h
  refine r_aald4P C ht hi hb dX9_peek_15 ?_
  obtain ⟨ht, h⟩ := h
  obtain ⟨b5, hb, h⟩ := h
  refine r_getR C fw_RX9_68 rfl ht hb dX9_peek_16 ?_
  refine r_iload_n C 2 dX9_peek_19 rfl rfl ?_
  obtain ⟨ht, hi, h⟩ := h
  refine r_ialdP C ht hi dX9_peek_20 ?_
  exact r_iret C E0 hr ⟨_, rfl, h⟩ dX9_peek_21
def wX9_protect (X : Xt) (G : Gt) (a0 : Nat) (x1 : Int32) (x2 : Int32) (x3 : Int32) (Pr : Int32 → Gt → Prop) (Px : String → Gt → Prop) : Prop := wX9_needRegister X G x1 x2 (fun G1 => gT G1 a0 = (1, 10) ∧ ∃ b2, gR G1 320 a0 = some b2 ∧ gT G1 b2 = (1, 2) ∧ ∃ b3, gR G1 66 b2 = some b3 ∧ (gT G1 b3).1 = 4 ∧ vp_in (x1 - 1) (gT G1 b3).2 ∧ ∃ b4, gB G1 b3 (x1 - 1).toNatClampNeg = some b4 ∧ gT G1 b4 = (1, 3) ∧ wX2_isReadOnly X G1 b4 x2 (fun r5 G6 => (x3 = 0 → gT G6 b4 = (1, 3) ∧ gT G6 b4 = (1, 3) ∧ ∀ G27, G27 = sI G6 100 b4 ((gI G6 100 b4) &&& ((1 <<< (x2 &&& 31)) ^^^ (-1))) → (r5 = 0 ∨ r5 = 1) ∧ Pr r5 G27) ∧ (¬ (x3 = 0) → gT G6 b4 = (1, 3) ∧ gT G6 b4 = (1, 3) ∧ ∀ G47, G47 = sI G6 100 b4 ((gI G6 100 b4) ||| (1 <<< (x2 &&& 31))) → (r5 = 0 ∨ r5 = 1) ∧ Pr r5 G47))) Px
set_option maxRecDepth 20000 in
theorem mX9_protect {X : Xt} {l : Launch} (hfl : l.stackTraces = false) {G : Gt} {a0 : Nat} {x1 : Int32} {x2 : Int32} {x3 : Int32} {Pr : Int32 → Gt → Prop} {Px : String → Gt → Prop} (h : wX9_protect X G a0 x1 x2 x3 Pr Px) : Mc X l yX9_protect (.code yX9_protect cX9_protect 7 (some (.boolean))) 8 141 [.ref a0, .int x1, .int x2, .int x3] G (rI Pr) Px := by
  refine Mc.of (by decide +kernel) hfl [some (.ref a0), some (.int x1), some (.int x2), some (.int x3), none, none, none] rfl (Nat.le_of_ble_eq_true rfl) rfl ?_
  intro K hL C E0 hr hnm hex
  have B : BX X K l cX9_protect 7 RX9 8 141 G (some (.boolean)) "protect" := ⟨hL, C, E0, hr, hnm, hex, hfl⟩
  have C : Cx X K cX9_protect 7 RX9 8 141 := C
  unfold wX9_protect at h
  refine r_iload_n C 1 dX9_protect_0 rfl rfl ?_
  refine r_iload_n C 2 dX9_protect_1 rfl rfl ?_
  refine r_callS C hL yw_X9_needRegister sw_RX9_64 rfl rfl (Nat.le_of_ble_eq_true rfl) ⟨(Nat.le_of_ble_eq_true rfl), (Nat.le_of_ble_eq_true rfl)⟩ (mX9_needRegister hfl h) rfl dX9_protect_2 (kV' (fun G1 h => ?_)) (kO C E0 hex)
  refine r_aloadR_n C 0 dX9_protect_5 rfl rfl ?_
  obtain ⟨ht, h⟩ := h
  obtain ⟨b2, hb, h⟩ := h
  refine r_getR C fw_RX9_10 rfl ht hb dX9_protect_6 ?_
  obtain ⟨ht, h⟩ := h
  obtain ⟨b3, hb, h⟩ := h
  refine r_getR C fw_RX9_51 rfl ht hb dX9_protect_9 ?_
  refine r_iload_n C 1 dX9_protect_12 rfl rfl ?_
  refine r_iconst C 1 dX9_protect_13 (by decide) ?_
  refine r_isub C dX9_protect_14 ?_
  obtain ⟨ht, hi, h⟩ := h
  obtain ⟨b4, hb, h⟩ := h
  refine r_aald4P C ht hi hb dX9_protect_15 ?_
  refine r_astoreR C (lv' := [some (.ref a0), some (.int x1), some (.int x2), some (.int x3), some (.ref b4), none, none]) dX9_protect_16 (Nat.le_of_ble_eq_true rfl) rfl rfl ?_
  refine r_aloadR C dX9_protect_18 rfl ?_
  refine r_iload_n C 2 dX9_protect_20 rfl rfl ?_
  obtain ⟨ht, h⟩ := h
  refine r_callV C (r := (RX2, TX2, 7)) hL yw_X2_isReadOnly vw_RX9_71 rfl rfl ht rfl rfl (Nat.le_of_ble_eq_true rfl) ⟨(Nat.le_of_ble_eq_true rfl), (Nat.le_of_ble_eq_true rfl)⟩ (mX2_isReadOnly hfl h) rfl dX9_protect_21 (kI (fun r5 G6 h => ?_)) kN
  refine r_istore C (lv' := [some (.ref a0), some (.int x1), some (.int x2), some (.int x3), some (.ref b4), some (.int r5), none]) dX9_protect_24 (Nat.le_of_ble_eq_true rfl) rfl rfl ?_
  refine r_iconst C 1 dX9_protect_26 (by decide) ?_
  refine r_iload_n C 2 dX9_protect_27 rfl rfl ?_
  refine r_ishl C dX9_protect_28 ?_
  refine r_istore C (lv' := [some (.ref a0), some (.int x1), some (.int x2), some (.int x3), some (.ref b4), some (.int r5), some (.int (1 <<< (x2 &&& 31)))]) dX9_protect_29 (Nat.le_of_ble_eq_true rfl) rfl rfl ?_
  refine r_aloadR C dX9_protect_31 rfl ?_
  refine r_iload_n C 3 dX9_protect_33 rfl rfl ?_
  refine r_if_eq C 48 dX9_protect_34 (by decide) (fun c => ?_) (fun c => ?_)
  · replace h := h.1 c
    refine r_aloadR C dX9_protect_48 rfl ?_
    obtain ⟨ht, h⟩ := h
    refine r_getI C fw_RX9_75 rfl ht dX9_protect_50 ?_
    refine r_iload C dX9_protect_53 rfl ?_
    refine r_iconst C (-1) dX9_protect_55 (by decide) ?_
    refine r_ixor C dX9_protect_56 ?_
    refine r_iand C dX9_protect_57 ?_
    obtain ⟨ht, h⟩ := h
    refine r_putI C cw_3 fp_RX9_75 rfl ht dX9_protect_58 ?_
    refine r_nm (fun G27 hG27 => ?_)
    replace h := h G27 hG27
    refine r_iload C dX9_protect_61 rfl ?_
    obtain ⟨hz, h⟩ := h
    exact r_zret C E0 hr hz ⟨_, rfl, h⟩ dX9_protect_63
  · replace h := h.2 c
    refine r_aloadR C dX9_protect_37 rfl ?_
    obtain ⟨ht, h⟩ := h
    refine r_getI C fw_RX9_75 rfl ht dX9_protect_39 ?_
    refine r_iload C dX9_protect_42 rfl ?_
    refine r_ior C dX9_protect_44 ?_
    refine r_goto C 58 dX9_protect_45 (by decide) ?_
    obtain ⟨ht, h⟩ := h
    refine r_putI C cw_3 fp_RX9_75 rfl ht dX9_protect_58 ?_
    refine r_nm (fun G47 hG47 => ?_)
    replace h := h G47 hG47
    refine r_iload C dX9_protect_61 rfl ?_
    obtain ⟨hz, h⟩ := h
    exact r_zret C E0 hr hz ⟨_, rfl, h⟩ dX9_protect_63
def wX9_fault (X : Xt) (G : Gt) (a0 : Nat) (x1 : Int32) (x2 : Int32) (x3 : Int32) (Pr : Int32 → Gt → Prop) (Px : String → Gt → Prop) : Prop := wX9_needDevice X G x1 (fun G1 => wX9_needInRange X G1 x2 1 4 (fun G2 => wX9_needInRange X G2 x3 0 2000 (fun G3 => gT G3 a0 = (1, 10) ∧ ∃ b4, gR G3 320 a0 = some b4 ∧ gT G3 b4 = (1, 2) ∧ ∃ b5, gR G3 66 b4 = some b5 ∧ (gT G3 b5).1 = 4 ∧ vp_in (x1 - 1) (gT G3 b5).2 ∧ ∃ b6, gB G3 b5 (x1 - 1).toNatClampNeg = some b6 ∧ gT G3 b6 = (1, 3) ∧ ((gI G3 99 b6) < 6 → gT G3 b6 = (1, 3) ∧ wX2_appendFault X G3 b6 x2 x3 (fun G27 => gT G27 b6 = (1, 3) ∧ Pr (gI G27 99 b6) G27)) ∧ (¬ ((gI G3 99 b6) < 6) → gH G3 + 1 ≤ xC X ∧ gU G3 + 6 ≤ xS X ∧ ∀ h u, gH G3 ≤ h → h ≤ gH G3 + 1 → gU G3 ≤ u → u ≤ gU G3 + 6 → Px "java/lang/IllegalStateException" (nX G3 h u))) Px) Px) Px
set_option maxRecDepth 20000 in
theorem mX9_fault {X : Xt} {l : Launch} (hfl : l.stackTraces = false) {G : Gt} {a0 : Nat} {x1 : Int32} {x2 : Int32} {x3 : Int32} {Pr : Int32 → Gt → Prop} {Px : String → Gt → Prop} (h : wX9_fault X G a0 x1 x2 x3 Pr Px) : Mc X l yX9_fault (.code yX9_fault cX9_fault 5 (some (.int))) 7 122 [.ref a0, .int x1, .int x2, .int x3] G (rI Pr) Px := by
  refine Mc.of (by decide +kernel) hfl [some (.ref a0), some (.int x1), some (.int x2), some (.int x3), none] rfl (Nat.le_of_ble_eq_true rfl) rfl ?_
  intro K hL C E0 hr hnm hex
  have B : BX X K l cX9_fault 5 RX9 7 122 G (some (.int)) "fault" := ⟨hL, C, E0, hr, hnm, hex, hfl⟩
  have C : Cx X K cX9_fault 5 RX9 7 122 := C
  unfold wX9_fault at h
  refine r_iload_n C 1 dX9_fault_0 rfl rfl ?_
  refine r_callS C hL yw_X9_needDevice sw_RX9_44 rfl rfl (Nat.le_of_ble_eq_true rfl) ⟨(Nat.le_of_ble_eq_true rfl), (Nat.le_of_ble_eq_true rfl)⟩ (mX9_needDevice hfl h) rfl dX9_fault_1 (kV' (fun G1 h => ?_)) (kO C E0 hex)
  refine r_iload_n C 2 dX9_fault_4 rfl rfl ?_
  refine r_iconst C 1 dX9_fault_5 (by decide) ?_
  refine r_iconst C 4 dX9_fault_6 (by decide) ?_
  refine r_callS C hL yw_X9_needInRange sw_RX9_37 rfl rfl (Nat.le_of_ble_eq_true rfl) ⟨(Nat.le_of_ble_eq_true rfl), (Nat.le_of_ble_eq_true rfl)⟩ (mX9_needInRange hfl h) rfl dX9_fault_7 (kV' (fun G2 h => ?_)) (kO C E0 hex)
  refine r_iload_n C 3 dX9_fault_10 rfl rfl ?_
  refine r_iconst C 0 dX9_fault_11 (by decide) ?_
  refine r_sipush C 2000 dX9_fault_12 (by decide) ?_
  refine r_callS C hL yw_X9_needInRange sw_RX9_37 rfl rfl (Nat.le_of_ble_eq_true rfl) ⟨(Nat.le_of_ble_eq_true rfl), (Nat.le_of_ble_eq_true rfl)⟩ (mX9_needInRange hfl h) rfl dX9_fault_15 (kV' (fun G3 h => ?_)) (kO C E0 hex)
  refine r_aloadR_n C 0 dX9_fault_18 rfl rfl ?_
  obtain ⟨ht, h⟩ := h
  obtain ⟨b4, hb, h⟩ := h
  refine r_getR C fw_RX9_10 rfl ht hb dX9_fault_19 ?_
  obtain ⟨ht, h⟩ := h
  obtain ⟨b5, hb, h⟩ := h
  refine r_getR C fw_RX9_51 rfl ht hb dX9_fault_22 ?_
  refine r_iload_n C 1 dX9_fault_25 rfl rfl ?_
  refine r_iconst C 1 dX9_fault_26 (by decide) ?_
  refine r_isub C dX9_fault_27 ?_
  obtain ⟨ht, hi, h⟩ := h
  obtain ⟨b6, hb, h⟩ := h
  refine r_aald4P C ht hi hb dX9_fault_28 ?_
  refine r_astoreR C (lv' := [some (.ref a0), some (.int x1), some (.int x2), some (.int x3), some (.ref b6)]) dX9_fault_29 (Nat.le_of_ble_eq_true rfl) rfl rfl ?_
  refine r_aloadR C dX9_fault_31 rfl ?_
  obtain ⟨ht, h⟩ := h
  refine r_getI C fw_RX9_78 rfl ht dX9_fault_33 ?_
  refine r_bipush C 6 dX9_fault_36 (by decide) ?_
  refine r_icmp_lt C 51 dX9_fault_38 (by decide) (fun c => ?_) (fun c => ?_)
  · replace h := h.1 c
    refine r_aloadR C dX9_fault_51 rfl ?_
    refine r_iload_n C 2 dX9_fault_53 rfl rfl ?_
    refine r_iload_n C 3 dX9_fault_54 rfl rfl ?_
    obtain ⟨ht, h⟩ := h
    refine r_callV C (r := (RX2, TX2, 7)) hL yw_X2_appendFault vw_RX9_86 rfl rfl ht rfl rfl (Nat.le_of_ble_eq_true rfl) ⟨(Nat.le_of_ble_eq_true rfl), (Nat.le_of_ble_eq_true rfl)⟩ (mX2_appendFault hfl h) rfl dX9_fault_55 (kV' (fun G27 h => ?_)) kN
    refine r_aloadR C dX9_fault_58 rfl ?_
    obtain ⟨ht, h⟩ := h
    refine r_getI C fw_RX9_78 rfl ht dX9_fault_60 ?_
    exact r_iret C E0 hr ⟨_, rfl, h⟩ dX9_fault_63
  · replace h := h.2 c
    exact r_throw hL hfl C E0 hex th_RX9_81_85 st_RX9_83 h rfl (Nat.le_of_ble_eq_true rfl) (Nat.le_of_ble_eq_true rfl) dX9_fault_41 dX9_fault_44 dX9_fault_45 dX9_fault_47 dX9_fault_50
def wX9_needClient (X : Xt) (G : Gt) (x0 : Int32) (Pr : Gt → Prop) (Px : String → Gt → Prop) : Prop := (x0 < 0 → gH G + 1 ≤ xC X ∧ gU G + 6 ≤ xS X ∧ ∀ h u, gH G ≤ h → h ≤ gH G + 1 → gU G ≤ u → u ≤ gU G + 6 → Px "java/lang/IndexOutOfBoundsException" (nX G h u)) ∧ (¬ (x0 < 0) → (x0 < 4 → Pr G) ∧ (¬ (x0 < 4) → gH G + 1 ≤ xC X ∧ gU G + 6 ≤ xS X ∧ ∀ h u, gH G ≤ h → h ≤ gH G + 1 → gU G ≤ u → u ≤ gU G + 6 → Px "java/lang/IndexOutOfBoundsException" (nX G h u)))
set_option maxRecDepth 20000 in
theorem mX9_needClient {X : Xt} {l : Launch} (hfl : l.stackTraces = false) {G : Gt} {x0 : Int32} {Pr : Gt → Prop} {Px : String → Gt → Prop} (h : wX9_needClient X G x0 Pr Px) : Mc X l yX9_needClient (.code yX9_needClient cX9_needClient 1 none) 6 100 [.int x0] G (rV Pr) Px := by
  refine Mc.of (by decide +kernel) hfl [some (.int x0)] rfl (Nat.le_of_ble_eq_true rfl) rfl ?_
  intro K hL C E0 hr hnm hex
  have B : BX X K l cX9_needClient 1 RX9 6 100 G none "needClient" := ⟨hL, C, E0, hr, hnm, hex, hfl⟩
  have C : Cx X K cX9_needClient 1 RX9 6 100 := C
  unfold wX9_needClient at h
  refine r_iload_n C 0 dX9_needClient_0 rfl rfl ?_
  refine r_if_lt C 9 dX9_needClient_1 (by decide) (fun c => ?_) (fun c => ?_)
  · replace h := h.1 c
    exact r_throwW hL hfl C E0 hex th_RX9_23_27 st_RX9_286 h rfl (Nat.le_of_ble_eq_true rfl) (Nat.le_of_ble_eq_true rfl) dX9_needClient_9 dX9_needClient_12 dX9_needClient_13 dX9_needClient_16 dX9_needClient_19
  · replace h := h.2 c
    refine r_iload_n C 0 dX9_needClient_4 rfl rfl ?_
    refine r_iconst C 4 dX9_needClient_5 (by decide) ?_
    refine r_icmp_lt C 20 dX9_needClient_6 (by decide) (fun c => ?_) (fun c => ?_)
    · replace h := h.1 c
      exact r_vret C E0 hr ⟨rfl, h⟩ dX9_needClient_20
    · replace h := h.2 c
      exact r_throwW hL hfl C E0 hex th_RX9_23_27 st_RX9_286 h rfl (Nat.le_of_ble_eq_true rfl) (Nat.le_of_ble_eq_true rfl) dX9_needClient_9 dX9_needClient_12 dX9_needClient_13 dX9_needClient_16 dX9_needClient_19
def wX9_needRoomForRequest (X : Xt) (G : Gt) (a0 : Nat) (Pr : Gt → Prop) (Px : String → Gt → Prop) : Prop := gT G a0 = (1, 10) ∧ ∃ b1, gR G 320 a0 = some b1 ∧ gT G b1 = (1, 2) ∧ ∃ b2, gR G 68 b1 = some b2 ∧ gT G b2 = (1, 7) ∧ ∃ b3, gR G 224 b2 = some b3 ∧ gT G b3 = (1, 0) ∧ wJx4a65c_size_8abf5 X G b3 (fun r4 G5 => (r4 < 40 → Pr G5) ∧ (¬ (r4 < 40) → gH G5 + 1 ≤ xC X ∧ gU G5 + 6 ≤ xS X ∧ ∀ h u, gH G5 ≤ h → h ≤ gH G5 + 1 → gU G5 ≤ u → u ≤ gU G5 + 6 → Px "java/lang/IllegalStateException" (nX G5 h u)))
set_option maxRecDepth 20000 in
theorem mX9_needRoomForRequest {X : Xt} {l : Launch} (hfl : l.stackTraces = false) {G : Gt} {a0 : Nat} {Pr : Gt → Prop} {Px : String → Gt → Prop} (h : wX9_needRoomForRequest X G a0 Pr Px) : Mc X l yX9_needRoomForRequest (.code yX9_needRoomForRequest cX9_needRoomForRequest 1 none) 6 100 [.ref a0] G (rV Pr) Px := by
  refine Mc.of (by decide +kernel) hfl [some (.ref a0)] rfl (Nat.le_of_ble_eq_true rfl) rfl ?_
  intro K hL C E0 hr hnm hex
  have B : BX X K l cX9_needRoomForRequest 1 RX9 6 100 G none "needRoomForRequest" := ⟨hL, C, E0, hr, hnm, hex, hfl⟩
  have C : Cx X K cX9_needRoomForRequest 1 RX9 6 100 := C
  unfold wX9_needRoomForRequest at h
  refine r_aloadR_n C 0 dX9_needRoomForRequest_0 rfl rfl ?_
  obtain ⟨ht, h⟩ := h
  obtain ⟨b1, hb, h⟩ := h
  refine r_getR C fw_RX9_10 rfl ht hb dX9_needRoomForRequest_1 ?_
  obtain ⟨ht, h⟩ := h
  obtain ⟨b2, hb, h⟩ := h
  refine r_getR C fw_RX9_95 rfl ht hb dX9_needRoomForRequest_4 ?_
  obtain ⟨ht, h⟩ := h
  obtain ⟨b3, hb, h⟩ := h
  refine r_getR C fw_RX9_264 rfl ht hb dX9_needRoomForRequest_7 ?_
  obtain ⟨ht, h⟩ := h
  refine r_callV C (r := (RJx4a65c, TJx4a65c, 3)) hL yw_Jx4a65c_size_8abf5 vw_RX9_267 rfl rfl ht rfl rfl (Nat.le_of_ble_eq_true rfl) ⟨(Nat.le_of_ble_eq_true rfl), (Nat.le_of_ble_eq_true rfl)⟩ (mJx4a65c_size_8abf5 hfl h) rfl dX9_needRoomForRequest_10 (kI (fun r4 G5 h => ?_)) kN
  refine r_bipush C 40 dX9_needRoomForRequest_13 (by decide) ?_
  refine r_icmp_lt C 29 dX9_needRoomForRequest_15 (by decide) (fun c => ?_) (fun c => ?_)
  · replace h := h.1 c
    exact r_vret C E0 hr ⟨rfl, h⟩ dX9_needRoomForRequest_29
  · replace h := h.2 c
    exact r_throwW hL hfl C E0 hex th_RX9_81_85 st_RX9_294 h rfl (Nat.le_of_ble_eq_true rfl) (Nat.le_of_ble_eq_true rfl) dX9_needRoomForRequest_18 dX9_needRoomForRequest_21 dX9_needRoomForRequest_22 dX9_needRoomForRequest_25 dX9_needRoomForRequest_28
def wX9_read (X : Xt) (G : Gt) (a0 : Nat) (x1 : Int32) (x2 : Int32) (x3 : Int32) (x4 : Int32) (Pr : Int32 → Gt → Prop) (Px : String → Gt → Prop) : Prop := wX9_needClient X G x1 (fun G1 => wX9_needDevice X G1 x2 (fun G2 => wX9_needInRange X G2 x3 0 1000 (fun G3 => wX9_needInRange X G3 x4 1 16 (fun G4 => gT G4 a0 = (1, 10) ∧ wX9_needRoomForRequest X G4 a0 (fun G5 => gT G5 a0 = (1, 10) ∧ ∃ b6, gR G5 320 a0 = some b6 ∧ gT G5 b6 = (1, 2) ∧ ∃ b7, gR G5 68 b6 = some b7 ∧ gH G5 + 1 ≤ xC X ∧ gU G5 + 11 ≤ xS X ∧ ∀ G8, G8 = nO G5 9 11 → wX8_init X G8 (gH G5) x1 x2 x3 x4 0 (fun G9 => gT G9 b7 = (1, 7) ∧ wX6_append X G9 b7 (gH G5) (fun r10 G11 => Pr r10 G11))) Px) Px) Px) Px) Px
set_option maxRecDepth 20000 in
theorem mX9_read {X : Xt} {l : Launch} (hfl : l.stackTraces = false) {G : Gt} {a0 : Nat} {x1 : Int32} {x2 : Int32} {x3 : Int32} {x4 : Int32} {Pr : Int32 → Gt → Prop} {Px : String → Gt → Prop} (h : wX9_read X G a0 x1 x2 x3 x4 Pr Px) : Mc X l yX9_read (.code yX9_read cX9_read 5 (some (.int))) 8 192 [.ref a0, .int x1, .int x2, .int x3, .int x4] G (rI Pr) Px := by
  refine Mc.of (by decide +kernel) hfl [some (.ref a0), some (.int x1), some (.int x2), some (.int x3), some (.int x4)] rfl (Nat.le_of_ble_eq_true rfl) rfl ?_
  intro K hL C E0 hr hnm hex
  have B : BX X K l cX9_read 5 RX9 8 192 G (some (.int)) "read" := ⟨hL, C, E0, hr, hnm, hex, hfl⟩
  have C : Cx X K cX9_read 5 RX9 8 192 := C
  unfold wX9_read at h
  refine r_iload_n C 1 dX9_read_0 rfl rfl ?_
  refine r_callS C hL yw_X9_needClient sw_RX9_89 rfl rfl (Nat.le_of_ble_eq_true rfl) ⟨(Nat.le_of_ble_eq_true rfl), (Nat.le_of_ble_eq_true rfl)⟩ (mX9_needClient hfl h) rfl dX9_read_1 (kV' (fun G1 h => ?_)) (kO C E0 hex)
  refine r_iload_n C 2 dX9_read_4 rfl rfl ?_
  refine r_callS C hL yw_X9_needDevice sw_RX9_44 rfl rfl (Nat.le_of_ble_eq_true rfl) ⟨(Nat.le_of_ble_eq_true rfl), (Nat.le_of_ble_eq_true rfl)⟩ (mX9_needDevice hfl h) rfl dX9_read_5 (kV' (fun G2 h => ?_)) (kO C E0 hex)
  refine r_iload_n C 3 dX9_read_8 rfl rfl ?_
  refine r_iconst C 0 dX9_read_9 (by decide) ?_
  refine r_sipush C 1000 dX9_read_10 (by decide) ?_
  refine r_callS C hL yw_X9_needInRange sw_RX9_37 rfl rfl (Nat.le_of_ble_eq_true rfl) ⟨(Nat.le_of_ble_eq_true rfl), (Nat.le_of_ble_eq_true rfl)⟩ (mX9_needInRange hfl h) rfl dX9_read_13 (kV' (fun G3 h => ?_)) (kO C E0 hex)
  refine r_iload C dX9_read_16 rfl ?_
  refine r_iconst C 1 dX9_read_18 (by decide) ?_
  refine r_bipush C 16 dX9_read_19 (by decide) ?_
  refine r_callS C hL yw_X9_needInRange sw_RX9_37 rfl rfl (Nat.le_of_ble_eq_true rfl) ⟨(Nat.le_of_ble_eq_true rfl), (Nat.le_of_ble_eq_true rfl)⟩ (mX9_needInRange hfl h) rfl dX9_read_21 (kV' (fun G4 h => ?_)) (kO C E0 hex)
  refine r_aloadR_n C 0 dX9_read_24 rfl rfl ?_
  obtain ⟨ht, h⟩ := h
  refine r_callV C (r := (RX9, TX9, 3)) hL yw_X9_needRoomForRequest vw_RX9_92 rfl rfl ht rfl rfl (Nat.le_of_ble_eq_true rfl) ⟨(Nat.le_of_ble_eq_true rfl), (Nat.le_of_ble_eq_true rfl)⟩ (mX9_needRoomForRequest hfl h) rfl dX9_read_25 (kV' (fun G5 h => ?_)) (kO C E0 hex)
  refine r_aloadR_n C 0 dX9_read_28 rfl rfl ?_
  obtain ⟨ht, h⟩ := h
  obtain ⟨b6, hb, h⟩ := h
  refine r_getR C fw_RX9_10 rfl ht hb dX9_read_29 ?_
  obtain ⟨ht, h⟩ := h
  obtain ⟨b7, hb, h⟩ := h
  refine r_getR C fw_RX9_95 rfl ht hb dX9_read_32 ?_
  obtain ⟨hr1, hr2, h⟩ := h
  refine r_new C cw_9 (T := TX8) (N := 11) rfl cl_RX9_99 hr1 hr2 dX9_read_35 ?_
  refine r_nm (fun G8 hG8 => ?_)
  replace h := h G8 hG8
  refine r_dup C dX9_read_38 rfl ?_
  refine r_iload_n C 1 dX9_read_39 rfl rfl ?_
  refine r_iload_n C 2 dX9_read_40 rfl rfl ?_
  refine r_iload_n C 3 dX9_read_41 rfl rfl ?_
  refine r_iload C dX9_read_42 rfl ?_
  refine r_iconst C 0 dX9_read_44 (by decide) ?_
  refine r_callI C hL yw_X8_init iw_RX9_101 rfl rfl (Nat.le_of_ble_eq_true rfl) ⟨(Nat.le_of_ble_eq_true rfl), (Nat.le_of_ble_eq_true rfl)⟩ (mX8_init hfl h) rfl dX9_read_45 (kV' (fun G9 h => ?_)) kN
  obtain ⟨ht, h⟩ := h
  refine r_callV C (r := (RX6, TX6, 7)) hL yw_X6_append vw_RX9_104 rfl rfl ht rfl rfl (Nat.le_of_ble_eq_true rfl) ⟨(Nat.le_of_ble_eq_true rfl), (Nat.le_of_ble_eq_true rfl)⟩ (mX6_append hfl h) rfl dX9_read_48 (kI (fun r10 G11 h => ?_)) kN
  exact r_iret C E0 hr ⟨_, rfl, h⟩ dX9_read_51
def wX9_write (X : Xt) (G : Gt) (a0 : Nat) (x1 : Int32) (x2 : Int32) (x3 : Int32) (x4 : Int32) (Pr : Int32 → Gt → Prop) (Px : String → Gt → Prop) : Prop := wX9_needClient X G x1 (fun G1 => wX9_needDevice X G1 x2 (fun G2 => wX9_needInRange X G2 x3 0 1000 (fun G3 => wX9_needInRange X G3 x4 0 65535 (fun G4 => gT G4 a0 = (1, 10) ∧ wX9_needRoomForRequest X G4 a0 (fun G5 => gH G5 + 1 ≤ xC X ∧ gU G5 + 11 ≤ xS X ∧ ∀ G6, G6 = nO G5 9 11 → wX8_init X G6 (gH G5) x1 x2 x3 1 1 (fun G7 => gT G7 (gH G5) = (1, 9) ∧ ∃ b8, gR G7 294 (gH G5) = some b8 ∧ (gT G7 b8).1 = 2 ∧ vp_in 0 (gT G7 b8).2 ∧ ∀ G9, G9 = sA G7 b8 (upd (gA G7 b8) (0 : Int32).toNatClampNeg x4) → gT G9 a0 = (1, 10) ∧ ∃ b10, gR G9 320 a0 = some b10 ∧ gT G9 b10 = (1, 2) ∧ ∃ b11, gR G9 68 b10 = some b11 ∧ gT G9 b11 = (1, 7) ∧ wX6_append X G9 b11 (gH G5) (fun r12 G13 => Pr r12 G13))) Px) Px) Px) Px) Px
set_option maxRecDepth 20000 in
theorem mX9_write {X : Xt} {l : Launch} (hfl : l.stackTraces = false) {G : Gt} {a0 : Nat} {x1 : Int32} {x2 : Int32} {x3 : Int32} {x4 : Int32} {Pr : Int32 → Gt → Prop} {Px : String → Gt → Prop} (h : wX9_write X G a0 x1 x2 x3 x4 Pr Px) : Mc X l yX9_write (.code yX9_write cX9_write 6 (some (.int))) 8 192 [.ref a0, .int x1, .int x2, .int x3, .int x4] G (rI Pr) Px := by
  refine Mc.of (by decide +kernel) hfl [some (.ref a0), some (.int x1), some (.int x2), some (.int x3), some (.int x4), none] rfl (Nat.le_of_ble_eq_true rfl) rfl ?_
  intro K hL C E0 hr hnm hex
  have B : BX X K l cX9_write 6 RX9 8 192 G (some (.int)) "write" := ⟨hL, C, E0, hr, hnm, hex, hfl⟩
  have C : Cx X K cX9_write 6 RX9 8 192 := C
  unfold wX9_write at h
  refine r_iload_n C 1 dX9_write_0 rfl rfl ?_
  refine r_callS C hL yw_X9_needClient sw_RX9_89 rfl rfl (Nat.le_of_ble_eq_true rfl) ⟨(Nat.le_of_ble_eq_true rfl), (Nat.le_of_ble_eq_true rfl)⟩ (mX9_needClient hfl h) rfl dX9_write_1 (kV' (fun G1 h => ?_)) (kO C E0 hex)
  refine r_iload_n C 2 dX9_write_4 rfl rfl ?_
  refine r_callS C hL yw_X9_needDevice sw_RX9_44 rfl rfl (Nat.le_of_ble_eq_true rfl) ⟨(Nat.le_of_ble_eq_true rfl), (Nat.le_of_ble_eq_true rfl)⟩ (mX9_needDevice hfl h) rfl dX9_write_5 (kV' (fun G2 h => ?_)) (kO C E0 hex)
  refine r_iload_n C 3 dX9_write_8 rfl rfl ?_
  refine r_iconst C 0 dX9_write_9 (by decide) ?_
  refine r_sipush C 1000 dX9_write_10 (by decide) ?_
  refine r_callS C hL yw_X9_needInRange sw_RX9_37 rfl rfl (Nat.le_of_ble_eq_true rfl) ⟨(Nat.le_of_ble_eq_true rfl), (Nat.le_of_ble_eq_true rfl)⟩ (mX9_needInRange hfl h) rfl dX9_write_13 (kV' (fun G3 h => ?_)) (kO C E0 hex)
  refine r_iload C dX9_write_16 rfl ?_
  refine r_iconst C 0 dX9_write_18 (by decide) ?_
  refine r_ldc C kc_RX9_50 dX9_write_19 ?_
  refine r_callS C hL yw_X9_needInRange sw_RX9_37 rfl rfl (Nat.le_of_ble_eq_true rfl) ⟨(Nat.le_of_ble_eq_true rfl), (Nat.le_of_ble_eq_true rfl)⟩ (mX9_needInRange hfl h) rfl dX9_write_21 (kV' (fun G4 h => ?_)) (kO C E0 hex)
  refine r_aloadR_n C 0 dX9_write_24 rfl rfl ?_
  obtain ⟨ht, h⟩ := h
  refine r_callV C (r := (RX9, TX9, 3)) hL yw_X9_needRoomForRequest vw_RX9_92 rfl rfl ht rfl rfl (Nat.le_of_ble_eq_true rfl) ⟨(Nat.le_of_ble_eq_true rfl), (Nat.le_of_ble_eq_true rfl)⟩ (mX9_needRoomForRequest hfl h) rfl dX9_write_25 (kV' (fun G5 h => ?_)) (kO C E0 hex)
  obtain ⟨hr1, hr2, h⟩ := h
  refine r_new C cw_9 (T := TX8) (N := 11) rfl cl_RX9_99 hr1 hr2 dX9_write_28 ?_
  refine r_nm (fun G6 hG6 => ?_)
  replace h := h G6 hG6
  refine r_dup C dX9_write_31 rfl ?_
  refine r_iload_n C 1 dX9_write_32 rfl rfl ?_
  refine r_iload_n C 2 dX9_write_33 rfl rfl ?_
  refine r_iload_n C 3 dX9_write_34 rfl rfl ?_
  refine r_iconst C 1 dX9_write_35 (by decide) ?_
  refine r_iconst C 1 dX9_write_36 (by decide) ?_
  refine r_callI C hL yw_X8_init iw_RX9_101 rfl rfl (Nat.le_of_ble_eq_true rfl) ⟨(Nat.le_of_ble_eq_true rfl), (Nat.le_of_ble_eq_true rfl)⟩ (mX8_init hfl h) rfl dX9_write_37 (kV' (fun G7 h => ?_)) kN
  refine r_astoreR C (lv' := [some (.ref a0), some (.int x1), some (.int x2), some (.int x3), some (.int x4), some (.ref (gH G5))]) dX9_write_40 (Nat.le_of_ble_eq_true rfl) rfl rfl ?_
  refine r_aloadR C dX9_write_42 rfl ?_
  obtain ⟨ht, h⟩ := h
  obtain ⟨b8, hb, h⟩ := h
  refine r_getR C fw_RX9_110 rfl ht hb dX9_write_44 ?_
  refine r_iconst C 0 dX9_write_47 (by decide) ?_
  refine r_iload C dX9_write_48 rfl ?_
  obtain ⟨ht, hi, h⟩ := h
  refine r_iastP C ht hi dX9_write_50 ?_
  refine r_nm (fun G9 hG9 => ?_)
  replace h := h G9 hG9
  refine r_aloadR_n C 0 dX9_write_51 rfl rfl ?_
  obtain ⟨ht, h⟩ := h
  obtain ⟨b10, hb, h⟩ := h
  refine r_getR C fw_RX9_10 rfl ht hb dX9_write_52 ?_
  obtain ⟨ht, h⟩ := h
  obtain ⟨b11, hb, h⟩ := h
  refine r_getR C fw_RX9_95 rfl ht hb dX9_write_55 ?_
  refine r_aloadR C dX9_write_58 rfl ?_
  obtain ⟨ht, h⟩ := h
  refine r_callV C (r := (RX6, TX6, 7)) hL yw_X6_append vw_RX9_104 rfl rfl ht rfl rfl (Nat.le_of_ble_eq_true rfl) ⟨(Nat.le_of_ble_eq_true rfl), (Nat.le_of_ble_eq_true rfl)⟩ (mX6_append hfl h) rfl dX9_write_60 (kI (fun r12 G13 h => ?_)) kN
  exact r_iret C E0 hr ⟨_, rfl, h⟩ dX9_write_63
def wX9_neededRequest (X : Xt) (G : Gt) (a0 : Nat) (x1 : Int32) (Pr : Option Nat → Gt → Prop) (Px : String → Gt → Prop) : Prop := (x1 < 0 → gH G + 1 ≤ xC X ∧ gU G + 6 ≤ xS X ∧ ∀ h u, gH G ≤ h → h ≤ gH G + 1 → gU G ≤ u → u ≤ gU G + 6 → Px "java/lang/IndexOutOfBoundsException" (nX G h u)) ∧ (¬ (x1 < 0) → gT G a0 = (1, 10) ∧ ∃ b41, gR G 320 a0 = some b41 ∧ gT G b41 = (1, 2) ∧ ∃ b42, gR G 68 b41 = some b42 ∧ gT G b42 = (1, 7) ∧ ∃ b43, gR G 224 b42 = some b43 ∧ gT G b43 = (1, 0) ∧ wJx4a65c_size_8abf5 X G b43 (fun r44 G45 => (x1 < r44 → gT G45 a0 = (1, 10) ∧ ∃ b66, gR G45 320 a0 = some b66 ∧ gT G45 b66 = (1, 2) ∧ ∃ b67, gR G45 68 b66 = some b67 ∧ gT G45 b67 = (1, 7) ∧ ∃ b68, gR G45 224 b67 = some b68 ∧ gT G45 b68 = (1, 0) ∧ wJx4a65c_get_915e3 X G45 b68 x1 (fun r69 G70 => ∃ b71, r69 = some b71 ∧ gT G70 b71 = (1, 9) ∧ Pr (some b71) G70) Px) ∧ (¬ (x1 < r44) → gH G45 + 1 ≤ xC X ∧ gU G45 + 6 ≤ xS X ∧ ∀ h u, gH G45 ≤ h → h ≤ gH G45 + 1 → gU G45 ≤ u → u ≤ gU G45 + 6 → Px "java/lang/IndexOutOfBoundsException" (nX G45 h u))))
set_option maxRecDepth 20000 in
theorem mX9_neededRequest {X : Xt} {l : Launch} (hfl : l.stackTraces = false) {G : Gt} {a0 : Nat} {x1 : Int32} {Pr : Option Nat → Gt → Prop} {Px : String → Gt → Prop} (h : wX9_neededRequest X G a0 x1 Pr Px) : Mc X l yX9_neededRequest (.code yX9_neededRequest cX9_neededRequest 2 (some (.object "RegisterGateway$Request"))) 6 100 [.ref a0, .int x1] G (rA Pr) Px := by
  refine Mc.of (by decide +kernel) hfl [some (.ref a0), some (.int x1)] rfl (Nat.le_of_ble_eq_true rfl) rfl ?_
  intro K hL C E0 hr hnm hex
  have B : BX X K l cX9_neededRequest 2 RX9 6 100 G (some (.object "RegisterGateway$Request")) "neededRequest" := ⟨hL, C, E0, hr, hnm, hex, hfl⟩
  have C : Cx X K cX9_neededRequest 2 RX9 6 100 := C
  unfold wX9_neededRequest at h
  refine r_iload_n C 1 dX9_neededRequest_0 rfl rfl ?_
  refine r_if_lt C 21 dX9_neededRequest_1 (by decide) (fun c => ?_) (fun c => ?_)
  · replace h := h.1 c
    exact r_throwW hL hfl C E0 hex th_RX9_23_27 st_RX9_296 h rfl (Nat.le_of_ble_eq_true rfl) (Nat.le_of_ble_eq_true rfl) dX9_neededRequest_21 dX9_neededRequest_24 dX9_neededRequest_25 dX9_neededRequest_28 dX9_neededRequest_31
  · replace h := h.2 c
    refine r_iload_n C 1 dX9_neededRequest_4 rfl rfl ?_
    refine r_aloadR_n C 0 dX9_neededRequest_5 rfl rfl ?_
    obtain ⟨ht, h⟩ := h
    obtain ⟨b41, hb, h⟩ := h
    refine r_getR C fw_RX9_10 rfl ht hb dX9_neededRequest_6 ?_
    obtain ⟨ht, h⟩ := h
    obtain ⟨b42, hb, h⟩ := h
    refine r_getR C fw_RX9_95 rfl ht hb dX9_neededRequest_9 ?_
    obtain ⟨ht, h⟩ := h
    obtain ⟨b43, hb, h⟩ := h
    refine r_getR C fw_RX9_264 rfl ht hb dX9_neededRequest_12 ?_
    obtain ⟨ht, h⟩ := h
    refine r_callV C (r := (RJx4a65c, TJx4a65c, 3)) hL yw_Jx4a65c_size_8abf5 vw_RX9_267 rfl rfl ht rfl rfl (Nat.le_of_ble_eq_true rfl) ⟨(Nat.le_of_ble_eq_true rfl), (Nat.le_of_ble_eq_true rfl)⟩ (mJx4a65c_size_8abf5 hfl h) rfl dX9_neededRequest_15 (kI (fun r44 G45 h => ?_)) kN
    refine r_icmp_lt C 32 dX9_neededRequest_18 (by decide) (fun c => ?_) (fun c => ?_)
    · replace h := h.1 c
      refine r_aloadR_n C 0 dX9_neededRequest_32 rfl rfl ?_
      obtain ⟨ht, h⟩ := h
      obtain ⟨b66, hb, h⟩ := h
      refine r_getR C fw_RX9_10 rfl ht hb dX9_neededRequest_33 ?_
      obtain ⟨ht, h⟩ := h
      obtain ⟨b67, hb, h⟩ := h
      refine r_getR C fw_RX9_95 rfl ht hb dX9_neededRequest_36 ?_
      obtain ⟨ht, h⟩ := h
      obtain ⟨b68, hb, h⟩ := h
      refine r_getR C fw_RX9_264 rfl ht hb dX9_neededRequest_39 ?_
      refine r_iload_n C 1 dX9_neededRequest_42 rfl rfl ?_
      obtain ⟨ht, h⟩ := h
      refine r_callV C (r := (RJx4a65c, TJx4a65c, 3)) hL yw_Jx4a65c_get_915e3 vw_RX9_271 rfl rfl ht rfl rfl (Nat.le_of_ble_eq_true rfl) ⟨(Nat.le_of_ble_eq_true rfl), (Nat.le_of_ble_eq_true rfl)⟩ (mJx4a65c_get_915e3 hfl h) rfl dX9_neededRequest_43 (kA' (fun r69 G70 h => ?_)) (kO C E0 hex)
      obtain ⟨b71, hb, ht, h⟩ := h
      subst hb
      refine r_cast C (r := (RX8, TX8, 11)) rfl cl_RX9_99 ht dX9_neededRequest_46 ?_
      exact r_aret C E0 hr (Or.inl ⟨_, rfl⟩) (x := (some b71)) ⟨_, rfl, h⟩ dX9_neededRequest_49
    · replace h := h.2 c
      exact r_throwW hL hfl C E0 hex th_RX9_23_27 st_RX9_296 h rfl (Nat.le_of_ble_eq_true rfl) (Nat.le_of_ble_eq_true rfl) dX9_neededRequest_21 dX9_neededRequest_24 dX9_neededRequest_25 dX9_neededRequest_28 dX9_neededRequest_31
def wX9_request (X : Xt) (G : Gt) (a0 : Nat) (x1 : Int32) (x2 : Int32) (Pr : Int32 → Gt → Prop) (Px : String → Gt → Prop) : Prop := gT G a0 = (1, 10) ∧ wX9_neededRequest X G a0 x1 (fun r1 G2 => ∃ b3, r1 = some b3 ∧ (x2.toInt < 0 ∨ 8 < x2.toInt → gH G2 + 1 ≤ xC X ∧ gU G2 + 6 ≤ xS X ∧ ∀ h u, gH G2 ≤ h → h ≤ gH G2 + 1 → gU G2 ≤ u → u ≤ gU G2 + 6 → Px "java/lang/IndexOutOfBoundsException" (nX G2 h u)) ∧ (x2 = 0 → gT G2 b3 = (1, 9) ∧ Pr (gI G2 288 b3) G2) ∧ (x2 = 1 → gT G2 b3 = (1, 9) ∧ Pr (gI G2 289 b3) G2) ∧ (x2 = 2 → gT G2 b3 = (1, 9) ∧ Pr (gI G2 290 b3) G2) ∧ (x2 = 3 → gT G2 b3 = (1, 9) ∧ Pr (gI G2 291 b3) G2) ∧ (x2 = 4 → gT G2 b3 = (1, 9) ∧ ((gI G2 293 b3) = 0 → Pr 0 G2) ∧ (¬ ((gI G2 293 b3) = 0) → Pr 1 G2)) ∧ (x2 = 5 → gT G2 b3 = (1, 9) ∧ Pr (gI G2 295 b3) G2) ∧ (x2 = 6 → gT G2 b3 = (1, 9) ∧ Pr (gI G2 296 b3) G2) ∧ (x2 = 7 → gT G2 b3 = (1, 9) ∧ Pr (gI G2 297 b3) G2) ∧ (x2 = 8 → gT G2 b3 = (1, 9) ∧ ((gI G2 298 b3) = 0 → Pr 0 G2) ∧ (¬ ((gI G2 298 b3) = 0) → Pr 1 G2))) Px
set_option maxRecDepth 20000 in
theorem mX9_request {X : Xt} {l : Launch} (hfl : l.stackTraces = false) {G : Gt} {a0 : Nat} {x1 : Int32} {x2 : Int32} {Pr : Int32 → Gt → Prop} {Px : String → Gt → Prop} (h : wX9_request X G a0 x1 x2 Pr Px) : Mc X l yX9_request (.code yX9_request cX9_request 4 (some (.int))) 7 121 [.ref a0, .int x1, .int x2] G (rI Pr) Px := by
  refine Mc.of (by decide +kernel) hfl [some (.ref a0), some (.int x1), some (.int x2), none] rfl (Nat.le_of_ble_eq_true rfl) rfl ?_
  intro K hL C E0 hr hnm hex
  have B : BX X K l cX9_request 4 RX9 7 121 G (some (.int)) "request" := ⟨hL, C, E0, hr, hnm, hex, hfl⟩
  have C : Cx X K cX9_request 4 RX9 7 121 := C
  unfold wX9_request at h
  refine r_aloadR_n C 0 dX9_request_0 rfl rfl ?_
  refine r_iload_n C 1 dX9_request_1 rfl rfl ?_
  obtain ⟨ht, h⟩ := h
  refine r_callV C (r := (RX9, TX9, 3)) hL yw_X9_neededRequest vw_RX9_113 rfl rfl ht rfl rfl (Nat.le_of_ble_eq_true rfl) ⟨(Nat.le_of_ble_eq_true rfl), (Nat.le_of_ble_eq_true rfl)⟩ (mX9_neededRequest hfl h) rfl dX9_request_2 (kA' (fun r1 G2 h => ?_)) (kO C E0 hex)
  obtain ⟨b3, hb, h⟩ := h
  subst hb
  refine r_astoreR_n C 3 (lv' := [some (.ref a0), some (.int x1), some (.int x2), some (.ref b3)]) dX9_request_5 rfl (Nat.le_of_ble_eq_true rfl) rfl rfl ?_
  refine r_iload_n C 2 dX9_request_6 rfl rfl ?_
  by_cases c : x2.toInt < 0 ∨ 8 < x2.toInt
  · refine r_tableOut C 117 dX9_request_7 c (by decide) ?_
    replace h := h.1 c
    exact r_throw hL hfl C E0 hex th_RX9_23_27 st_RX9_145 h rfl (Nat.le_of_ble_eq_true rfl) (Nat.le_of_ble_eq_true rfl) dX9_request_117 dX9_request_120 dX9_request_121 dX9_request_123 dX9_request_126
  · rcases sw_cases8 x2 c with c | c | c | c | c | c | c | c | c
    · replace h := h.2.1 c
      refine r_tableIn C 56 dX9_request_7 (by rw [c]; decide) (by rw [c]; decide) (by rw [c]; rfl) (by decide) ?_
      refine r_aloadR_n C 3 dX9_request_56 rfl rfl ?_
      obtain ⟨ht, h⟩ := h
      refine r_getI C fw_RX9_117 rfl ht dX9_request_57 ?_
      exact r_iret C E0 hr ⟨_, rfl, h⟩ dX9_request_60
    · replace h := h.2.2.1 c
      refine r_tableIn C 61 dX9_request_7 (by rw [c]; decide) (by rw [c]; decide) (by rw [c]; rfl) (by decide) ?_
      refine r_aloadR_n C 3 dX9_request_61 rfl rfl ?_
      obtain ⟨ht, h⟩ := h
      refine r_getI C fw_RX9_120 rfl ht dX9_request_62 ?_
      exact r_iret C E0 hr ⟨_, rfl, h⟩ dX9_request_65
    · replace h := h.2.2.2.1 c
      refine r_tableIn C 66 dX9_request_7 (by rw [c]; decide) (by rw [c]; decide) (by rw [c]; rfl) (by decide) ?_
      refine r_aloadR_n C 3 dX9_request_66 rfl rfl ?_
      obtain ⟨ht, h⟩ := h
      refine r_getI C fw_RX9_123 rfl ht dX9_request_67 ?_
      exact r_iret C E0 hr ⟨_, rfl, h⟩ dX9_request_70
    · replace h := h.2.2.2.2.1 c
      refine r_tableIn C 71 dX9_request_7 (by rw [c]; decide) (by rw [c]; decide) (by rw [c]; rfl) (by decide) ?_
      refine r_aloadR_n C 3 dX9_request_71 rfl rfl ?_
      obtain ⟨ht, h⟩ := h
      refine r_getI C fw_RX9_126 rfl ht dX9_request_72 ?_
      exact r_iret C E0 hr ⟨_, rfl, h⟩ dX9_request_75
    · replace h := h.2.2.2.2.2.1 c
      refine r_tableIn C 76 dX9_request_7 (by rw [c]; decide) (by rw [c]; decide) (by rw [c]; rfl) (by decide) ?_
      refine r_aloadR_n C 3 dX9_request_76 rfl rfl ?_
      obtain ⟨ht, h⟩ := h
      refine r_getI C fw_RX9_129 rfl ht dX9_request_77 ?_
      refine r_if_eq C 87 dX9_request_80 (by decide) (fun c => ?_) (fun c => ?_)
      · replace h := h.1 c
        refine r_iconst C 0 dX9_request_87 (by decide) ?_
        exact r_iret C E0 hr ⟨_, rfl, h⟩ dX9_request_88
      · replace h := h.2 c
        refine r_iconst C 1 dX9_request_83 (by decide) ?_
        refine r_goto C 88 dX9_request_84 (by decide) ?_
        exact r_iret C E0 hr ⟨_, rfl, h⟩ dX9_request_88
    · replace h := h.2.2.2.2.2.2.1 c
      refine r_tableIn C 89 dX9_request_7 (by rw [c]; decide) (by rw [c]; decide) (by rw [c]; rfl) (by decide) ?_
      refine r_aloadR_n C 3 dX9_request_89 rfl rfl ?_
      obtain ⟨ht, h⟩ := h
      refine r_getI C fw_RX9_133 rfl ht dX9_request_90 ?_
      exact r_iret C E0 hr ⟨_, rfl, h⟩ dX9_request_93
    · replace h := h.2.2.2.2.2.2.2.1 c
      refine r_tableIn C 94 dX9_request_7 (by rw [c]; decide) (by rw [c]; decide) (by rw [c]; rfl) (by decide) ?_
      refine r_aloadR_n C 3 dX9_request_94 rfl rfl ?_
      obtain ⟨ht, h⟩ := h
      refine r_getI C fw_RX9_136 rfl ht dX9_request_95 ?_
      exact r_iret C E0 hr ⟨_, rfl, h⟩ dX9_request_98
    · replace h := h.2.2.2.2.2.2.2.2.1 c
      refine r_tableIn C 99 dX9_request_7 (by rw [c]; decide) (by rw [c]; decide) (by rw [c]; rfl) (by decide) ?_
      refine r_aloadR_n C 3 dX9_request_99 rfl rfl ?_
      obtain ⟨ht, h⟩ := h
      refine r_getI C fw_RX9_139 rfl ht dX9_request_100 ?_
      exact r_iret C E0 hr ⟨_, rfl, h⟩ dX9_request_103
    · replace h := h.2.2.2.2.2.2.2.2.2 c
      refine r_tableIn C 104 dX9_request_7 (by rw [c]; decide) (by rw [c]; decide) (by rw [c]; rfl) (by decide) ?_
      refine r_aloadR_n C 3 dX9_request_104 rfl rfl ?_
      obtain ⟨ht, h⟩ := h
      refine r_getI C fw_RX9_142 rfl ht dX9_request_105 ?_
      refine r_if_eq C 115 dX9_request_108 (by decide) (fun c => ?_) (fun c => ?_)
      · replace h := h.1 c
        refine r_iconst C 0 dX9_request_115 (by decide) ?_
        exact r_iret C E0 hr ⟨_, rfl, h⟩ dX9_request_116
      · replace h := h.2 c
        refine r_iconst C 1 dX9_request_111 (by decide) ?_
        refine r_goto C 116 dX9_request_112 (by decide) ?_
        exact r_iret C E0 hr ⟨_, rfl, h⟩ dX9_request_116
def wX9_value (X : Xt) (G : Gt) (a0 : Nat) (x1 : Int32) (x2 : Int32) (Pr : Int32 → Gt → Prop) (Px : String → Gt → Prop) : Prop := gT G a0 = (1, 10) ∧ wX9_neededRequest X G a0 x1 (fun r1 G2 => ∃ b3, r1 = some b3 ∧ (x2 < 0 → gH G2 + 1 ≤ xC X ∧ gU G2 + 6 ≤ xS X ∧ ∀ h u, gH G2 ≤ h → h ≤ gH G2 + 1 → gU G2 ≤ u → u ≤ gU G2 + 6 → Px "java/lang/IndexOutOfBoundsException" (nX G2 h u)) ∧ (¬ (x2 < 0) → gT G2 b3 = (1, 9) ∧ (x2 < (gI G2 291 b3) → gT G2 b3 = (1, 9) ∧ wX8_isReadDone X G2 b3 (fun r64 G65 => (¬ r64 = 0 → gT G65 b3 = (1, 9) ∧ ∃ b86, gR G65 294 b3 = some b86 ∧ (gT G65 b86).1 = 2 ∧ vp_in x2 (gT G65 b86).2 ∧ Pr (gA G65 b86 x2.toNatClampNeg) G65) ∧ (r64 = 0 → gH G65 + 1 ≤ xC X ∧ gU G65 + 6 ≤ xS X ∧ ∀ h u, gH G65 ≤ h → h ≤ gH G65 + 1 → gU G65 ≤ u → u ≤ gU G65 + 6 → Px "java/lang/IllegalStateException" (nX G65 h u)))) ∧ (¬ (x2 < (gI G2 291 b3)) → gH G2 + 1 ≤ xC X ∧ gU G2 + 6 ≤ xS X ∧ ∀ h u, gH G2 ≤ h → h ≤ gH G2 + 1 → gU G2 ≤ u → u ≤ gU G2 + 6 → Px "java/lang/IndexOutOfBoundsException" (nX G2 h u)))) Px
set_option maxRecDepth 20000 in
theorem mX9_value {X : Xt} {l : Launch} (hfl : l.stackTraces = false) {G : Gt} {a0 : Nat} {x1 : Int32} {x2 : Int32} {Pr : Int32 → Gt → Prop} {Px : String → Gt → Prop} (h : wX9_value X G a0 x1 x2 Pr Px) : Mc X l yX9_value (.code yX9_value cX9_value 4 (some (.int))) 7 121 [.ref a0, .int x1, .int x2] G (rI Pr) Px := by
  refine Mc.of (by decide +kernel) hfl [some (.ref a0), some (.int x1), some (.int x2), none] rfl (Nat.le_of_ble_eq_true rfl) rfl ?_
  intro K hL C E0 hr hnm hex
  have B : BX X K l cX9_value 4 RX9 7 121 G (some (.int)) "value" := ⟨hL, C, E0, hr, hnm, hex, hfl⟩
  have C : Cx X K cX9_value 4 RX9 7 121 := C
  unfold wX9_value at h
  refine r_aloadR_n C 0 dX9_value_0 rfl rfl ?_
  refine r_iload_n C 1 dX9_value_1 rfl rfl ?_
  obtain ⟨ht, h⟩ := h
  refine r_callV C (r := (RX9, TX9, 3)) hL yw_X9_neededRequest vw_RX9_113 rfl rfl ht rfl rfl (Nat.le_of_ble_eq_true rfl) ⟨(Nat.le_of_ble_eq_true rfl), (Nat.le_of_ble_eq_true rfl)⟩ (mX9_neededRequest hfl h) rfl dX9_value_2 (kA' (fun r1 G2 h => ?_)) (kO C E0 hex)
  obtain ⟨b3, hb, h⟩ := h
  subst hb
  refine r_astoreR_n C 3 (lv' := [some (.ref a0), some (.int x1), some (.int x2), some (.ref b3)]) dX9_value_5 rfl (Nat.le_of_ble_eq_true rfl) rfl rfl ?_
  refine r_iload_n C 2 dX9_value_6 rfl rfl ?_
  refine r_if_lt C 18 dX9_value_7 (by decide) (fun c => ?_) (fun c => ?_)
  · replace h := h.1 c
    exact r_throw hL hfl C E0 hex th_RX9_23_27 st_RX9_147 h rfl (Nat.le_of_ble_eq_true rfl) (Nat.le_of_ble_eq_true rfl) dX9_value_18 dX9_value_21 dX9_value_22 dX9_value_24 dX9_value_27
  · replace h := h.2 c
    refine r_iload_n C 2 dX9_value_10 rfl rfl ?_
    refine r_aloadR_n C 3 dX9_value_11 rfl rfl ?_
    obtain ⟨ht, h⟩ := h
    refine r_getI C fw_RX9_126 rfl ht dX9_value_12 ?_
    refine r_icmp_lt C 28 dX9_value_15 (by decide) (fun c => ?_) (fun c => ?_)
    · replace h := h.1 c
      refine r_aloadR_n C 3 dX9_value_28 rfl rfl ?_
      obtain ⟨ht, h⟩ := h
      refine r_callV C (r := (RX8, TX8, 11)) hL yw_X8_isReadDone vw_RX9_149 rfl rfl ht rfl rfl (Nat.le_of_ble_eq_true rfl) ⟨(Nat.le_of_ble_eq_true rfl), (Nat.le_of_ble_eq_true rfl)⟩ (mX8_isReadDone hfl h) rfl dX9_value_29 (kI (fun r64 G65 h => ?_)) kN
      refine r_if_ne C 45 dX9_value_32 (by decide) (fun c => ?_) (fun c => ?_)
      · replace h := h.1 c
        refine r_aloadR_n C 3 dX9_value_45 rfl rfl ?_
        obtain ⟨ht, h⟩ := h
        obtain ⟨b86, hb, h⟩ := h
        refine r_getR C fw_RX9_110 rfl ht hb dX9_value_46 ?_
        refine r_iload_n C 2 dX9_value_49 rfl rfl ?_
        obtain ⟨ht, hi, h⟩ := h
        refine r_ialdP C ht hi dX9_value_50 ?_
        exact r_iret C E0 hr ⟨_, rfl, h⟩ dX9_value_51
      · replace h := h.2 c
        exact r_throw hL hfl C E0 hex th_RX9_81_85 st_RX9_153 h rfl (Nat.le_of_ble_eq_true rfl) (Nat.le_of_ble_eq_true rfl) dX9_value_35 dX9_value_38 dX9_value_39 dX9_value_41 dX9_value_44
    · replace h := h.2 c
      exact r_throw hL hfl C E0 hex th_RX9_23_27 st_RX9_147 h rfl (Nat.le_of_ble_eq_true rfl) (Nat.le_of_ble_eq_true rfl) dX9_value_18 dX9_value_21 dX9_value_22 dX9_value_24 dX9_value_27
def wX9_needState (X : Xt) (G : Gt) (x0 : Int32) (Pr : Gt → Prop) (Px : String → Gt → Prop) : Prop := (x0 < 0 → gH G + 1 ≤ xC X ∧ gU G + 6 ≤ xS X ∧ ∀ h u, gH G ≤ h → h ≤ gH G + 1 → gU G ≤ u → u ≤ gU G + 6 → Px "java/lang/IndexOutOfBoundsException" (nX G h u)) ∧ (¬ (x0 < 0) → (x0 < 3 → Pr G) ∧ (¬ (x0 < 3) → gH G + 1 ≤ xC X ∧ gU G + 6 ≤ xS X ∧ ∀ h u, gH G ≤ h → h ≤ gH G + 1 → gU G ≤ u → u ≤ gU G + 6 → Px "java/lang/IndexOutOfBoundsException" (nX G h u)))
set_option maxRecDepth 20000 in
theorem mX9_needState {X : Xt} {l : Launch} (hfl : l.stackTraces = false) {G : Gt} {x0 : Int32} {Pr : Gt → Prop} {Px : String → Gt → Prop} (h : wX9_needState X G x0 Pr Px) : Mc X l yX9_needState (.code yX9_needState cX9_needState 1 none) 6 100 [.int x0] G (rV Pr) Px := by
  refine Mc.of (by decide +kernel) hfl [some (.int x0)] rfl (Nat.le_of_ble_eq_true rfl) rfl ?_
  intro K hL C E0 hr hnm hex
  have B : BX X K l cX9_needState 1 RX9 6 100 G none "needState" := ⟨hL, C, E0, hr, hnm, hex, hfl⟩
  have C : Cx X K cX9_needState 1 RX9 6 100 := C
  unfold wX9_needState at h
  refine r_iload_n C 0 dX9_needState_0 rfl rfl ?_
  refine r_if_lt C 9 dX9_needState_1 (by decide) (fun c => ?_) (fun c => ?_)
  · replace h := h.1 c
    exact r_throwW hL hfl C E0 hex th_RX9_23_27 st_RX9_292 h rfl (Nat.le_of_ble_eq_true rfl) (Nat.le_of_ble_eq_true rfl) dX9_needState_9 dX9_needState_12 dX9_needState_13 dX9_needState_16 dX9_needState_19
  · replace h := h.2 c
    refine r_iload_n C 0 dX9_needState_4 rfl rfl ?_
    refine r_iconst C 3 dX9_needState_5 (by decide) ?_
    refine r_icmp_lt C 20 dX9_needState_6 (by decide) (fun c => ?_) (fun c => ?_)
    · replace h := h.1 c
      exact r_vret C E0 hr ⟨rfl, h⟩ dX9_needState_20
    · replace h := h.2 c
      exact r_throwW hL hfl C E0 hex th_RX9_23_27 st_RX9_292 h rfl (Nat.le_of_ble_eq_true rfl) (Nat.le_of_ble_eq_true rfl) dX9_needState_9 dX9_needState_12 dX9_needState_13 dX9_needState_16 dX9_needState_19
def wX9_requests_8 (X : Xt) (Pr : Int32 → Gt → Prop) (Px : String → Gt → Prop) (k8 : Gt → Nat → Int32 → Int32 → Int32 → Prop) (G : Gt) (a0 : Nat) (x1 : Int32) (x2 : Int32) (x3 : Int32) : Prop := (4 ≤ x3 → Pr x2 G) ∧ (¬ (4 ≤ x3) → gT G a0 = (1, 10) ∧ ∃ b41, gR G 320 a0 = some b41 ∧ gT G b41 = (1, 2) ∧ ∃ b42, gR G 68 b41 = some b42 ∧ gT G b42 = (1, 7) ∧ wX6_countOf X G b42 x3 x1 (fun r43 G44 => k8 G44 a0 x1 (x2 + r43) (x3 + 1)) Px)
set_option maxRecDepth 20000 in
theorem bX9_requests_8 {X : Xt} {K : Kt} {l : Launch} {G0 : Gt} {Pr : Int32 → Gt → Prop} {Px : String → Gt → Prop} (B : BX X K l cX9_requests 4 RX9 7 120 G0 (some (.int)) "requests") {k8 : Gt → Nat → Int32 → Int32 → Int32 → Prop} (hk8 : ∀ (G : Gt) (a0 : Nat) (x1 : Int32) (x2 : Int32) (x3 : Int32), k8 G a0 x1 x2 x3 → WM X K (QM X K G0 (rI Pr) Px) G 8 [some (.ref a0), some (.int x1), some (.int x2), some (.int x3)] []) {G : Gt} {a0 : Nat} {x1 : Int32} {x2 : Int32} {x3 : Int32} (h : wX9_requests_8 X Pr Px k8 G a0 x1 x2 x3) : WM X K (QM X K G0 (rI Pr) Px) G 8 [some (.ref a0), some (.int x1), some (.int x2), some (.int x3)] [] := by
  obtain ⟨hL, C, E0, hr, hnm, hex, hfl⟩ := id B
  unfold wX9_requests_8 at h
  refine r_iload_n C 3 dX9_requests_8 rfl rfl ?_
  refine r_iconst C 4 dX9_requests_9 (by decide) ?_
  refine r_icmp_ge C 34 dX9_requests_10 (by decide) (fun c => ?_) (fun c => ?_)
  · replace h := h.1 c
    refine r_iload_n C 2 dX9_requests_34 rfl rfl ?_
    exact r_iret C E0 hr ⟨_, rfl, h⟩ dX9_requests_35
  · replace h := h.2 c
    refine r_iload_n C 2 dX9_requests_13 rfl rfl ?_
    refine r_aloadR_n C 0 dX9_requests_14 rfl rfl ?_
    obtain ⟨ht, h⟩ := h
    obtain ⟨b41, hb, h⟩ := h
    refine r_getR C fw_RX9_10 rfl ht hb dX9_requests_15 ?_
    obtain ⟨ht, h⟩ := h
    obtain ⟨b42, hb, h⟩ := h
    refine r_getR C fw_RX9_95 rfl ht hb dX9_requests_18 ?_
    refine r_iload_n C 3 dX9_requests_21 rfl rfl ?_
    refine r_iload_n C 1 dX9_requests_22 rfl rfl ?_
    obtain ⟨ht, h⟩ := h
    refine r_callV C (r := (RX6, TX6, 7)) hL yw_X6_countOf vw_RX9_158 rfl rfl ht rfl rfl (Nat.le_of_ble_eq_true rfl) ⟨(Nat.le_of_ble_eq_true rfl), (Nat.le_of_ble_eq_true rfl)⟩ (mX6_countOf hfl h) rfl dX9_requests_23 (kI (fun r43 G44 h => ?_)) (kO C E0 hex)
    refine r_iadd C dX9_requests_26 ?_
    refine r_istore_n C 2 (lv' := [some (.ref a0), some (.int x1), some (.int (x2 + r43)), some (.int x3)]) dX9_requests_27 rfl (Nat.le_of_ble_eq_true rfl) rfl rfl ?_
    refine r_iinc C 1 (lv' := [some (.ref a0), some (.int x1), some (.int (x2 + r43)), some (.int (x3 + 1))]) dX9_requests_28 rfl (by decide) rfl rfl ?_
    refine r_goto C 8 dX9_requests_31 (by decide) ?_
    exact hk8 _ _ _ _ _ h
theorem lX9_requests_8 {X : Xt} {K : Kt} {l : Launch} {G0 : Gt} {Pr : Int32 → Gt → Prop} {Px : String → Gt → Prop} (B : BX X K l cX9_requests 4 RX9 7 120 G0 (some (.int)) "requests") (I : Gt → Nat → Int32 → Int32 → Int32 → Prop) (μ : Gt → Nat → Int32 → Int32 → Int32 → Nat) (hS : ∀ (G : Gt) (a0 : Nat) (x1 : Int32) (x2 : Int32) (x3 : Int32), I G a0 x1 x2 x3 → wX9_requests_8 X Pr Px (fun G' a0' x1' x2' x3' => I G' a0' x1' x2' x3' ∧ μ G' a0' x1' x2' x3' < μ G a0 x1 x2 x3) G a0 x1 x2 x3) : ∀ (n : Nat) (G : Gt) (a0 : Nat) (x1 : Int32) (x2 : Int32) (x3 : Int32), μ G a0 x1 x2 x3 < n → I G a0 x1 x2 x3 → WM X K (QM X K G0 (rI Pr) Px) G 8 [some (.ref a0), some (.int x1), some (.int x2), some (.int x3)] [] := by
  intro n
  induction n with
  | zero => intro G a0 x1 x2 x3 hm; exact absurd hm (Nat.not_lt_zero _)
  | succ n ih =>
    intro G a0 x1 x2 x3 hm hi
    exact bX9_requests_8 B (fun G' a0' x1' x2' x3' hk => ih G' a0' x1' x2' x3' (Nat.lt_of_lt_of_le hk.2 (Nat.le_of_lt_succ hm)) hk.1) (hS G a0 x1 x2 x3 hi)
def wX9_requests (X : Xt) (G : Gt) (a0 : Nat) (x1 : Int32) (Pr : Int32 → Gt → Prop) (Px : String → Gt → Prop) : Prop := wX9_needState X G x1 (fun G1 => ∃ (I : Gt → Nat → Int32 → Int32 → Int32 → Prop) (μ : Gt → Nat → Int32 → Int32 → Int32 → Nat), I G1 a0 x1 (0 : Int32) (0 : Int32) ∧ ∀ (G : Gt) (a0 : Nat) (x1 : Int32) (x2 : Int32) (x3 : Int32), I G a0 x1 x2 x3 → wX9_requests_8 X Pr Px (fun G' a0' x1' x2' x3' => I G' a0' x1' x2' x3' ∧ μ G' a0' x1' x2' x3' < μ G a0 x1 x2 x3) G a0 x1 x2 x3) Px
set_option maxRecDepth 20000 in
theorem mX9_requests {X : Xt} {l : Launch} (hfl : l.stackTraces = false) {G : Gt} {a0 : Nat} {x1 : Int32} {Pr : Int32 → Gt → Prop} {Px : String → Gt → Prop} (h : wX9_requests X G a0 x1 Pr Px) : Mc X l yX9_requests (.code yX9_requests cX9_requests 4 (some (.int))) 7 120 [.ref a0, .int x1] G (rI Pr) Px := by
  refine Mc.of (by decide +kernel) hfl [some (.ref a0), some (.int x1), none, none] rfl (Nat.le_of_ble_eq_true rfl) rfl ?_
  intro K hL C E0 hr hnm hex
  have B : BX X K l cX9_requests 4 RX9 7 120 G (some (.int)) "requests" := ⟨hL, C, E0, hr, hnm, hex, hfl⟩
  have C : Cx X K cX9_requests 4 RX9 7 120 := C
  unfold wX9_requests at h
  refine r_iload_n C 1 dX9_requests_0 rfl rfl ?_
  refine r_callS C hL yw_X9_needState sw_RX9_155 rfl rfl (Nat.le_of_ble_eq_true rfl) ⟨(Nat.le_of_ble_eq_true rfl), (Nat.le_of_ble_eq_true rfl)⟩ (mX9_needState hfl h) rfl dX9_requests_1 (kV' (fun G1 h => ?_)) (kO C E0 hex)
  refine r_iconst C 0 dX9_requests_4 (by decide) ?_
  refine r_istore_n C 2 (lv' := [some (.ref a0), some (.int x1), some (.int 0), none]) dX9_requests_5 rfl (Nat.le_of_ble_eq_true rfl) rfl rfl ?_
  refine r_iconst C 0 dX9_requests_6 (by decide) ?_
  refine r_istore_n C 3 (lv' := [some (.ref a0), some (.int x1), some (.int 0), some (.int 0)]) dX9_requests_7 rfl (Nat.le_of_ble_eq_true rfl) rfl rfl ?_
  obtain ⟨I, μ, hI, hS⟩ := h
  exact lX9_requests_8 B I μ hS _ _ _ _ _ _ (Nat.lt_succ_self _) hI
def wX9_requestsOf (X : Xt) (G : Gt) (a0 : Nat) (x1 : Int32) (x2 : Int32) (Pr : Int32 → Gt → Prop) (Px : String → Gt → Prop) : Prop := wX9_needClient X G x1 (fun G1 => wX9_needState X G1 x2 (fun G2 => gT G2 a0 = (1, 10) ∧ ∃ b3, gR G2 320 a0 = some b3 ∧ gT G2 b3 = (1, 2) ∧ ∃ b4, gR G2 68 b3 = some b4 ∧ gT G2 b4 = (1, 7) ∧ wX6_countOf X G2 b4 x1 x2 (fun r5 G6 => Pr r5 G6) Px) Px) Px
set_option maxRecDepth 20000 in
theorem mX9_requestsOf {X : Xt} {l : Launch} (hfl : l.stackTraces = false) {G : Gt} {a0 : Nat} {x1 : Int32} {x2 : Int32} {Pr : Int32 → Gt → Prop} {Px : String → Gt → Prop} (h : wX9_requestsOf X G a0 x1 x2 Pr Px) : Mc X l yX9_requestsOf (.code yX9_requestsOf cX9_requestsOf 3 (some (.int))) 7 120 [.ref a0, .int x1, .int x2] G (rI Pr) Px := by
  refine Mc.of (by decide +kernel) hfl [some (.ref a0), some (.int x1), some (.int x2)] rfl (Nat.le_of_ble_eq_true rfl) rfl ?_
  intro K hL C E0 hr hnm hex
  have B : BX X K l cX9_requestsOf 3 RX9 7 120 G (some (.int)) "requestsOf" := ⟨hL, C, E0, hr, hnm, hex, hfl⟩
  have C : Cx X K cX9_requestsOf 3 RX9 7 120 := C
  unfold wX9_requestsOf at h
  refine r_iload_n C 1 dX9_requestsOf_0 rfl rfl ?_
  refine r_callS C hL yw_X9_needClient sw_RX9_89 rfl rfl (Nat.le_of_ble_eq_true rfl) ⟨(Nat.le_of_ble_eq_true rfl), (Nat.le_of_ble_eq_true rfl)⟩ (mX9_needClient hfl h) rfl dX9_requestsOf_1 (kV' (fun G1 h => ?_)) (kO C E0 hex)
  refine r_iload_n C 2 dX9_requestsOf_4 rfl rfl ?_
  refine r_callS C hL yw_X9_needState sw_RX9_155 rfl rfl (Nat.le_of_ble_eq_true rfl) ⟨(Nat.le_of_ble_eq_true rfl), (Nat.le_of_ble_eq_true rfl)⟩ (mX9_needState hfl h) rfl dX9_requestsOf_5 (kV' (fun G2 h => ?_)) (kO C E0 hex)
  refine r_aloadR_n C 0 dX9_requestsOf_8 rfl rfl ?_
  obtain ⟨ht, h⟩ := h
  obtain ⟨b3, hb, h⟩ := h
  refine r_getR C fw_RX9_10 rfl ht hb dX9_requestsOf_9 ?_
  obtain ⟨ht, h⟩ := h
  obtain ⟨b4, hb, h⟩ := h
  refine r_getR C fw_RX9_95 rfl ht hb dX9_requestsOf_12 ?_
  refine r_iload_n C 1 dX9_requestsOf_15 rfl rfl ?_
  refine r_iload_n C 2 dX9_requestsOf_16 rfl rfl ?_
  obtain ⟨ht, h⟩ := h
  refine r_callV C (r := (RX6, TX6, 7)) hL yw_X6_countOf vw_RX9_158 rfl rfl ht rfl rfl (Nat.le_of_ble_eq_true rfl) ⟨(Nat.le_of_ble_eq_true rfl), (Nat.le_of_ble_eq_true rfl)⟩ (mX6_countOf hfl h) rfl dX9_requestsOf_17 (kI (fun r5 G6 h => ?_)) (kO C E0 hex)
  exact r_iret C E0 hr ⟨_, rfl, h⟩ dX9_requestsOf_20
def wX9_step (X : Xt) (G : Gt) (a0 : Nat) (Pr : Int32 → Gt → Prop) (Px : String → Gt → Prop) : Prop := gT G a0 = (1, 10) ∧ ∃ b1, gR G 320 a0 = some b1 ∧ gT G b1 = (1, 2) ∧ wX1_takeStep X G b1 (fun r2 G3 => Pr r2 G3) Px
set_option maxRecDepth 20000 in
theorem mX9_step {X : Xt} {l : Launch} (hfl : l.stackTraces = false) {G : Gt} {a0 : Nat} {Pr : Int32 → Gt → Prop} {Px : String → Gt → Prop} (h : wX9_step X G a0 Pr Px) : Mc X l yX9_step (.code yX9_step cX9_step 1 (some (.int))) 11 264 [.ref a0] G (rI Pr) Px := by
  refine Mc.of (by decide +kernel) hfl [some (.ref a0)] rfl (Nat.le_of_ble_eq_true rfl) rfl ?_
  intro K hL C E0 hr hnm hex
  have B : BX X K l cX9_step 1 RX9 11 264 G (some (.int)) "step" := ⟨hL, C, E0, hr, hnm, hex, hfl⟩
  have C : Cx X K cX9_step 1 RX9 11 264 := C
  unfold wX9_step at h
  refine r_aloadR_n C 0 dX9_step_0 rfl rfl ?_
  obtain ⟨ht, h⟩ := h
  obtain ⟨b1, hb, h⟩ := h
  refine r_getR C fw_RX9_10 rfl ht hb dX9_step_1 ?_
  obtain ⟨ht, h⟩ := h
  refine r_callV C (r := (RX1, TX1, 11)) hL yw_X1_takeStep vw_RX9_162 rfl rfl ht rfl rfl (Nat.le_of_ble_eq_true rfl) ⟨(Nat.le_of_ble_eq_true rfl), (Nat.le_of_ble_eq_true rfl)⟩ (mX1_takeStep hfl h) rfl dX9_step_4 (kI (fun r2 G3 h => ?_)) (kO C E0 hex)
  exact r_iret C E0 hr ⟨_, rfl, h⟩ dX9_step_7
def wX9_finish_10 (X : Xt) (Pr : Int32 → Gt → Prop) (Px : String → Gt → Prop) (k10 : Gt → Nat → Int32 → Int32 → Prop) (G : Gt) (a0 : Nat) (x1 : Int32) (x2 : Int32) : Prop := (40 ≤ x2 → gT G a0 = (1, 10) ∧ ∃ b21, gR G 320 a0 = some b21 ∧ gT G b21 = (1, 2) ∧ Pr (gI G 71 b21) G) ∧ (¬ (40 ≤ x2) → (x1 ≤ 0 → gT G a0 = (1, 10) ∧ ∃ b61, gR G 320 a0 = some b61 ∧ gT G b61 = (1, 2) ∧ Pr (gI G 71 b61) G) ∧ (¬ (x1 ≤ 0) → gT G a0 = (1, 10) ∧ ∃ b81, gR G 320 a0 = some b81 ∧ gT G b81 = (1, 2) ∧ wX1_takeStep X G b81 (fun r82 G83 => k10 G83 a0 r82 (x2 + 1)) Px))
set_option maxRecDepth 20000 in
theorem bX9_finish_10 {X : Xt} {K : Kt} {l : Launch} {G0 : Gt} {Pr : Int32 → Gt → Prop} {Px : String → Gt → Prop} (B : BX X K l cX9_finish 3 RX9 11 264 G0 (some (.int)) "finish") {k10 : Gt → Nat → Int32 → Int32 → Prop} (hk10 : ∀ (G : Gt) (a0 : Nat) (x1 : Int32) (x2 : Int32), k10 G a0 x1 x2 → WM X K (QM X K G0 (rI Pr) Px) G 10 [some (.ref a0), some (.int x1), some (.int x2)] []) {G : Gt} {a0 : Nat} {x1 : Int32} {x2 : Int32} (h : wX9_finish_10 X Pr Px k10 G a0 x1 x2) : WM X K (QM X K G0 (rI Pr) Px) G 10 [some (.ref a0), some (.int x1), some (.int x2)] [] := by
  obtain ⟨hL, C, E0, hr, hnm, hex, hfl⟩ := id B
  unfold wX9_finish_10 at h
  refine r_iload_n C 2 dX9_finish_10 rfl rfl ?_
  refine r_bipush C 40 dX9_finish_11 (by decide) ?_
  refine r_icmp_ge C 34 dX9_finish_13 (by decide) (fun c => ?_) (fun c => ?_)
  · replace h := h.1 c
    refine r_aloadR_n C 0 dX9_finish_34 rfl rfl ?_
    obtain ⟨ht, h⟩ := h
    obtain ⟨b21, hb, h⟩ := h
    refine r_getR C fw_RX9_10 rfl ht hb dX9_finish_35 ?_
    obtain ⟨ht, h⟩ := h
    refine r_getI C fw_RX9_166 rfl ht dX9_finish_38 ?_
    exact r_iret C E0 hr ⟨_, rfl, h⟩ dX9_finish_41
  · replace h := h.2 c
    refine r_iload_n C 1 dX9_finish_16 rfl rfl ?_
    refine r_if_le C 34 dX9_finish_17 (by decide) (fun c => ?_) (fun c => ?_)
    · replace h := h.1 c
      refine r_aloadR_n C 0 dX9_finish_34 rfl rfl ?_
      obtain ⟨ht, h⟩ := h
      obtain ⟨b61, hb, h⟩ := h
      refine r_getR C fw_RX9_10 rfl ht hb dX9_finish_35 ?_
      obtain ⟨ht, h⟩ := h
      refine r_getI C fw_RX9_166 rfl ht dX9_finish_38 ?_
      exact r_iret C E0 hr ⟨_, rfl, h⟩ dX9_finish_41
    · replace h := h.2 c
      refine r_aloadR_n C 0 dX9_finish_20 rfl rfl ?_
      obtain ⟨ht, h⟩ := h
      obtain ⟨b81, hb, h⟩ := h
      refine r_getR C fw_RX9_10 rfl ht hb dX9_finish_21 ?_
      obtain ⟨ht, h⟩ := h
      refine r_callV C (r := (RX1, TX1, 11)) hL yw_X1_takeStep vw_RX9_162 rfl rfl ht rfl rfl (Nat.le_of_ble_eq_true rfl) ⟨(Nat.le_of_ble_eq_true rfl), (Nat.le_of_ble_eq_true rfl)⟩ (mX1_takeStep hfl h) rfl dX9_finish_24 (kI (fun r82 G83 h => ?_)) (kO C E0 hex)
      refine r_istore_n C 1 (lv' := [some (.ref a0), some (.int r82), some (.int x2)]) dX9_finish_27 rfl (Nat.le_of_ble_eq_true rfl) rfl rfl ?_
      refine r_iinc C 1 (lv' := [some (.ref a0), some (.int r82), some (.int (x2 + 1))]) dX9_finish_28 rfl (by decide) rfl rfl ?_
      refine r_goto C 10 dX9_finish_31 (by decide) ?_
      exact hk10 _ _ _ _ h
theorem lX9_finish_10 {X : Xt} {K : Kt} {l : Launch} {G0 : Gt} {Pr : Int32 → Gt → Prop} {Px : String → Gt → Prop} (B : BX X K l cX9_finish 3 RX9 11 264 G0 (some (.int)) "finish") (I : Gt → Nat → Int32 → Int32 → Prop) (μ : Gt → Nat → Int32 → Int32 → Nat) (hS : ∀ (G : Gt) (a0 : Nat) (x1 : Int32) (x2 : Int32), I G a0 x1 x2 → wX9_finish_10 X Pr Px (fun G' a0' x1' x2' => I G' a0' x1' x2' ∧ μ G' a0' x1' x2' < μ G a0 x1 x2) G a0 x1 x2) : ∀ (n : Nat) (G : Gt) (a0 : Nat) (x1 : Int32) (x2 : Int32), μ G a0 x1 x2 < n → I G a0 x1 x2 → WM X K (QM X K G0 (rI Pr) Px) G 10 [some (.ref a0), some (.int x1), some (.int x2)] [] := by
  intro n
  induction n with
  | zero => intro G a0 x1 x2 hm; exact absurd hm (Nat.not_lt_zero _)
  | succ n ih =>
    intro G a0 x1 x2 hm hi
    exact bX9_finish_10 B (fun G' a0' x1' x2' hk => ih G' a0' x1' x2' (Nat.lt_of_lt_of_le hk.2 (Nat.le_of_lt_succ hm)) hk.1) (hS G a0 x1 x2 hi)
def wX9_finish (X : Xt) (G : Gt) (a0 : Nat) (Pr : Int32 → Gt → Prop) (Px : String → Gt → Prop) : Prop := gT G a0 = (1, 10) ∧ ∃ b1, gR G 320 a0 = some b1 ∧ gT G b1 = (1, 2) ∧ wX1_takeStep X G b1 (fun r2 G3 => ∃ (I : Gt → Nat → Int32 → Int32 → Prop) (μ : Gt → Nat → Int32 → Int32 → Nat), I G3 a0 r2 (1 : Int32) ∧ ∀ (G : Gt) (a0 : Nat) (x1 : Int32) (x2 : Int32), I G a0 x1 x2 → wX9_finish_10 X Pr Px (fun G' a0' x1' x2' => I G' a0' x1' x2' ∧ μ G' a0' x1' x2' < μ G a0 x1 x2) G a0 x1 x2) Px
set_option maxRecDepth 20000 in
theorem mX9_finish {X : Xt} {l : Launch} (hfl : l.stackTraces = false) {G : Gt} {a0 : Nat} {Pr : Int32 → Gt → Prop} {Px : String → Gt → Prop} (h : wX9_finish X G a0 Pr Px) : Mc X l yX9_finish (.code yX9_finish cX9_finish 3 (some (.int))) 11 264 [.ref a0] G (rI Pr) Px := by
  refine Mc.of (by decide +kernel) hfl [some (.ref a0), none, none] rfl (Nat.le_of_ble_eq_true rfl) rfl ?_
  intro K hL C E0 hr hnm hex
  have B : BX X K l cX9_finish 3 RX9 11 264 G (some (.int)) "finish" := ⟨hL, C, E0, hr, hnm, hex, hfl⟩
  have C : Cx X K cX9_finish 3 RX9 11 264 := C
  unfold wX9_finish at h
  refine r_aloadR_n C 0 dX9_finish_0 rfl rfl ?_
  obtain ⟨ht, h⟩ := h
  obtain ⟨b1, hb, h⟩ := h
  refine r_getR C fw_RX9_10 rfl ht hb dX9_finish_1 ?_
  obtain ⟨ht, h⟩ := h
  refine r_callV C (r := (RX1, TX1, 11)) hL yw_X1_takeStep vw_RX9_162 rfl rfl ht rfl rfl (Nat.le_of_ble_eq_true rfl) ⟨(Nat.le_of_ble_eq_true rfl), (Nat.le_of_ble_eq_true rfl)⟩ (mX1_takeStep hfl h) rfl dX9_finish_4 (kI (fun r2 G3 h => ?_)) (kO C E0 hex)
  refine r_istore_n C 1 (lv' := [some (.ref a0), some (.int r2), none]) dX9_finish_7 rfl (Nat.le_of_ble_eq_true rfl) rfl rfl ?_
  refine r_iconst C 1 dX9_finish_8 (by decide) ?_
  refine r_istore_n C 2 (lv' := [some (.ref a0), some (.int r2), some (.int 1)]) dX9_finish_9 rfl (Nat.le_of_ble_eq_true rfl) rfl rfl ?_
  obtain ⟨I, μ, hI, hS⟩ := h
  exact lX9_finish_10 B I μ hS _ _ _ _ _ (Nat.lt_succ_self _) hI
def wX9_pass (X : Xt) (G : Gt) (a0 : Nat) (x1 : Int32) (Pr : Int32 → Gt → Prop) (Px : String → Gt → Prop) : Prop := wX9_needInRange X G x1 0 10000 (fun G1 => gT G1 a0 = (1, 10) ∧ ∃ b2, gR G1 320 a0 = some b2 ∧ gT G1 b2 = (1, 2) ∧ ((gI G1 71 b2) ≤ (10000000 - x1) → gT G1 a0 = (1, 10) ∧ ∃ b23, gR G1 320 a0 = some b23 ∧ gT G1 b23 = (1, 2) ∧ gT G1 b23 = (1, 2) ∧ ∀ G24, G24 = sI G1 71 b23 ((gI G1 71 b23) + x1) → gT G24 a0 = (1, 10) ∧ ∃ b25, gR G24 320 a0 = some b25 ∧ gT G24 b25 = (1, 2) ∧ Pr (gI G24 71 b25) G24) ∧ (¬ ((gI G1 71 b2) ≤ (10000000 - x1)) → gH G1 + 1 ≤ xC X ∧ gU G1 + 6 ≤ xS X ∧ ∀ h u, gH G1 ≤ h → h ≤ gH G1 + 1 → gU G1 ≤ u → u ≤ gU G1 + 6 → Px "java/lang/IllegalStateException" (nX G1 h u))) Px
set_option maxRecDepth 20000 in
theorem mX9_pass {X : Xt} {l : Launch} (hfl : l.stackTraces = false) {G : Gt} {a0 : Nat} {x1 : Int32} {Pr : Int32 → Gt → Prop} {Px : String → Gt → Prop} (h : wX9_pass X G a0 x1 Pr Px) : Mc X l yX9_pass (.code yX9_pass cX9_pass 2 (some (.int))) 7 122 [.ref a0, .int x1] G (rI Pr) Px := by
  refine Mc.of (by decide +kernel) hfl [some (.ref a0), some (.int x1)] rfl (Nat.le_of_ble_eq_true rfl) rfl ?_
  intro K hL C E0 hr hnm hex
  have B : BX X K l cX9_pass 2 RX9 7 122 G (some (.int)) "pass" := ⟨hL, C, E0, hr, hnm, hex, hfl⟩
  have C : Cx X K cX9_pass 2 RX9 7 122 := C
  unfold wX9_pass at h
  refine r_iload_n C 1 dX9_pass_0 rfl rfl ?_
  refine r_iconst C 0 dX9_pass_1 (by decide) ?_
  refine r_sipush C 10000 dX9_pass_2 (by decide) ?_
  refine r_callS C hL yw_X9_needInRange sw_RX9_37 rfl rfl (Nat.le_of_ble_eq_true rfl) ⟨(Nat.le_of_ble_eq_true rfl), (Nat.le_of_ble_eq_true rfl)⟩ (mX9_needInRange hfl h) rfl dX9_pass_5 (kV' (fun G1 h => ?_)) (kO C E0 hex)
  refine r_aloadR_n C 0 dX9_pass_8 rfl rfl ?_
  obtain ⟨ht, h⟩ := h
  obtain ⟨b2, hb, h⟩ := h
  refine r_getR C fw_RX9_10 rfl ht hb dX9_pass_9 ?_
  obtain ⟨ht, h⟩ := h
  refine r_getI C fw_RX9_166 rfl ht dX9_pass_12 ?_
  refine r_ldc C kc_RX9_169 dX9_pass_15 ?_
  refine r_iload_n C 1 dX9_pass_17 rfl rfl ?_
  refine r_isub C dX9_pass_18 ?_
  refine r_icmp_le C 32 dX9_pass_19 (by decide) (fun c => ?_) (fun c => ?_)
  · replace h := h.1 c
    refine r_aloadR_n C 0 dX9_pass_32 rfl rfl ?_
    obtain ⟨ht, h⟩ := h
    obtain ⟨b23, hb, h⟩ := h
    refine r_getR C fw_RX9_10 rfl ht hb dX9_pass_33 ?_
    refine r_dup C dX9_pass_36 rfl ?_
    obtain ⟨ht, h⟩ := h
    refine r_getI C fw_RX9_166 rfl ht dX9_pass_37 ?_
    refine r_iload_n C 1 dX9_pass_40 rfl rfl ?_
    refine r_iadd C dX9_pass_41 ?_
    obtain ⟨ht, h⟩ := h
    refine r_putI C cw_2 fp_RX9_166 rfl ht dX9_pass_42 ?_
    refine r_nm (fun G24 hG24 => ?_)
    replace h := h G24 hG24
    refine r_aloadR_n C 0 dX9_pass_45 rfl rfl ?_
    obtain ⟨ht, h⟩ := h
    obtain ⟨b25, hb, h⟩ := h
    refine r_getR C fw_RX9_10 rfl ht hb dX9_pass_46 ?_
    obtain ⟨ht, h⟩ := h
    refine r_getI C fw_RX9_166 rfl ht dX9_pass_49 ?_
    exact r_iret C E0 hr ⟨_, rfl, h⟩ dX9_pass_52
  · replace h := h.2 c
    exact r_throw hL hfl C E0 hex th_RX9_81_85 st_RX9_170 h rfl (Nat.le_of_ble_eq_true rfl) (Nat.le_of_ble_eq_true rfl) dX9_pass_22 dX9_pass_25 dX9_pass_26 dX9_pass_28 dX9_pass_31
def wX9_time (X : Xt) (G : Gt) (a0 : Nat) (Pr : Int32 → Gt → Prop) : Prop := gT G a0 = (1, 10) ∧ ∃ b1, gR G 320 a0 = some b1 ∧ gT G b1 = (1, 2) ∧ Pr (gI G 71 b1) G
set_option maxRecDepth 20000 in
theorem mX9_time {X : Xt} {l : Launch} (hfl : l.stackTraces = false) {G : Gt} {a0 : Nat} {Pr : Int32 → Gt → Prop} (h : wX9_time X G a0 Pr) : Mc X l yX9_time (.code yX9_time cX9_time 1 (some (.int))) 0 0 [.ref a0] G (rI Pr) noX := by
  refine Mc.of (by decide +kernel) hfl [some (.ref a0)] rfl (Nat.le_of_ble_eq_true rfl) rfl ?_
  intro K hL C E0 hr hnm hex
  have B : BX X K l cX9_time 1 RX9 0 0 G (some (.int)) "time" := ⟨hL, C, E0, hr, hnm, hex, hfl⟩
  have C : Cx X K cX9_time 1 RX9 0 0 := C
  unfold wX9_time at h
  refine r_aloadR_n C 0 dX9_time_0 rfl rfl ?_
  obtain ⟨ht, h⟩ := h
  obtain ⟨b1, hb, h⟩ := h
  refine r_getR C fw_RX9_10 rfl ht hb dX9_time_1 ?_
  obtain ⟨ht, h⟩ := h
  refine r_getI C fw_RX9_166 rfl ht dX9_time_4 ?_
  exact r_iret C E0 hr ⟨_, rfl, h⟩ dX9_time_7
def wX9_group (X : Xt) (G : Gt) (a0 : Nat) (Pr : Int64 → Gt → Prop) (Px : String → Gt → Prop) : Prop := gT G a0 = (1, 10) ∧ ∃ b1, gR G 320 a0 = some b1 ∧ gT G b1 = (1, 2) ∧ wX1_plan X G b1 (fun G2 => gT G2 a0 = (1, 10) ∧ ∃ b3, gR G2 320 a0 = some b3 ∧ gT G2 b3 = (1, 2) ∧ ∃ b4, gR G2 68 b3 = some b4 ∧ gT G2 b4 = (1, 7) ∧ Pr (gJ G2 225 b4) G2) Px
set_option maxRecDepth 20000 in
theorem mX9_group {X : Xt} {l : Launch} (hfl : l.stackTraces = false) {G : Gt} {a0 : Nat} {Pr : Int64 → Gt → Prop} {Px : String → Gt → Prop} (h : wX9_group X G a0 Pr Px) : Mc X l yX9_group (.code yX9_group cX9_group 1 (some (.long))) 6 131 [.ref a0] G (rJ Pr) Px := by
  refine Mc.of (by decide +kernel) hfl [some (.ref a0)] rfl (Nat.le_of_ble_eq_true rfl) rfl ?_
  intro K hL C E0 hr hnm hex
  have B : BX X K l cX9_group 1 RX9 6 131 G (some (.long)) "group" := ⟨hL, C, E0, hr, hnm, hex, hfl⟩
  have C : Cx X K cX9_group 1 RX9 6 131 := C
  unfold wX9_group at h
  refine r_aloadR_n C 0 dX9_group_0 rfl rfl ?_
  obtain ⟨ht, h⟩ := h
  obtain ⟨b1, hb, h⟩ := h
  refine r_getR C fw_RX9_10 rfl ht hb dX9_group_1 ?_
  obtain ⟨ht, h⟩ := h
  refine r_callV C (r := (RX1, TX1, 11)) hL yw_X1_plan vw_RX9_172 rfl rfl ht rfl rfl (Nat.le_of_ble_eq_true rfl) ⟨(Nat.le_of_ble_eq_true rfl), (Nat.le_of_ble_eq_true rfl)⟩ (mX1_plan hfl h) rfl dX9_group_4 (kV' (fun G2 h => ?_)) (kO C E0 hex)
  refine r_aloadR_n C 0 dX9_group_7 rfl rfl ?_
  obtain ⟨ht, h⟩ := h
  obtain ⟨b3, hb, h⟩ := h
  refine r_getR C fw_RX9_10 rfl ht hb dX9_group_8 ?_
  obtain ⟨ht, h⟩ := h
  obtain ⟨b4, hb, h⟩ := h
  refine r_getR C fw_RX9_95 rfl ht hb dX9_group_11 ?_
  obtain ⟨ht, h⟩ := h
  refine r_getJ C fw_RX9_175 rfl ht dX9_group_14 ?_
  exact r_lret C E0 hr ⟨_, rfl, h⟩ dX9_group_17
def wX9_frameByte (X : Xt) (G : Gt) (a0 : Nat) (x1 : Int32) (Pr : Int32 → Gt → Prop) (Px : String → Gt → Prop) : Prop := (0 ≤ x1 → gT G a0 = (1, 10) ∧ ∃ b21, gR G 320 a0 = some b21 ∧ gT G b21 = (1, 2) ∧ wX1_plan X G b21 (fun G22 => gT G22 a0 = (1, 10) ∧ ∃ b23, gR G22 320 a0 = some b23 ∧ gT G22 b23 = (1, 2) ∧ ∃ b24, gR G22 70 b23 = some b24 ∧ gT G22 b24 = (1, 4) ∧ ((gI G22 129 b24) ≤ x1 → Pr (-1) G22) ∧ (¬ ((gI G22 129 b24) ≤ x1) → gT G22 a0 = (1, 10) ∧ ∃ b65, gR G22 320 a0 = some b65 ∧ gT G22 b65 = (1, 2) ∧ ∃ b66, gR G22 70 b65 = some b66 ∧ gT G22 b66 = (1, 4) ∧ wX3_byteAt X G22 b66 x1 (fun r67 G68 => Pr r67 G68))) Px) ∧ (¬ (0 ≤ x1) → gH G + 1 ≤ xC X ∧ gU G + 6 ≤ xS X ∧ ∀ h u, gH G ≤ h → h ≤ gH G + 1 → gU G ≤ u → u ≤ gU G + 6 → Px "java/lang/IndexOutOfBoundsException" (nX G h u))
set_option maxRecDepth 20000 in
theorem mX9_frameByte {X : Xt} {l : Launch} (hfl : l.stackTraces = false) {G : Gt} {a0 : Nat} {x1 : Int32} {Pr : Int32 → Gt → Prop} {Px : String → Gt → Prop} (h : wX9_frameByte X G a0 x1 Pr Px) : Mc X l yX9_frameByte (.code yX9_frameByte cX9_frameByte 2 (some (.int))) 6 131 [.ref a0, .int x1] G (rI Pr) Px := by
  refine Mc.of (by decide +kernel) hfl [some (.ref a0), some (.int x1)] rfl (Nat.le_of_ble_eq_true rfl) rfl ?_
  intro K hL C E0 hr hnm hex
  have B : BX X K l cX9_frameByte 2 RX9 6 131 G (some (.int)) "frameByte" := ⟨hL, C, E0, hr, hnm, hex, hfl⟩
  have C : Cx X K cX9_frameByte 2 RX9 6 131 := C
  unfold wX9_frameByte at h
  refine r_iload_n C 1 dX9_frameByte_0 rfl rfl ?_
  refine r_if_ge C 14 dX9_frameByte_1 (by decide) (fun c => ?_) (fun c => ?_)
  · replace h := h.1 c
    refine r_aloadR_n C 0 dX9_frameByte_14 rfl rfl ?_
    obtain ⟨ht, h⟩ := h
    obtain ⟨b21, hb, h⟩ := h
    refine r_getR C fw_RX9_10 rfl ht hb dX9_frameByte_15 ?_
    obtain ⟨ht, h⟩ := h
    refine r_callV C (r := (RX1, TX1, 11)) hL yw_X1_plan vw_RX9_172 rfl rfl ht rfl rfl (Nat.le_of_ble_eq_true rfl) ⟨(Nat.le_of_ble_eq_true rfl), (Nat.le_of_ble_eq_true rfl)⟩ (mX1_plan hfl h) rfl dX9_frameByte_18 (kV' (fun G22 h => ?_)) (kO C E0 hex)
    refine r_iload_n C 1 dX9_frameByte_21 rfl rfl ?_
    refine r_aloadR_n C 0 dX9_frameByte_22 rfl rfl ?_
    obtain ⟨ht, h⟩ := h
    obtain ⟨b23, hb, h⟩ := h
    refine r_getR C fw_RX9_10 rfl ht hb dX9_frameByte_23 ?_
    obtain ⟨ht, h⟩ := h
    obtain ⟨b24, hb, h⟩ := h
    refine r_getR C fw_RX9_181 rfl ht hb dX9_frameByte_26 ?_
    obtain ⟨ht, h⟩ := h
    refine r_getI C fw_RX9_185 rfl ht dX9_frameByte_29 ?_
    refine r_icmp_ge C 49 dX9_frameByte_32 (by decide) (fun c => ?_) (fun c => ?_)
    · replace h := h.1 c
      refine r_iconst C (-1) dX9_frameByte_49 (by decide) ?_
      exact r_iret C E0 hr ⟨_, rfl, h⟩ dX9_frameByte_50
    · replace h := h.2 c
      refine r_aloadR_n C 0 dX9_frameByte_35 rfl rfl ?_
      obtain ⟨ht, h⟩ := h
      obtain ⟨b65, hb, h⟩ := h
      refine r_getR C fw_RX9_10 rfl ht hb dX9_frameByte_36 ?_
      obtain ⟨ht, h⟩ := h
      obtain ⟨b66, hb, h⟩ := h
      refine r_getR C fw_RX9_181 rfl ht hb dX9_frameByte_39 ?_
      refine r_iload_n C 1 dX9_frameByte_42 rfl rfl ?_
      obtain ⟨ht, h⟩ := h
      refine r_callV C (r := (RX3, TX3, 2)) hL yw_X3_byteAt vw_RX9_190 rfl rfl ht rfl rfl (Nat.le_of_ble_eq_true rfl) ⟨(Nat.le_of_ble_eq_true rfl), (Nat.le_of_ble_eq_true rfl)⟩ (mX3_byteAt hfl h) rfl dX9_frameByte_43 (kI (fun r67 G68 h => ?_)) kN
      refine r_goto C 50 dX9_frameByte_46 (by decide) ?_
      exact r_iret C E0 hr ⟨_, rfl, h⟩ dX9_frameByte_50
  · replace h := h.2 c
    exact r_throw hL hfl C E0 hex th_RX9_23_27 st_RX9_179 h rfl (Nat.le_of_ble_eq_true rfl) (Nat.le_of_ble_eq_true rfl) dX9_frameByte_4 dX9_frameByte_7 dX9_frameByte_8 dX9_frameByte_10 dX9_frameByte_13
def wX9_cacheAge (X : Xt) (G : Gt) (a0 : Nat) (x1 : Int32) (x2 : Int32) (Pr : Int32 → Gt → Prop) (Px : String → Gt → Prop) : Prop := wX9_needRegister X G x1 x2 (fun G1 => gT G1 a0 = (1, 10) ∧ ∃ b2, gR G1 320 a0 = some b2 ∧ gT G1 b2 = (1, 2) ∧ ∃ b3, gR G1 67 b2 = some b3 ∧ gT G1 a0 = (1, 10) ∧ ∃ b4, gR G1 320 a0 = some b4 ∧ gT G1 b4 = (1, 2) ∧ gT G1 b3 = (1, 1) ∧ wX0_ageOf X G1 b3 x1 x2 (gI G1 71 b4) (fun r5 G6 => Pr r5 G6)) Px
set_option maxRecDepth 20000 in
theorem mX9_cacheAge {X : Xt} {l : Launch} (hfl : l.stackTraces = false) {G : Gt} {a0 : Nat} {x1 : Int32} {x2 : Int32} {Pr : Int32 → Gt → Prop} {Px : String → Gt → Prop} (h : wX9_cacheAge X G a0 x1 x2 Pr Px) : Mc X l yX9_cacheAge (.code yX9_cacheAge cX9_cacheAge 3 (some (.int))) 8 141 [.ref a0, .int x1, .int x2] G (rI Pr) Px := by
  refine Mc.of (by decide +kernel) hfl [some (.ref a0), some (.int x1), some (.int x2)] rfl (Nat.le_of_ble_eq_true rfl) rfl ?_
  intro K hL C E0 hr hnm hex
  have B : BX X K l cX9_cacheAge 3 RX9 8 141 G (some (.int)) "cacheAge" := ⟨hL, C, E0, hr, hnm, hex, hfl⟩
  have C : Cx X K cX9_cacheAge 3 RX9 8 141 := C
  unfold wX9_cacheAge at h
  refine r_iload_n C 1 dX9_cacheAge_0 rfl rfl ?_
  refine r_iload_n C 2 dX9_cacheAge_1 rfl rfl ?_
  refine r_callS C hL yw_X9_needRegister sw_RX9_64 rfl rfl (Nat.le_of_ble_eq_true rfl) ⟨(Nat.le_of_ble_eq_true rfl), (Nat.le_of_ble_eq_true rfl)⟩ (mX9_needRegister hfl h) rfl dX9_cacheAge_2 (kV' (fun G1 h => ?_)) (kO C E0 hex)
  refine r_aloadR_n C 0 dX9_cacheAge_5 rfl rfl ?_
  obtain ⟨ht, h⟩ := h
  obtain ⟨b2, hb, h⟩ := h
  refine r_getR C fw_RX9_10 rfl ht hb dX9_cacheAge_6 ?_
  obtain ⟨ht, h⟩ := h
  obtain ⟨b3, hb, h⟩ := h
  refine r_getR C fw_RX9_194 rfl ht hb dX9_cacheAge_9 ?_
  refine r_iload_n C 1 dX9_cacheAge_12 rfl rfl ?_
  refine r_iload_n C 2 dX9_cacheAge_13 rfl rfl ?_
  refine r_aloadR_n C 0 dX9_cacheAge_14 rfl rfl ?_
  obtain ⟨ht, h⟩ := h
  obtain ⟨b4, hb, h⟩ := h
  refine r_getR C fw_RX9_10 rfl ht hb dX9_cacheAge_15 ?_
  obtain ⟨ht, h⟩ := h
  refine r_getI C fw_RX9_166 rfl ht dX9_cacheAge_18 ?_
  obtain ⟨ht, h⟩ := h
  refine r_callV C (r := (RX0, TX0, 2)) hL yw_X0_ageOf vw_RX9_198 rfl rfl ht rfl rfl (Nat.le_of_ble_eq_true rfl) ⟨(Nat.le_of_ble_eq_true rfl), (Nat.le_of_ble_eq_true rfl)⟩ (mX0_ageOf hfl h) rfl dX9_cacheAge_21 (kI (fun r5 G6 h => ?_)) kN
  exact r_iret C E0 hr ⟨_, rfl, h⟩ dX9_cacheAge_24
def wX9_cached (X : Xt) (G : Gt) (a0 : Nat) (x1 : Int32) (x2 : Int32) (Pr : Int32 → Gt → Prop) (Px : String → Gt → Prop) : Prop := wX9_needRegister X G x1 x2 (fun G1 => gT G1 a0 = (1, 10) ∧ ∃ b2, gR G1 320 a0 = some b2 ∧ gT G1 b2 = (1, 2) ∧ ∃ b3, gR G1 67 b2 = some b3 ∧ gT G1 b3 = (1, 1) ∧ wX0_valueOf X G1 b3 x1 x2 (fun r4 G5 => Pr r4 G5)) Px
set_option maxRecDepth 20000 in
theorem mX9_cached {X : Xt} {l : Launch} (hfl : l.stackTraces = false) {G : Gt} {a0 : Nat} {x1 : Int32} {x2 : Int32} {Pr : Int32 → Gt → Prop} {Px : String → Gt → Prop} (h : wX9_cached X G a0 x1 x2 Pr Px) : Mc X l yX9_cached (.code yX9_cached cX9_cached 3 (some (.int))) 8 141 [.ref a0, .int x1, .int x2] G (rI Pr) Px := by
  refine Mc.of (by decide +kernel) hfl [some (.ref a0), some (.int x1), some (.int x2)] rfl (Nat.le_of_ble_eq_true rfl) rfl ?_
  intro K hL C E0 hr hnm hex
  have B : BX X K l cX9_cached 3 RX9 8 141 G (some (.int)) "cached" := ⟨hL, C, E0, hr, hnm, hex, hfl⟩
  have C : Cx X K cX9_cached 3 RX9 8 141 := C
  unfold wX9_cached at h
  refine r_iload_n C 1 dX9_cached_0 rfl rfl ?_
  refine r_iload_n C 2 dX9_cached_1 rfl rfl ?_
  refine r_callS C hL yw_X9_needRegister sw_RX9_64 rfl rfl (Nat.le_of_ble_eq_true rfl) ⟨(Nat.le_of_ble_eq_true rfl), (Nat.le_of_ble_eq_true rfl)⟩ (mX9_needRegister hfl h) rfl dX9_cached_2 (kV' (fun G1 h => ?_)) (kO C E0 hex)
  refine r_aloadR_n C 0 dX9_cached_5 rfl rfl ?_
  obtain ⟨ht, h⟩ := h
  obtain ⟨b2, hb, h⟩ := h
  refine r_getR C fw_RX9_10 rfl ht hb dX9_cached_6 ?_
  obtain ⟨ht, h⟩ := h
  obtain ⟨b3, hb, h⟩ := h
  refine r_getR C fw_RX9_194 rfl ht hb dX9_cached_9 ?_
  refine r_iload_n C 1 dX9_cached_12 rfl rfl ?_
  refine r_iload_n C 2 dX9_cached_13 rfl rfl ?_
  obtain ⟨ht, h⟩ := h
  refine r_callV C (r := (RX0, TX0, 2)) hL yw_X0_valueOf vw_RX9_204 rfl rfl ht rfl rfl (Nat.le_of_ble_eq_true rfl) ⟨(Nat.le_of_ble_eq_true rfl), (Nat.le_of_ble_eq_true rfl)⟩ (mX0_valueOf hfl h) rfl dX9_cached_14 (kI (fun r4 G5 h => ?_)) kN
  exact r_iret C E0 hr ⟨_, rfl, h⟩ dX9_cached_17
def wX9_clearCache (X : Xt) (G : Gt) (a0 : Nat) (Pr : Int32 → Gt → Prop) : Prop := gT G a0 = (1, 10) ∧ ∃ b1, gR G 320 a0 = some b1 ∧ gT G b1 = (1, 2) ∧ ∃ b2, gR G 67 b1 = some b2 ∧ gT G b2 = (1, 1) ∧ wX0_empty X G b2 (fun r3 G4 => Pr r3 G4)
set_option maxRecDepth 20000 in
theorem mX9_clearCache {X : Xt} {l : Launch} (hfl : l.stackTraces = false) {G : Gt} {a0 : Nat} {Pr : Int32 → Gt → Prop} (h : wX9_clearCache X G a0 Pr) : Mc X l yX9_clearCache (.code yX9_clearCache cX9_clearCache 1 (some (.int))) 1 22 [.ref a0] G (rI Pr) noX := by
  refine Mc.of (by decide +kernel) hfl [some (.ref a0)] rfl (Nat.le_of_ble_eq_true rfl) rfl ?_
  intro K hL C E0 hr hnm hex
  have B : BX X K l cX9_clearCache 1 RX9 1 22 G (some (.int)) "clearCache" := ⟨hL, C, E0, hr, hnm, hex, hfl⟩
  have C : Cx X K cX9_clearCache 1 RX9 1 22 := C
  unfold wX9_clearCache at h
  refine r_aloadR_n C 0 dX9_clearCache_0 rfl rfl ?_
  obtain ⟨ht, h⟩ := h
  obtain ⟨b1, hb, h⟩ := h
  refine r_getR C fw_RX9_10 rfl ht hb dX9_clearCache_1 ?_
  obtain ⟨ht, h⟩ := h
  obtain ⟨b2, hb, h⟩ := h
  refine r_getR C fw_RX9_194 rfl ht hb dX9_clearCache_4 ?_
  obtain ⟨ht, h⟩ := h
  refine r_callV C (r := (RX0, TX0, 2)) hL yw_X0_empty vw_RX9_207 rfl rfl ht rfl rfl (Nat.le_of_ble_eq_true rfl) ⟨(Nat.le_of_ble_eq_true rfl), (Nat.le_of_ble_eq_true rfl)⟩ (mX0_empty hfl h) rfl dX9_clearCache_7 (kI (fun r3 G4 h => ?_)) kN
  exact r_iret C E0 hr ⟨_, rfl, h⟩ dX9_clearCache_10
def wX9_count (X : Xt) (G : Gt) (a0 : Nat) (x1 : Int32) (Pr : Int32 → Gt → Prop) (Px : String → Gt → Prop) : Prop := (x1 < 0 → gH G + 1 ≤ xC X ∧ gU G + 6 ≤ xS X ∧ ∀ h u, gH G ≤ h → h ≤ gH G + 1 → gU G ≤ u → u ≤ gU G + 6 → Px "java/lang/IndexOutOfBoundsException" (nX G h u)) ∧ (¬ (x1 < 0) → (x1 < 6 → gT G a0 = (1, 10) ∧ ∃ b61, gR G 320 a0 = some b61 ∧ gT G b61 = (1, 2) ∧ ∃ b62, gR G 65 b61 = some b62 ∧ (gT G b62).1 = 2 ∧ vp_in x1 (gT G b62).2 ∧ Pr (gA G b62 x1.toNatClampNeg) G) ∧ (¬ (x1 < 6) → gH G + 1 ≤ xC X ∧ gU G + 6 ≤ xS X ∧ ∀ h u, gH G ≤ h → h ≤ gH G + 1 → gU G ≤ u → u ≤ gU G + 6 → Px "java/lang/IndexOutOfBoundsException" (nX G h u)))
set_option maxRecDepth 20000 in
theorem mX9_count {X : Xt} {l : Launch} (hfl : l.stackTraces = false) {G : Gt} {a0 : Nat} {x1 : Int32} {Pr : Int32 → Gt → Prop} {Px : String → Gt → Prop} (h : wX9_count X G a0 x1 Pr Px) : Mc X l yX9_count (.code yX9_count cX9_count 2 (some (.int))) 6 100 [.ref a0, .int x1] G (rI Pr) Px := by
  refine Mc.of (by decide +kernel) hfl [some (.ref a0), some (.int x1)] rfl (Nat.le_of_ble_eq_true rfl) rfl ?_
  intro K hL C E0 hr hnm hex
  have B : BX X K l cX9_count 2 RX9 6 100 G (some (.int)) "count" := ⟨hL, C, E0, hr, hnm, hex, hfl⟩
  have C : Cx X K cX9_count 2 RX9 6 100 := C
  unfold wX9_count at h
  refine r_iload_n C 1 dX9_count_0 rfl rfl ?_
  refine r_if_lt C 10 dX9_count_1 (by decide) (fun c => ?_) (fun c => ?_)
  · replace h := h.1 c
    exact r_throw hL hfl C E0 hex th_RX9_23_27 st_RX9_210 h rfl (Nat.le_of_ble_eq_true rfl) (Nat.le_of_ble_eq_true rfl) dX9_count_10 dX9_count_13 dX9_count_14 dX9_count_16 dX9_count_19
  · replace h := h.2 c
    refine r_iload_n C 1 dX9_count_4 rfl rfl ?_
    refine r_bipush C 6 dX9_count_5 (by decide) ?_
    refine r_icmp_lt C 20 dX9_count_7 (by decide) (fun c => ?_) (fun c => ?_)
    · replace h := h.1 c
      refine r_aloadR_n C 0 dX9_count_20 rfl rfl ?_
      obtain ⟨ht, h⟩ := h
      obtain ⟨b61, hb, h⟩ := h
      refine r_getR C fw_RX9_10 rfl ht hb dX9_count_21 ?_
      obtain ⟨ht, h⟩ := h
      obtain ⟨b62, hb, h⟩ := h
      refine r_getR C fw_RX9_212 rfl ht hb dX9_count_24 ?_
      refine r_iload_n C 1 dX9_count_27 rfl rfl ?_
      obtain ⟨ht, hi, h⟩ := h
      refine r_ialdP C ht hi dX9_count_28 ?_
      exact r_iret C E0 hr ⟨_, rfl, h⟩ dX9_count_29
    · replace h := h.2 c
      exact r_throw hL hfl C E0 hex th_RX9_23_27 st_RX9_210 h rfl (Nat.le_of_ble_eq_true rfl) (Nat.le_of_ble_eq_true rfl) dX9_count_10 dX9_count_13 dX9_count_14 dX9_count_16 dX9_count_19
def wX9_leastDrain_99 (X : Xt) (Pr : Int32 → Gt → Prop) (Px : String → Gt → Prop) (k27 : Gt → Nat → Int32 → Int32 → Prop) (G : Gt) (a0 : Nat) (x1 : Int32) (x2 : Int32) : Prop := gT G a0 = (1, 10) ∧ ∃ b1, gR G 322 a0 = some b1 ∧ gT G b1 = (1, 2) ∧ (¬ (gI G 74 b1) = 0 → k27 G a0 x1 (x2 + 1)) ∧ ((gI G 74 b1) = 0 → Pr x2 G)
set_option maxRecDepth 20000 in
theorem bX9_leastDrain_99 {X : Xt} {K : Kt} {l : Launch} {G0 : Gt} {Pr : Int32 → Gt → Prop} {Px : String → Gt → Prop} (B : BX X K l cX9_leastDrain 5 RX9 11 264 G0 (some (.int)) "leastDrain") {k27 : Gt → Nat → Int32 → Int32 → Prop} (hk27 : ∀ (G : Gt) (a0 : Nat) (x1 : Int32) (x2 : Int32), k27 G a0 x1 x2 → WM X K (QM X K G0 (rI Pr) Px) G 27 [some (.ref a0), some (.int x1), some (.int x2), none, none] []) {G : Gt} {a0 : Nat} {x1 : Int32} {x2 : Int32} (h : wX9_leastDrain_99 X Pr Px k27 G a0 x1 x2) : WM X K (QM X K G0 (rI Pr) Px) G 99 [some (.ref a0), some (.int x1), some (.int x2), none, none] [] := by
  obtain ⟨hL, C, E0, hr, hnm, hex, hfl⟩ := id B
  unfold wX9_leastDrain_99 at h
  refine r_aloadR_n C 0 dX9_leastDrain_99 rfl rfl ?_
  obtain ⟨ht, h⟩ := h
  obtain ⟨b1, hb, h⟩ := h
  refine r_getR C fw_RX9_215 rfl ht hb dX9_leastDrain_100 ?_
  obtain ⟨ht, h⟩ := h
  refine r_getI C fw_RX9_222 rfl ht dX9_leastDrain_103 ?_
  refine r_if_ne C 111 dX9_leastDrain_106 (by decide) (fun c => ?_) (fun c => ?_)
  · replace h := h.1 c
    refine r_iinc C 1 (lv' := [some (.ref a0), some (.int x1), some (.int (x2 + 1)), none, none]) dX9_leastDrain_111 rfl (by decide) rfl rfl ?_
    refine r_goto C 27 dX9_leastDrain_114 (by decide) ?_
    exact hk27 _ _ _ _ h
  · replace h := h.2 c
    refine r_iload_n C 2 dX9_leastDrain_109 rfl rfl ?_
    exact r_iret C E0 hr ⟨_, rfl, h⟩ dX9_leastDrain_110
def wX9_leastDrain_64 (X : Xt) (Pr : Int32 → Gt → Prop) (Px : String → Gt → Prop) (k27 : Gt → Nat → Int32 → Int32 → Prop) (k64 : Gt → Nat → Int32 → Int32 → Int32 → Int32 → Prop) (G : Gt) (a0 : Nat) (x1 : Int32) (x2 : Int32) (x3 : Int32) (x4 : Int32) : Prop := (40 ≤ x4 → wX9_leastDrain_99 X Pr Px k27 G a0 x1 x2) ∧ (¬ (40 ≤ x4) → (x3 ≤ 0 → wX9_leastDrain_99 X Pr Px k27 G a0 x1 x2) ∧ (¬ (x3 ≤ 0) → gT G a0 = (1, 10) ∧ ∃ b81, gR G 322 a0 = some b81 ∧ gT G b81 = (1, 2) ∧ (¬ (gI G 74 b81) = 0 → wX9_leastDrain_99 X Pr Px k27 G a0 x1 x2) ∧ ((gI G 74 b81) = 0 → gT G a0 = (1, 10) ∧ ∃ b122, gR G 322 a0 = some b122 ∧ gT G b122 = (1, 2) ∧ wX1_takeStep X G b122 (fun r123 G124 => k64 G124 a0 x1 x2 r123 (x4 + 1)) Px)))
set_option maxRecDepth 20000 in
theorem bX9_leastDrain_64 {X : Xt} {K : Kt} {l : Launch} {G0 : Gt} {Pr : Int32 → Gt → Prop} {Px : String → Gt → Prop} (B : BX X K l cX9_leastDrain 5 RX9 11 264 G0 (some (.int)) "leastDrain") {k27 : Gt → Nat → Int32 → Int32 → Prop} {k64 : Gt → Nat → Int32 → Int32 → Int32 → Int32 → Prop} (hk27 : ∀ (G : Gt) (a0 : Nat) (x1 : Int32) (x2 : Int32), k27 G a0 x1 x2 → WM X K (QM X K G0 (rI Pr) Px) G 27 [some (.ref a0), some (.int x1), some (.int x2), none, none] []) (hk64 : ∀ (G : Gt) (a0 : Nat) (x1 : Int32) (x2 : Int32) (x3 : Int32) (x4 : Int32), k64 G a0 x1 x2 x3 x4 → WM X K (QM X K G0 (rI Pr) Px) G 64 [some (.ref a0), some (.int x1), some (.int x2), some (.int x3), some (.int x4)] []) {G : Gt} {a0 : Nat} {x1 : Int32} {x2 : Int32} {x3 : Int32} {x4 : Int32} (h : wX9_leastDrain_64 X Pr Px k27 k64 G a0 x1 x2 x3 x4) : WM X K (QM X K G0 (rI Pr) Px) G 64 [some (.ref a0), some (.int x1), some (.int x2), some (.int x3), some (.int x4)] [] := by
  obtain ⟨hL, C, E0, hr, hnm, hex, hfl⟩ := id B
  unfold wX9_leastDrain_64 at h
  refine r_iload C dX9_leastDrain_64 rfl ?_
  refine r_bipush C 40 dX9_leastDrain_66 (by decide) ?_
  refine r_icmp_ge C 99 dX9_leastDrain_68 (by decide) (fun c => ?_) (fun c => ?_)
  · replace h := h.1 c
    refine r_fg (lv' := [some (.ref a0), some (.int x1), some (.int x2), none, none]) (show fgt _ _ from ⟨rfl, ⟨rfl, ⟨rfl, trivial⟩⟩⟩) ?_
    exact bX9_leastDrain_99 B hk27 h
  · replace h := h.2 c
    refine r_iload_n C 3 dX9_leastDrain_71 rfl rfl ?_
    refine r_if_le C 99 dX9_leastDrain_72 (by decide) (fun c => ?_) (fun c => ?_)
    · replace h := h.1 c
      refine r_fg (lv' := [some (.ref a0), some (.int x1), some (.int x2), none, none]) (show fgt _ _ from ⟨rfl, ⟨rfl, ⟨rfl, trivial⟩⟩⟩) ?_
      exact bX9_leastDrain_99 B hk27 h
    · replace h := h.2 c
      refine r_aloadR_n C 0 dX9_leastDrain_75 rfl rfl ?_
      obtain ⟨ht, h⟩ := h
      obtain ⟨b81, hb, h⟩ := h
      refine r_getR C fw_RX9_215 rfl ht hb dX9_leastDrain_76 ?_
      obtain ⟨ht, h⟩ := h
      refine r_getI C fw_RX9_222 rfl ht dX9_leastDrain_79 ?_
      refine r_if_ne C 99 dX9_leastDrain_82 (by decide) (fun c => ?_) (fun c => ?_)
      · replace h := h.1 c
        refine r_fg (lv' := [some (.ref a0), some (.int x1), some (.int x2), none, none]) (show fgt _ _ from ⟨rfl, ⟨rfl, ⟨rfl, trivial⟩⟩⟩) ?_
        exact bX9_leastDrain_99 B hk27 h
      · replace h := h.2 c
        refine r_aloadR_n C 0 dX9_leastDrain_85 rfl rfl ?_
        obtain ⟨ht, h⟩ := h
        obtain ⟨b122, hb, h⟩ := h
        refine r_getR C fw_RX9_215 rfl ht hb dX9_leastDrain_86 ?_
        obtain ⟨ht, h⟩ := h
        refine r_callV C (r := (RX1, TX1, 11)) hL yw_X1_takeStep vw_RX9_162 rfl rfl ht rfl rfl (Nat.le_of_ble_eq_true rfl) ⟨(Nat.le_of_ble_eq_true rfl), (Nat.le_of_ble_eq_true rfl)⟩ (mX1_takeStep hfl h) rfl dX9_leastDrain_89 (kI (fun r123 G124 h => ?_)) (kO C E0 hex)
        refine r_istore_n C 3 (lv' := [some (.ref a0), some (.int x1), some (.int x2), some (.int r123), some (.int x4)]) dX9_leastDrain_92 rfl (Nat.le_of_ble_eq_true rfl) rfl rfl ?_
        refine r_iinc C 1 (lv' := [some (.ref a0), some (.int x1), some (.int x2), some (.int r123), some (.int (x4 + 1))]) dX9_leastDrain_93 rfl (by decide) rfl rfl ?_
        refine r_goto C 64 dX9_leastDrain_96 (by decide) ?_
        exact hk64 _ _ _ _ _ _ h
theorem lX9_leastDrain_64 {X : Xt} {K : Kt} {l : Launch} {G0 : Gt} {Pr : Int32 → Gt → Prop} {Px : String → Gt → Prop} (B : BX X K l cX9_leastDrain 5 RX9 11 264 G0 (some (.int)) "leastDrain") {k27 : Gt → Nat → Int32 → Int32 → Prop} (hk27 : ∀ (G : Gt) (a0 : Nat) (x1 : Int32) (x2 : Int32), k27 G a0 x1 x2 → WM X K (QM X K G0 (rI Pr) Px) G 27 [some (.ref a0), some (.int x1), some (.int x2), none, none] []) (I : Gt → Nat → Int32 → Int32 → Int32 → Int32 → Prop) (μ : Gt → Nat → Int32 → Int32 → Int32 → Int32 → Nat) (hS : ∀ (G : Gt) (a0 : Nat) (x1 : Int32) (x2 : Int32) (x3 : Int32) (x4 : Int32), I G a0 x1 x2 x3 x4 → wX9_leastDrain_64 X Pr Px k27 (fun G' a0' x1' x2' x3' x4' => I G' a0' x1' x2' x3' x4' ∧ μ G' a0' x1' x2' x3' x4' < μ G a0 x1 x2 x3 x4) G a0 x1 x2 x3 x4) : ∀ (n : Nat) (G : Gt) (a0 : Nat) (x1 : Int32) (x2 : Int32) (x3 : Int32) (x4 : Int32), μ G a0 x1 x2 x3 x4 < n → I G a0 x1 x2 x3 x4 → WM X K (QM X K G0 (rI Pr) Px) G 64 [some (.ref a0), some (.int x1), some (.int x2), some (.int x3), some (.int x4)] [] := by
  intro n
  induction n with
  | zero => intro G a0 x1 x2 x3 x4 hm; exact absurd hm (Nat.not_lt_zero _)
  | succ n ih =>
    intro G a0 x1 x2 x3 x4 hm hi
    exact bX9_leastDrain_64 B hk27 (fun G' a0' x1' x2' x3' x4' hk => ih G' a0' x1' x2' x3' x4' (Nat.lt_of_lt_of_le hk.2 (Nat.le_of_lt_succ hm)) hk.1) (hS G a0 x1 x2 x3 x4 hi)
def wX9_leastDrain_27 (X : Xt) (Pr : Int32 → Gt → Prop) (Px : String → Gt → Prop) (k27 : Gt → Nat → Int32 → Int32 → Prop) (G : Gt) (a0 : Nat) (x1 : Int32) (x2 : Int32) : Prop := (x1 < x2 → Pr (-1) G) ∧ (¬ (x1 < x2) → gT G a0 = (1, 10) ∧ ∃ b41, gR G 322 a0 = some b41 ∧ gT G a0 = (1, 10) ∧ ∃ b42, gR G 320 a0 = some b42 ∧ gT G b41 = (1, 2) ∧ wX1_copyFrom X G b41 b42 (fun G43 => gT G43 a0 = (1, 10) ∧ ∃ b44, gR G43 322 a0 = some b44 ∧ gT G43 b44 = (1, 2) ∧ ∃ b45, gR G43 64 b44 = some b45 ∧ (gT G43 b45).1 = 2 ∧ vp_in 3 (gT G43 b45).2 ∧ ∀ G46, G46 = sA G43 b45 (upd (gA G43 b45) (3 : Int32).toNatClampNeg x2) → gT G46 a0 = (1, 10) ∧ ∃ b47, gR G46 322 a0 = some b47 ∧ gT G46 b47 = (1, 2) ∧ wX1_takeStep X G46 b47 (fun r48 G49 => ∃ (I : Gt → Nat → Int32 → Int32 → Int32 → Int32 → Prop) (μ : Gt → Nat → Int32 → Int32 → Int32 → Int32 → Nat), I G49 a0 x1 x2 r48 (1 : Int32) ∧ ∀ (G : Gt) (a0 : Nat) (x1 : Int32) (x2 : Int32) (x3 : Int32) (x4 : Int32), I G a0 x1 x2 x3 x4 → wX9_leastDrain_64 X Pr Px k27 (fun G' a0' x1' x2' x3' x4' => I G' a0' x1' x2' x3' x4' ∧ μ G' a0' x1' x2' x3' x4' < μ G a0 x1 x2 x3 x4) G a0 x1 x2 x3 x4) Px) Px)
set_option maxRecDepth 20000 in
theorem bX9_leastDrain_27 {X : Xt} {K : Kt} {l : Launch} {G0 : Gt} {Pr : Int32 → Gt → Prop} {Px : String → Gt → Prop} (B : BX X K l cX9_leastDrain 5 RX9 11 264 G0 (some (.int)) "leastDrain") {k27 : Gt → Nat → Int32 → Int32 → Prop} (hk27 : ∀ (G : Gt) (a0 : Nat) (x1 : Int32) (x2 : Int32), k27 G a0 x1 x2 → WM X K (QM X K G0 (rI Pr) Px) G 27 [some (.ref a0), some (.int x1), some (.int x2), none, none] []) {G : Gt} {a0 : Nat} {x1 : Int32} {x2 : Int32} (h : wX9_leastDrain_27 X Pr Px k27 G a0 x1 x2) : WM X K (QM X K G0 (rI Pr) Px) G 27 [some (.ref a0), some (.int x1), some (.int x2), none, none] [] := by
  obtain ⟨hL, C, E0, hr, hnm, hex, hfl⟩ := id B
  unfold wX9_leastDrain_27 at h
  refine r_iload_n C 2 dX9_leastDrain_27 rfl rfl ?_
  refine r_iload_n C 1 dX9_leastDrain_28 rfl rfl ?_
  refine r_icmp_gt C 117 dX9_leastDrain_29 (by decide) (fun c => ?_) (fun c => ?_)
  · replace h := h.1 c
    refine r_iconst C (-1) dX9_leastDrain_117 (by decide) ?_
    exact r_iret C E0 hr ⟨_, rfl, h⟩ dX9_leastDrain_118
  · replace h := h.2 c
    refine r_aloadR_n C 0 dX9_leastDrain_32 rfl rfl ?_
    obtain ⟨ht, h⟩ := h
    obtain ⟨b41, hb, h⟩ := h
    refine r_getR C fw_RX9_215 rfl ht hb dX9_leastDrain_33 ?_
    refine r_aloadR_n C 0 dX9_leastDrain_36 rfl rfl ?_
    obtain ⟨ht, h⟩ := h
    obtain ⟨b42, hb, h⟩ := h
    refine r_getR C fw_RX9_10 rfl ht hb dX9_leastDrain_37 ?_
    obtain ⟨ht, h⟩ := h
    refine r_callV C (r := (RX1, TX1, 11)) hL yw_X1_copyFrom vw_RX9_218 rfl rfl ht rfl rfl (Nat.le_of_ble_eq_true rfl) ⟨(Nat.le_of_ble_eq_true rfl), (Nat.le_of_ble_eq_true rfl)⟩ (mX1_copyFrom hfl h) rfl dX9_leastDrain_40 (kV' (fun G43 h => ?_)) (kO C E0 hex)
    refine r_aloadR_n C 0 dX9_leastDrain_43 rfl rfl ?_
    obtain ⟨ht, h⟩ := h
    obtain ⟨b44, hb, h⟩ := h
    refine r_getR C fw_RX9_215 rfl ht hb dX9_leastDrain_44 ?_
    obtain ⟨ht, h⟩ := h
    obtain ⟨b45, hb, h⟩ := h
    refine r_getR C fw_RX9_41 rfl ht hb dX9_leastDrain_47 ?_
    refine r_iconst C 3 dX9_leastDrain_50 (by decide) ?_
    refine r_iload_n C 2 dX9_leastDrain_51 rfl rfl ?_
    obtain ⟨ht, hi, h⟩ := h
    refine r_iastP C ht hi dX9_leastDrain_52 ?_
    refine r_nm (fun G46 hG46 => ?_)
    replace h := h G46 hG46
    refine r_aloadR_n C 0 dX9_leastDrain_53 rfl rfl ?_
    obtain ⟨ht, h⟩ := h
    obtain ⟨b47, hb, h⟩ := h
    refine r_getR C fw_RX9_215 rfl ht hb dX9_leastDrain_54 ?_
    obtain ⟨ht, h⟩ := h
    refine r_callV C (r := (RX1, TX1, 11)) hL yw_X1_takeStep vw_RX9_162 rfl rfl ht rfl rfl (Nat.le_of_ble_eq_true rfl) ⟨(Nat.le_of_ble_eq_true rfl), (Nat.le_of_ble_eq_true rfl)⟩ (mX1_takeStep hfl h) rfl dX9_leastDrain_57 (kI (fun r48 G49 h => ?_)) (kO C E0 hex)
    refine r_istore_n C 3 (lv' := [some (.ref a0), some (.int x1), some (.int x2), some (.int r48), none]) dX9_leastDrain_60 rfl (Nat.le_of_ble_eq_true rfl) rfl rfl ?_
    refine r_iconst C 1 dX9_leastDrain_61 (by decide) ?_
    refine r_istore C (lv' := [some (.ref a0), some (.int x1), some (.int x2), some (.int r48), some (.int 1)]) dX9_leastDrain_62 (Nat.le_of_ble_eq_true rfl) rfl rfl ?_
    obtain ⟨I, μ, hI, hS⟩ := h
    exact lX9_leastDrain_64 B hk27 I μ hS _ _ _ _ _ _ _ (Nat.lt_succ_self _) hI
theorem lX9_leastDrain_27 {X : Xt} {K : Kt} {l : Launch} {G0 : Gt} {Pr : Int32 → Gt → Prop} {Px : String → Gt → Prop} (B : BX X K l cX9_leastDrain 5 RX9 11 264 G0 (some (.int)) "leastDrain") (I : Gt → Nat → Int32 → Int32 → Prop) (μ : Gt → Nat → Int32 → Int32 → Nat) (hS : ∀ (G : Gt) (a0 : Nat) (x1 : Int32) (x2 : Int32), I G a0 x1 x2 → wX9_leastDrain_27 X Pr Px (fun G' a0' x1' x2' => I G' a0' x1' x2' ∧ μ G' a0' x1' x2' < μ G a0 x1 x2) G a0 x1 x2) : ∀ (n : Nat) (G : Gt) (a0 : Nat) (x1 : Int32) (x2 : Int32), μ G a0 x1 x2 < n → I G a0 x1 x2 → WM X K (QM X K G0 (rI Pr) Px) G 27 [some (.ref a0), some (.int x1), some (.int x2), none, none] [] := by
  intro n
  induction n with
  | zero => intro G a0 x1 x2 hm; exact absurd hm (Nat.not_lt_zero _)
  | succ n ih =>
    intro G a0 x1 x2 hm hi
    exact bX9_leastDrain_27 B (fun G' a0' x1' x2' hk => ih G' a0' x1' x2' (Nat.lt_of_lt_of_le hk.2 (Nat.le_of_lt_succ hm)) hk.1) (hS G a0 x1 x2 hi)
def wX9_leastDrain (X : Xt) (G : Gt) (a0 : Nat) (x1 : Int32) (Pr : Int32 → Gt → Prop) (Px : String → Gt → Prop) : Prop := wX9_needInRange X G x1 0 40 (fun G1 => gT G1 a0 = (1, 10) ∧ (∀ b2, (gR G1 322 a0) = some b2 → ∃ (I : Gt → Nat → Int32 → Int32 → Prop) (μ : Gt → Nat → Int32 → Int32 → Nat), I G1 a0 x1 (0 : Int32) ∧ ∀ (G : Gt) (a0 : Nat) (x1 : Int32) (x2 : Int32), I G a0 x1 x2 → wX9_leastDrain_27 X Pr Px (fun G' a0' x1' x2' => I G' a0' x1' x2' ∧ μ G' a0' x1' x2' < μ G a0 x1 x2) G a0 x1 x2) ∧ ((gR G1 322 a0) = none → gH G1 + 1 ≤ xC X ∧ gU G1 + 11 ≤ xS X ∧ ∀ G43, G43 = nO G1 2 11 → wX1_init X G43 (gH G1) (fun G44 => gT G44 a0 = (1, 10) ∧ ∀ G45, G45 = sR G44 322 a0 (some (gH G1)) → ∃ (I : Gt → Nat → Int32 → Int32 → Prop) (μ : Gt → Nat → Int32 → Int32 → Nat), I G45 a0 x1 (0 : Int32) ∧ ∀ (G : Gt) (a0 : Nat) (x1 : Int32) (x2 : Int32), I G a0 x1 x2 → wX9_leastDrain_27 X Pr Px (fun G' a0' x1' x2' => I G' a0' x1' x2' ∧ μ G' a0' x1' x2' < μ G a0 x1 x2) G a0 x1 x2))) Px
set_option maxRecDepth 20000 in
theorem mX9_leastDrain {X : Xt} {l : Launch} (hfl : l.stackTraces = false) {G : Gt} {a0 : Nat} {x1 : Int32} {Pr : Int32 → Gt → Prop} {Px : String → Gt → Prop} (h : wX9_leastDrain X G a0 x1 Pr Px) : Mc X l yX9_leastDrain (.code yX9_leastDrain cX9_leastDrain 5 (some (.int))) 11 264 [.ref a0, .int x1] G (rI Pr) Px := by
  refine Mc.of (by decide +kernel) hfl [some (.ref a0), some (.int x1), none, none, none] rfl (Nat.le_of_ble_eq_true rfl) rfl ?_
  intro K hL C E0 hr hnm hex
  have B : BX X K l cX9_leastDrain 5 RX9 11 264 G (some (.int)) "leastDrain" := ⟨hL, C, E0, hr, hnm, hex, hfl⟩
  have C : Cx X K cX9_leastDrain 5 RX9 11 264 := C
  unfold wX9_leastDrain at h
  refine r_iload_n C 1 dX9_leastDrain_0 rfl rfl ?_
  refine r_iconst C 0 dX9_leastDrain_1 (by decide) ?_
  refine r_bipush C 40 dX9_leastDrain_2 (by decide) ?_
  refine r_callS C hL yw_X9_needInRange sw_RX9_37 rfl rfl (Nat.le_of_ble_eq_true rfl) ⟨(Nat.le_of_ble_eq_true rfl), (Nat.le_of_ble_eq_true rfl)⟩ (mX9_needInRange hfl h) rfl dX9_leastDrain_4 (kV' (fun G1 h => ?_)) (kO C E0 hex)
  refine r_aloadR_n C 0 dX9_leastDrain_7 rfl rfl ?_
  obtain ⟨ht, h⟩ := h
  refine r_getN C fw_RX9_215 rfl ht dX9_leastDrain_8 ?_
  refine r_ifnonnull C 25 dX9_leastDrain_11 (by decide) (fun b2 c => ?_) (fun c => ?_)
  · replace h := h.1 b2 c
    refine r_iconst C 0 dX9_leastDrain_25 (by decide) ?_
    refine r_istore_n C 2 (lv' := [some (.ref a0), some (.int x1), some (.int 0), none, none]) dX9_leastDrain_26 rfl (Nat.le_of_ble_eq_true rfl) rfl rfl ?_
    obtain ⟨I, μ, hI, hS⟩ := h
    exact lX9_leastDrain_27 B I μ hS _ _ _ _ _ (Nat.lt_succ_self _) hI
  · replace h := h.2 c
    refine r_aloadR_n C 0 dX9_leastDrain_14 rfl rfl ?_
    obtain ⟨hr1, hr2, h⟩ := h
    refine r_new C cw_2 (T := TX1) (N := 11) rfl cl_RX9_7 hr1 hr2 dX9_leastDrain_15 ?_
    refine r_nm (fun G43 hG43 => ?_)
    replace h := h G43 hG43
    refine r_dup C dX9_leastDrain_18 rfl ?_
    refine r_callNI C hL yw_X1_init ni_RX9_9 rfl rfl (Nat.le_of_ble_eq_true rfl) ⟨(Nat.le_of_ble_eq_true rfl), (Nat.le_of_ble_eq_true rfl)⟩ (mX1_init hfl h) rfl dX9_leastDrain_19 (kV' (fun G44 h => ?_)) kN
    obtain ⟨ht, h⟩ := h
    refine r_putR C cw_10 fp_RX9_215 rfl ht rfl rfl dX9_leastDrain_22 ?_
    refine r_nm (fun G45 hG45 => ?_)
    replace h := h G45 hG45
    refine r_iconst C 0 dX9_leastDrain_25 (by decide) ?_
    refine r_istore_n C 2 (lv' := [some (.ref a0), some (.int x1), some (.int 0), none, none]) dX9_leastDrain_26 rfl (Nat.le_of_ble_eq_true rfl) rfl rfl ?_
    obtain ⟨I, μ, hI, hS⟩ := h
    exact lX9_leastDrain_27 B I μ hS _ _ _ _ _ (Nat.lt_succ_self _) hI
def wX9_feed (X : Xt) (G : Gt) (a0 : Nat) (x1 : Int32) (x2 : Int32) (Pr : Int32 → Gt → Prop) (Px : String → Gt → Prop) : Prop := wX9_needInRange X G x1 0 255 (fun G1 => wX9_needInRange X G1 x2 0 1000 (fun G2 => gT G2 a0 = (1, 10) ∧ ∃ b3, gR G2 321 a0 = some b3 ∧ gT G2 b3 = (1, 6) ∧ wX5_hear X G2 b3 x1 x2 (fun G4 => gT G4 a0 = (1, 10) ∧ ∃ b5, gR G4 321 a0 = some b5 ∧ gT G4 b5 = (1, 6) ∧ Pr (gI G4 195 b5) G4)) Px) Px
set_option maxRecDepth 20000 in
theorem mX9_feed {X : Xt} {l : Launch} (hfl : l.stackTraces = false) {G : Gt} {a0 : Nat} {x1 : Int32} {x2 : Int32} {Pr : Int32 → Gt → Prop} {Px : String → Gt → Prop} (h : wX9_feed X G a0 x1 x2 Pr Px) : Mc X l yX9_feed (.code yX9_feed cX9_feed 3 (some (.int))) 7 122 [.ref a0, .int x1, .int x2] G (rI Pr) Px := by
  refine Mc.of (by decide +kernel) hfl [some (.ref a0), some (.int x1), some (.int x2)] rfl (Nat.le_of_ble_eq_true rfl) rfl ?_
  intro K hL C E0 hr hnm hex
  have B : BX X K l cX9_feed 3 RX9 7 122 G (some (.int)) "feed" := ⟨hL, C, E0, hr, hnm, hex, hfl⟩
  have C : Cx X K cX9_feed 3 RX9 7 122 := C
  unfold wX9_feed at h
  refine r_iload_n C 1 dX9_feed_0 rfl rfl ?_
  refine r_iconst C 0 dX9_feed_1 (by decide) ?_
  refine r_sipush C 255 dX9_feed_2 (by decide) ?_
  refine r_callS C hL yw_X9_needInRange sw_RX9_37 rfl rfl (Nat.le_of_ble_eq_true rfl) ⟨(Nat.le_of_ble_eq_true rfl), (Nat.le_of_ble_eq_true rfl)⟩ (mX9_needInRange hfl h) rfl dX9_feed_5 (kV' (fun G1 h => ?_)) (kO C E0 hex)
  refine r_iload_n C 2 dX9_feed_8 rfl rfl ?_
  refine r_iconst C 0 dX9_feed_9 (by decide) ?_
  refine r_sipush C 1000 dX9_feed_10 (by decide) ?_
  refine r_callS C hL yw_X9_needInRange sw_RX9_37 rfl rfl (Nat.le_of_ble_eq_true rfl) ⟨(Nat.le_of_ble_eq_true rfl), (Nat.le_of_ble_eq_true rfl)⟩ (mX9_needInRange hfl h) rfl dX9_feed_13 (kV' (fun G2 h => ?_)) (kO C E0 hex)
  refine r_aloadR_n C 0 dX9_feed_16 rfl rfl ?_
  obtain ⟨ht, h⟩ := h
  obtain ⟨b3, hb, h⟩ := h
  refine r_getR C fw_RX9_19 rfl ht hb dX9_feed_17 ?_
  refine r_iload_n C 1 dX9_feed_20 rfl rfl ?_
  refine r_iload_n C 2 dX9_feed_21 rfl rfl ?_
  obtain ⟨ht, h⟩ := h
  refine r_callV C (r := (RX5, TX5, 6)) hL yw_X5_hear vw_RX9_225 rfl rfl ht rfl rfl (Nat.le_of_ble_eq_true rfl) ⟨(Nat.le_of_ble_eq_true rfl), (Nat.le_of_ble_eq_true rfl)⟩ (mX5_hear hfl h) rfl dX9_feed_22 (kV' (fun G4 h => ?_)) kN
  refine r_aloadR_n C 0 dX9_feed_25 rfl rfl ?_
  obtain ⟨ht, h⟩ := h
  obtain ⟨b5, hb, h⟩ := h
  refine r_getR C fw_RX9_19 rfl ht hb dX9_feed_26 ?_
  obtain ⟨ht, h⟩ := h
  refine r_getI C fw_RX9_228 rfl ht dX9_feed_29 ?_
  exact r_iret C E0 hr ⟨_, rfl, h⟩ dX9_feed_32
def wX9_endFrame (X : Xt) (G : Gt) (a0 : Nat) (Pr : Int32 → Gt → Prop) : Prop := gT G a0 = (1, 10) ∧ ∃ b1, gR G 321 a0 = some b1 ∧ gT G b1 = (1, 6) ∧ wX5_close X G b1 (fun G2 => gT G2 a0 = (1, 10) ∧ ∃ b3, gR G2 321 a0 = some b3 ∧ gT G2 b3 = (1, 6) ∧ Pr (gI G2 194 b3) G2)
set_option maxRecDepth 20000 in
theorem mX9_endFrame {X : Xt} {l : Launch} (hfl : l.stackTraces = false) {G : Gt} {a0 : Nat} {Pr : Int32 → Gt → Prop} (h : wX9_endFrame X G a0 Pr) : Mc X l yX9_endFrame (.code yX9_endFrame cX9_endFrame 1 (some (.int))) 2 43 [.ref a0] G (rI Pr) noX := by
  refine Mc.of (by decide +kernel) hfl [some (.ref a0)] rfl (Nat.le_of_ble_eq_true rfl) rfl ?_
  intro K hL C E0 hr hnm hex
  have B : BX X K l cX9_endFrame 1 RX9 2 43 G (some (.int)) "endFrame" := ⟨hL, C, E0, hr, hnm, hex, hfl⟩
  have C : Cx X K cX9_endFrame 1 RX9 2 43 := C
  unfold wX9_endFrame at h
  refine r_aloadR_n C 0 dX9_endFrame_0 rfl rfl ?_
  obtain ⟨ht, h⟩ := h
  obtain ⟨b1, hb, h⟩ := h
  refine r_getR C fw_RX9_19 rfl ht hb dX9_endFrame_1 ?_
  obtain ⟨ht, h⟩ := h
  refine r_callV C (r := (RX5, TX5, 6)) hL yw_X5_close vw_RX9_229 rfl rfl ht rfl rfl (Nat.le_of_ble_eq_true rfl) ⟨(Nat.le_of_ble_eq_true rfl), (Nat.le_of_ble_eq_true rfl)⟩ (mX5_close hfl h) rfl dX9_endFrame_4 (kV' (fun G2 h => ?_)) kN
  refine r_aloadR_n C 0 dX9_endFrame_7 rfl rfl ?_
  obtain ⟨ht, h⟩ := h
  obtain ⟨b3, hb, h⟩ := h
  refine r_getR C fw_RX9_19 rfl ht hb dX9_endFrame_8 ?_
  obtain ⟨ht, h⟩ := h
  refine r_getI C fw_RX9_232 rfl ht dX9_endFrame_11 ?_
  exact r_iret C E0 hr ⟨_, rfl, h⟩ dX9_endFrame_14
def wX9_needHeardIndex (X : Xt) (G : Gt) (x0 : Int32) (Pr : Gt → Prop) (Px : String → Gt → Prop) : Prop := (0 ≤ x0 → Pr G) ∧ (¬ (0 ≤ x0) → gH G + 1 ≤ xC X ∧ gU G + 6 ≤ xS X ∧ ∀ h u, gH G ≤ h → h ≤ gH G + 1 → gU G ≤ u → u ≤ gU G + 6 → Px "java/lang/IndexOutOfBoundsException" (nX G h u))
set_option maxRecDepth 20000 in
theorem mX9_needHeardIndex {X : Xt} {l : Launch} (hfl : l.stackTraces = false) {G : Gt} {x0 : Int32} {Pr : Gt → Prop} {Px : String → Gt → Prop} (h : wX9_needHeardIndex X G x0 Pr Px) : Mc X l yX9_needHeardIndex (.code yX9_needHeardIndex cX9_needHeardIndex 1 none) 6 100 [.int x0] G (rV Pr) Px := by
  refine Mc.of (by decide +kernel) hfl [some (.int x0)] rfl (Nat.le_of_ble_eq_true rfl) rfl ?_
  intro K hL C E0 hr hnm hex
  have B : BX X K l cX9_needHeardIndex 1 RX9 6 100 G none "needHeardIndex" := ⟨hL, C, E0, hr, hnm, hex, hfl⟩
  have C : Cx X K cX9_needHeardIndex 1 RX9 6 100 := C
  unfold wX9_needHeardIndex at h
  refine r_iload_n C 0 dX9_needHeardIndex_0 rfl rfl ?_
  refine r_if_ge C 14 dX9_needHeardIndex_1 (by decide) (fun c => ?_) (fun c => ?_)
  · replace h := h.1 c
    exact r_vret C E0 hr ⟨rfl, h⟩ dX9_needHeardIndex_14
  · replace h := h.2 c
    exact r_throw hL hfl C E0 hex th_RX9_23_27 st_RX9_179 h rfl (Nat.le_of_ble_eq_true rfl) (Nat.le_of_ble_eq_true rfl) dX9_needHeardIndex_4 dX9_needHeardIndex_7 dX9_needHeardIndex_8 dX9_needHeardIndex_10 dX9_needHeardIndex_13
def wX9_verdict (X : Xt) (G : Gt) (a0 : Nat) (x1 : Int32) (Pr : Int32 → Gt → Prop) (Px : String → Gt → Prop) : Prop := wX9_needHeardIndex X G x1 (fun G1 => gT G1 a0 = (1, 10) ∧ ∃ b2, gR G1 321 a0 = some b2 ∧ gT G1 b2 = (1, 6) ∧ wX5_isKept X G1 b2 x1 (fun r3 G4 => (r3 = 0 → Pr (-1) G4) ∧ (¬ (r3 = 0) → gT G4 a0 = (1, 10) ∧ ∃ b45, gR G4 321 a0 = some b45 ∧ gT G4 b45 = (1, 6) ∧ ∃ b46, gR G4 192 b45 = some b46 ∧ gT G4 a0 = (1, 10) ∧ ∃ b47, gR G4 321 a0 = some b47 ∧ gT G4 b47 = (1, 6) ∧ wX5_placeOf X G4 b47 x1 (fun r48 G49 => (gT G49 b46).1 = 2 ∧ vp_in r48 (gT G49 b46).2 ∧ Pr (gA G49 b46 r48.toNatClampNeg) G49)))) Px
set_option maxRecDepth 20000 in
theorem mX9_verdict {X : Xt} {l : Launch} (hfl : l.stackTraces = false) {G : Gt} {a0 : Nat} {x1 : Int32} {Pr : Int32 → Gt → Prop} {Px : String → Gt → Prop} (h : wX9_verdict X G a0 x1 Pr Px) : Mc X l yX9_verdict (.code yX9_verdict cX9_verdict 2 (some (.int))) 7 120 [.ref a0, .int x1] G (rI Pr) Px := by
  refine Mc.of (by decide +kernel) hfl [some (.ref a0), some (.int x1)] rfl (Nat.le_of_ble_eq_true rfl) rfl ?_
  intro K hL C E0 hr hnm hex
  have B : BX X K l cX9_verdict 2 RX9 7 120 G (some (.int)) "verdict" := ⟨hL, C, E0, hr, hnm, hex, hfl⟩
  have C : Cx X K cX9_verdict 2 RX9 7 120 := C
  unfold wX9_verdict at h
  refine r_iload_n C 1 dX9_verdict_0 rfl rfl ?_
  refine r_callS C hL yw_X9_needHeardIndex sw_RX9_235 rfl rfl (Nat.le_of_ble_eq_true rfl) ⟨(Nat.le_of_ble_eq_true rfl), (Nat.le_of_ble_eq_true rfl)⟩ (mX9_needHeardIndex hfl h) rfl dX9_verdict_1 (kV' (fun G1 h => ?_)) (kO C E0 hex)
  refine r_aloadR_n C 0 dX9_verdict_4 rfl rfl ?_
  obtain ⟨ht, h⟩ := h
  obtain ⟨b2, hb, h⟩ := h
  refine r_getR C fw_RX9_19 rfl ht hb dX9_verdict_5 ?_
  refine r_iload_n C 1 dX9_verdict_8 rfl rfl ?_
  obtain ⟨ht, h⟩ := h
  refine r_callV C (r := (RX5, TX5, 6)) hL yw_X5_isKept vw_RX9_238 rfl rfl ht rfl rfl (Nat.le_of_ble_eq_true rfl) ⟨(Nat.le_of_ble_eq_true rfl), (Nat.le_of_ble_eq_true rfl)⟩ (mX5_isKept hfl h) rfl dX9_verdict_9 (kI (fun r3 G4 h => ?_)) kN
  refine r_if_eq C 34 dX9_verdict_12 (by decide) (fun c => ?_) (fun c => ?_)
  · replace h := h.1 c
    refine r_iconst C (-1) dX9_verdict_34 (by decide) ?_
    exact r_iret C E0 hr ⟨_, rfl, h⟩ dX9_verdict_35
  · replace h := h.2 c
    refine r_aloadR_n C 0 dX9_verdict_15 rfl rfl ?_
    obtain ⟨ht, h⟩ := h
    obtain ⟨b45, hb, h⟩ := h
    refine r_getR C fw_RX9_19 rfl ht hb dX9_verdict_16 ?_
    obtain ⟨ht, h⟩ := h
    obtain ⟨b46, hb, h⟩ := h
    refine r_getR C fw_RX9_241 rfl ht hb dX9_verdict_19 ?_
    refine r_aloadR_n C 0 dX9_verdict_22 rfl rfl ?_
    obtain ⟨ht, h⟩ := h
    obtain ⟨b47, hb, h⟩ := h
    refine r_getR C fw_RX9_19 rfl ht hb dX9_verdict_23 ?_
    refine r_iload_n C 1 dX9_verdict_26 rfl rfl ?_
    obtain ⟨ht, h⟩ := h
    refine r_callV C (r := (RX5, TX5, 6)) hL yw_X5_placeOf vw_RX9_244 rfl rfl ht rfl rfl (Nat.le_of_ble_eq_true rfl) ⟨(Nat.le_of_ble_eq_true rfl), (Nat.le_of_ble_eq_true rfl)⟩ (mX5_placeOf hfl h) rfl dX9_verdict_27 (kI (fun r48 G49 h => ?_)) kN
    obtain ⟨ht, hi, h⟩ := h
    refine r_ialdP C ht hi dX9_verdict_30 ?_
    refine r_goto C 35 dX9_verdict_31 (by decide) ?_
    exact r_iret C E0 hr ⟨_, rfl, h⟩ dX9_verdict_35
def wX9_length (X : Xt) (G : Gt) (a0 : Nat) (x1 : Int32) (Pr : Int32 → Gt → Prop) (Px : String → Gt → Prop) : Prop := wX9_needHeardIndex X G x1 (fun G1 => gT G1 a0 = (1, 10) ∧ ∃ b2, gR G1 321 a0 = some b2 ∧ gT G1 b2 = (1, 6) ∧ wX5_isKept X G1 b2 x1 (fun r3 G4 => (r3 = 0 → Pr (-1) G4) ∧ (¬ (r3 = 0) → gT G4 a0 = (1, 10) ∧ ∃ b45, gR G4 321 a0 = some b45 ∧ gT G4 b45 = (1, 6) ∧ ∃ b46, gR G4 193 b45 = some b46 ∧ gT G4 a0 = (1, 10) ∧ ∃ b47, gR G4 321 a0 = some b47 ∧ gT G4 b47 = (1, 6) ∧ wX5_placeOf X G4 b47 x1 (fun r48 G49 => (gT G49 b46).1 = 2 ∧ vp_in r48 (gT G49 b46).2 ∧ Pr (gA G49 b46 r48.toNatClampNeg) G49)))) Px
set_option maxRecDepth 20000 in
theorem mX9_length {X : Xt} {l : Launch} (hfl : l.stackTraces = false) {G : Gt} {a0 : Nat} {x1 : Int32} {Pr : Int32 → Gt → Prop} {Px : String → Gt → Prop} (h : wX9_length X G a0 x1 Pr Px) : Mc X l yX9_length (.code yX9_length cX9_length 2 (some (.int))) 7 120 [.ref a0, .int x1] G (rI Pr) Px := by
  refine Mc.of (by decide +kernel) hfl [some (.ref a0), some (.int x1)] rfl (Nat.le_of_ble_eq_true rfl) rfl ?_
  intro K hL C E0 hr hnm hex
  have B : BX X K l cX9_length 2 RX9 7 120 G (some (.int)) "length" := ⟨hL, C, E0, hr, hnm, hex, hfl⟩
  have C : Cx X K cX9_length 2 RX9 7 120 := C
  unfold wX9_length at h
  refine r_iload_n C 1 dX9_length_0 rfl rfl ?_
  refine r_callS C hL yw_X9_needHeardIndex sw_RX9_235 rfl rfl (Nat.le_of_ble_eq_true rfl) ⟨(Nat.le_of_ble_eq_true rfl), (Nat.le_of_ble_eq_true rfl)⟩ (mX9_needHeardIndex hfl h) rfl dX9_length_1 (kV' (fun G1 h => ?_)) (kO C E0 hex)
  refine r_aloadR_n C 0 dX9_length_4 rfl rfl ?_
  obtain ⟨ht, h⟩ := h
  obtain ⟨b2, hb, h⟩ := h
  refine r_getR C fw_RX9_19 rfl ht hb dX9_length_5 ?_
  refine r_iload_n C 1 dX9_length_8 rfl rfl ?_
  obtain ⟨ht, h⟩ := h
  refine r_callV C (r := (RX5, TX5, 6)) hL yw_X5_isKept vw_RX9_238 rfl rfl ht rfl rfl (Nat.le_of_ble_eq_true rfl) ⟨(Nat.le_of_ble_eq_true rfl), (Nat.le_of_ble_eq_true rfl)⟩ (mX5_isKept hfl h) rfl dX9_length_9 (kI (fun r3 G4 h => ?_)) kN
  refine r_if_eq C 34 dX9_length_12 (by decide) (fun c => ?_) (fun c => ?_)
  · replace h := h.1 c
    refine r_iconst C (-1) dX9_length_34 (by decide) ?_
    exact r_iret C E0 hr ⟨_, rfl, h⟩ dX9_length_35
  · replace h := h.2 c
    refine r_aloadR_n C 0 dX9_length_15 rfl rfl ?_
    obtain ⟨ht, h⟩ := h
    obtain ⟨b45, hb, h⟩ := h
    refine r_getR C fw_RX9_19 rfl ht hb dX9_length_16 ?_
    obtain ⟨ht, h⟩ := h
    obtain ⟨b46, hb, h⟩ := h
    refine r_getR C fw_RX9_247 rfl ht hb dX9_length_19 ?_
    refine r_aloadR_n C 0 dX9_length_22 rfl rfl ?_
    obtain ⟨ht, h⟩ := h
    obtain ⟨b47, hb, h⟩ := h
    refine r_getR C fw_RX9_19 rfl ht hb dX9_length_23 ?_
    refine r_iload_n C 1 dX9_length_26 rfl rfl ?_
    obtain ⟨ht, h⟩ := h
    refine r_callV C (r := (RX5, TX5, 6)) hL yw_X5_placeOf vw_RX9_244 rfl rfl ht rfl rfl (Nat.le_of_ble_eq_true rfl) ⟨(Nat.le_of_ble_eq_true rfl), (Nat.le_of_ble_eq_true rfl)⟩ (mX5_placeOf hfl h) rfl dX9_length_27 (kI (fun r48 G49 h => ?_)) kN
    obtain ⟨ht, hi, h⟩ := h
    refine r_ialdP C ht hi dX9_length_30 ?_
    refine r_goto C 35 dX9_length_31 (by decide) ?_
    exact r_iret C E0 hr ⟨_, rfl, h⟩ dX9_length_35
def wX9_checksum (X : Xt) (G : Gt) (a0 : Nat) (Pr : Int32 → Gt → Prop) : Prop := gT G a0 = (1, 10) ∧ ∃ b1, gR G 321 a0 = some b1 ∧ gT G b1 = (1, 6) ∧ Pr (gI G 196 b1) G
set_option maxRecDepth 20000 in
theorem mX9_checksum {X : Xt} {l : Launch} (hfl : l.stackTraces = false) {G : Gt} {a0 : Nat} {Pr : Int32 → Gt → Prop} (h : wX9_checksum X G a0 Pr) : Mc X l yX9_checksum (.code yX9_checksum cX9_checksum 1 (some (.int))) 0 0 [.ref a0] G (rI Pr) noX := by
  refine Mc.of (by decide +kernel) hfl [some (.ref a0)] rfl (Nat.le_of_ble_eq_true rfl) rfl ?_
  intro K hL C E0 hr hnm hex
  have B : BX X K l cX9_checksum 1 RX9 0 0 G (some (.int)) "checksum" := ⟨hL, C, E0, hr, hnm, hex, hfl⟩
  have C : Cx X K cX9_checksum 1 RX9 0 0 := C
  unfold wX9_checksum at h
  refine r_aloadR_n C 0 dX9_checksum_0 rfl rfl ?_
  obtain ⟨ht, h⟩ := h
  obtain ⟨b1, hb, h⟩ := h
  refine r_getR C fw_RX9_19 rfl ht hb dX9_checksum_1 ?_
  obtain ⟨ht, h⟩ := h
  refine r_getI C fw_RX9_250 rfl ht dX9_checksum_4 ?_
  exact r_iret C E0 hr ⟨_, rfl, h⟩ dX9_checksum_7
def wX9_mix (X : Xt) (G : Gt) (y0 : Int64) (x2 : Int32) (Pr : Int64 → Gt → Prop) : Prop := Pr (((31 : Int64) * y0) + (x2 : Int32).toInt64) G
set_option maxRecDepth 20000 in
theorem mX9_mix {X : Xt} {l : Launch} (hfl : l.stackTraces = false) {G : Gt} {y0 : Int64} {x2 : Int32} {Pr : Int64 → Gt → Prop} (h : wX9_mix X G y0 x2 Pr) : Mc X l yX9_mix (.code yX9_mix cX9_mix 3 (some (.long))) 0 0 [.long y0, .int x2] G (rJ Pr) noX := by
  refine Mc.of (by decide +kernel) hfl [some (.long y0), none, some (.int x2)] rfl (Nat.le_of_ble_eq_true rfl) rfl ?_
  intro K hL C E0 hr hnm hex
  have B : BX X K l cX9_mix 3 RX9 0 0 G (some (.long)) "mix" := ⟨hL, C, E0, hr, hnm, hex, hfl⟩
  have C : Cx X K cX9_mix 3 RX9 0 0 := C
  unfold wX9_mix at h
  refine r_ldc2 C kl_RX9_279 dX9_mix_0 ?_
  refine r_lload_n C 0 dX9_mix_3 rfl rfl ?_
  refine r_lmul C dX9_mix_4 ?_
  refine r_iload_n C 2 dX9_mix_5 rfl rfl ?_
  refine r_i2l C dX9_mix_6 ?_
  refine r_ladd C dX9_mix_7 ?_
  exact r_lret C E0 hr ⟨_, rfl, h⟩ dX9_mix_8
def wX9_mixRequest_37 (X : Xt) (Pr : Int64 → Gt → Prop) (k37 : Gt → Nat → Int64 → Int32 → Prop) (G : Gt) (a2 : Nat) (y3 : Int64) (x5 : Int32) : Prop := gT G a2 = (1, 9) ∧ ((gI G 291 a2) ≤ x5 → Pr y3 G) ∧ (¬ ((gI G 291 a2) ≤ x5) → gT G a2 = (1, 9) ∧ ∃ b41, gR G 294 a2 = some b41 ∧ (gT G b41).1 = 2 ∧ vp_in x5 (gT G b41).2 ∧ wX9_mix X G y3 (gA G b41 x5.toNatClampNeg) (fun r42 G43 => k37 G43 a2 r42 (x5 + 1)))
set_option maxRecDepth 20000 in
theorem bX9_mixRequest_37 {X : Xt} {K : Kt} {l : Launch} {G0 : Gt} {Pr : Int64 → Gt → Prop} (B : BX X K l cX9_mixRequest 6 RX9 1 22 G0 (some (.long)) "mixRequest") {k37 : Gt → Nat → Int64 → Int32 → Prop} (hk37 : ∀ (G : Gt) (a2 : Nat) (y3 : Int64) (x5 : Int32), k37 G a2 y3 x5 → WM X K (QM X K G0 (rJ Pr) noX) G 37 [none, none, some (.ref a2), some (.long y3), none, some (.int x5)] []) {G : Gt} {a2 : Nat} {y3 : Int64} {x5 : Int32} (h : wX9_mixRequest_37 X Pr k37 G a2 y3 x5) : WM X K (QM X K G0 (rJ Pr) noX) G 37 [none, none, some (.ref a2), some (.long y3), none, some (.int x5)] [] := by
  obtain ⟨hL, C, E0, hr, hnm, hex, hfl⟩ := id B
  unfold wX9_mixRequest_37 at h
  refine r_iload C dX9_mixRequest_37 rfl ?_
  refine r_aloadR_n C 2 dX9_mixRequest_39 rfl rfl ?_
  obtain ⟨ht, h⟩ := h
  refine r_getI C fw_RX9_126 rfl ht dX9_mixRequest_40 ?_
  refine r_icmp_ge C 64 dX9_mixRequest_43 (by decide) (fun c => ?_) (fun c => ?_)
  · replace h := h.1 c
    refine r_lload_n C 3 dX9_mixRequest_64 rfl rfl ?_
    exact r_lret C E0 hr ⟨_, rfl, h⟩ dX9_mixRequest_65
  · replace h := h.2 c
    refine r_lload_n C 3 dX9_mixRequest_46 rfl rfl ?_
    refine r_aloadR_n C 2 dX9_mixRequest_47 rfl rfl ?_
    obtain ⟨ht, h⟩ := h
    obtain ⟨b41, hb, h⟩ := h
    refine r_getR C fw_RX9_110 rfl ht hb dX9_mixRequest_48 ?_
    refine r_iload C dX9_mixRequest_51 rfl ?_
    obtain ⟨ht, hi, h⟩ := h
    refine r_ialdP C ht hi dX9_mixRequest_53 ?_
    refine r_callS C hL yw_X9_mix sw_RX9_255 rfl rfl (Nat.le_of_ble_eq_true rfl) ⟨(Nat.le_of_ble_eq_true rfl), (Nat.le_of_ble_eq_true rfl)⟩ (mX9_mix hfl h) rfl dX9_mixRequest_54 (kJ (fun r42 G43 h => ?_)) kN
    refine r_lstore_n C 3 (lv' := [none, none, some (.ref a2), some (.long r42), none, some (.int x5)]) dX9_mixRequest_57 rfl (Nat.le_of_ble_eq_true rfl) rfl rfl ?_
    refine r_iinc C 1 (lv' := [none, none, some (.ref a2), some (.long r42), none, some (.int (x5 + 1))]) dX9_mixRequest_58 rfl (by decide) rfl rfl ?_
    refine r_goto C 37 dX9_mixRequest_61 (by decide) ?_
    exact hk37 _ _ _ _ h
theorem lX9_mixRequest_37 {X : Xt} {K : Kt} {l : Launch} {G0 : Gt} {Pr : Int64 → Gt → Prop} (B : BX X K l cX9_mixRequest 6 RX9 1 22 G0 (some (.long)) "mixRequest") (I : Gt → Nat → Int64 → Int32 → Prop) (μ : Gt → Nat → Int64 → Int32 → Nat) (hS : ∀ (G : Gt) (a2 : Nat) (y3 : Int64) (x5 : Int32), I G a2 y3 x5 → wX9_mixRequest_37 X Pr (fun G' a2' y3' x5' => I G' a2' y3' x5' ∧ μ G' a2' y3' x5' < μ G a2 y3 x5) G a2 y3 x5) : ∀ (n : Nat) (G : Gt) (a2 : Nat) (y3 : Int64) (x5 : Int32), μ G a2 y3 x5 < n → I G a2 y3 x5 → WM X K (QM X K G0 (rJ Pr) noX) G 37 [none, none, some (.ref a2), some (.long y3), none, some (.int x5)] [] := by
  intro n
  induction n with
  | zero => intro G a2 y3 x5 hm; exact absurd hm (Nat.not_lt_zero _)
  | succ n ih =>
    intro G a2 y3 x5 hm hi
    exact bX9_mixRequest_37 B (fun G' a2' y3' x5' hk => ih G' a2' y3' x5' (Nat.lt_of_lt_of_le hk.2 (Nat.le_of_lt_succ hm)) hk.1) (hS G a2 y3 x5 hi)
def wX9_mixRequest (X : Xt) (G : Gt) (y0 : Int64) (a2 : Nat) (Pr : Int64 → Gt → Prop) : Prop := gT G a2 = (1, 9) ∧ wX9_mix X G y0 (gI G 295 a2) (fun r1 G2 => gT G2 a2 = (1, 9) ∧ wX9_mix X G2 r1 (gI G2 296 a2) (fun r3 G4 => gT G4 a2 = (1, 9) ∧ wX9_mix X G4 r3 (gI G4 297 a2) (fun r5 G6 => gT G6 a2 = (1, 9) ∧ wX8_isReadDone X G6 a2 (fun r7 G8 => (r7 = 0 → Pr r5 G8) ∧ (¬ (r7 = 0) → ∃ (I : Gt → Nat → Int64 → Int32 → Prop) (μ : Gt → Nat → Int64 → Int32 → Nat), I G8 a2 r5 (0 : Int32) ∧ ∀ (G : Gt) (a2 : Nat) (y3 : Int64) (x5 : Int32), I G a2 y3 x5 → wX9_mixRequest_37 X Pr (fun G' a2' y3' x5' => I G' a2' y3' x5' ∧ μ G' a2' y3' x5' < μ G a2 y3 x5) G a2 y3 x5)))))
set_option maxRecDepth 20000 in
theorem mX9_mixRequest {X : Xt} {l : Launch} (hfl : l.stackTraces = false) {G : Gt} {y0 : Int64} {a2 : Nat} {Pr : Int64 → Gt → Prop} (h : wX9_mixRequest X G y0 a2 Pr) : Mc X l yX9_mixRequest (.code yX9_mixRequest cX9_mixRequest 6 (some (.long))) 1 22 [.long y0, .ref a2] G (rJ Pr) noX := by
  refine Mc.of (by decide +kernel) hfl [some (.long y0), none, some (.ref a2), none, none, none] rfl (Nat.le_of_ble_eq_true rfl) rfl ?_
  intro K hL C E0 hr hnm hex
  have B : BX X K l cX9_mixRequest 6 RX9 1 22 G (some (.long)) "mixRequest" := ⟨hL, C, E0, hr, hnm, hex, hfl⟩
  have C : Cx X K cX9_mixRequest 6 RX9 1 22 := C
  unfold wX9_mixRequest at h
  refine r_lload_n C 0 dX9_mixRequest_0 rfl rfl ?_
  refine r_aloadR_n C 2 dX9_mixRequest_1 rfl rfl ?_
  obtain ⟨ht, h⟩ := h
  refine r_getI C fw_RX9_133 rfl ht dX9_mixRequest_2 ?_
  refine r_callS C hL yw_X9_mix sw_RX9_255 rfl rfl (Nat.le_of_ble_eq_true rfl) ⟨(Nat.le_of_ble_eq_true rfl), (Nat.le_of_ble_eq_true rfl)⟩ (mX9_mix hfl h) rfl dX9_mixRequest_5 (kJ (fun r1 G2 h => ?_)) kN
  refine r_lstore_n C 3 (lv' := [some (.long y0), none, some (.ref a2), some (.long r1), none, none]) dX9_mixRequest_8 rfl (Nat.le_of_ble_eq_true rfl) rfl rfl ?_
  refine r_lload_n C 3 dX9_mixRequest_9 rfl rfl ?_
  refine r_aloadR_n C 2 dX9_mixRequest_10 rfl rfl ?_
  obtain ⟨ht, h⟩ := h
  refine r_getI C fw_RX9_136 rfl ht dX9_mixRequest_11 ?_
  refine r_callS C hL yw_X9_mix sw_RX9_255 rfl rfl (Nat.le_of_ble_eq_true rfl) ⟨(Nat.le_of_ble_eq_true rfl), (Nat.le_of_ble_eq_true rfl)⟩ (mX9_mix hfl h) rfl dX9_mixRequest_14 (kJ (fun r3 G4 h => ?_)) kN
  refine r_lstore_n C 3 (lv' := [some (.long y0), none, some (.ref a2), some (.long r3), none, none]) dX9_mixRequest_17 rfl (Nat.le_of_ble_eq_true rfl) rfl rfl ?_
  refine r_lload_n C 3 dX9_mixRequest_18 rfl rfl ?_
  refine r_aloadR_n C 2 dX9_mixRequest_19 rfl rfl ?_
  obtain ⟨ht, h⟩ := h
  refine r_getI C fw_RX9_139 rfl ht dX9_mixRequest_20 ?_
  refine r_callS C hL yw_X9_mix sw_RX9_255 rfl rfl (Nat.le_of_ble_eq_true rfl) ⟨(Nat.le_of_ble_eq_true rfl), (Nat.le_of_ble_eq_true rfl)⟩ (mX9_mix hfl h) rfl dX9_mixRequest_23 (kJ (fun r5 G6 h => ?_)) kN
  refine r_lstore_n C 3 (lv' := [some (.long y0), none, some (.ref a2), some (.long r5), none, none]) dX9_mixRequest_26 rfl (Nat.le_of_ble_eq_true rfl) rfl rfl ?_
  refine r_aloadR_n C 2 dX9_mixRequest_27 rfl rfl ?_
  obtain ⟨ht, h⟩ := h
  refine r_callV C (r := (RX8, TX8, 11)) hL yw_X8_isReadDone vw_RX9_149 rfl rfl ht rfl rfl (Nat.le_of_ble_eq_true rfl) ⟨(Nat.le_of_ble_eq_true rfl), (Nat.le_of_ble_eq_true rfl)⟩ (mX8_isReadDone hfl h) rfl dX9_mixRequest_28 (kI (fun r7 G8 h => ?_)) kN
  refine r_if_eq C 64 dX9_mixRequest_31 (by decide) (fun c => ?_) (fun c => ?_)
  · replace h := h.1 c
    refine r_lload_n C 3 dX9_mixRequest_64 rfl rfl ?_
    exact r_lret C E0 hr ⟨_, rfl, h⟩ dX9_mixRequest_65
  · replace h := h.2 c
    refine r_iconst C 0 dX9_mixRequest_34 (by decide) ?_
    refine r_istore C (lv' := [some (.long y0), none, some (.ref a2), some (.long r5), none, some (.int 0)]) dX9_mixRequest_35 (Nat.le_of_ble_eq_true rfl) rfl rfl ?_
    refine r_fg (lv' := [none, none, some (.ref a2), some (.long r5), none, some (.int 0)]) (show fgt _ _ from ⟨rfl, ⟨rfl, ⟨rfl, trivial⟩⟩⟩) ?_
    obtain ⟨I, μ, hI, hS⟩ := h
    exact lX9_mixRequest_37 B I μ hS _ _ _ _ _ (Nat.lt_succ_self _) hI
def wX9_fingerprint_118 (X : Xt) (Pr : Int64 → Gt → Prop) (Px : String → Gt → Prop) (k110 : Gt → Nat → Int64 → Int32 → Prop) (k118 : Gt → Nat → Int64 → Int32 → Int32 → Prop) (G : Gt) (a0 : Nat) (y1 : Int64) (x3 : Int32) (x4 : Int32) : Prop := (32 ≤ x4 → k110 G a0 y1 (x3 + 1)) ∧ (¬ (32 ≤ x4) → gT G a0 = (1, 10) ∧ ∃ b41, gR G 320 a0 = some b41 ∧ gT G b41 = (1, 2) ∧ ∃ b42, gR G 66 b41 = some b42 ∧ (gT G b42).1 = 4 ∧ vp_in (x3 - 1) (gT G b42).2 ∧ ∃ b43, gB G b42 (x3 - 1).toNatClampNeg = some b43 ∧ gT G b43 = (1, 3) ∧ ∃ b44, gR G 96 b43 = some b44 ∧ (gT G b44).1 = 2 ∧ vp_in x4 (gT G b44).2 ∧ wX9_mix X G y1 (gA G b44 x4.toNatClampNeg) (fun r45 G46 => gT G46 a0 = (1, 10) ∧ ∃ b47, gR G46 320 a0 = some b47 ∧ gT G46 b47 = (1, 2) ∧ ∃ b48, gR G46 67 b47 = some b48 ∧ gT G46 b48 = (1, 1) ∧ wX0_valueOf X G46 b48 x3 x4 (fun r49 G50 => wX9_mix X G50 r45 r49 (fun r51 G52 => k118 G52 a0 r51 x3 (x4 + 1)))))
set_option maxRecDepth 20000 in
theorem bX9_fingerprint_118 {X : Xt} {K : Kt} {l : Launch} {G0 : Gt} {Pr : Int64 → Gt → Prop} {Px : String → Gt → Prop} (B : BX X K l cX9_fingerprint 5 RX9 8 143 G0 (some (.long)) "fingerprint") {k110 : Gt → Nat → Int64 → Int32 → Prop} {k118 : Gt → Nat → Int64 → Int32 → Int32 → Prop} (hk110 : ∀ (G : Gt) (a0 : Nat) (y1 : Int64) (x3 : Int32), k110 G a0 y1 x3 → WM X K (QM X K G0 (rJ Pr) Px) G 110 [some (.ref a0), some (.long y1), none, some (.int x3), none] []) (hk118 : ∀ (G : Gt) (a0 : Nat) (y1 : Int64) (x3 : Int32) (x4 : Int32), k118 G a0 y1 x3 x4 → WM X K (QM X K G0 (rJ Pr) Px) G 118 [some (.ref a0), some (.long y1), none, some (.int x3), some (.int x4)] []) {G : Gt} {a0 : Nat} {y1 : Int64} {x3 : Int32} {x4 : Int32} (h : wX9_fingerprint_118 X Pr Px k110 k118 G a0 y1 x3 x4) : WM X K (QM X K G0 (rJ Pr) Px) G 118 [some (.ref a0), some (.long y1), none, some (.int x3), some (.int x4)] [] := by
  obtain ⟨hL, C, E0, hr, hnm, hex, hfl⟩ := id B
  unfold wX9_fingerprint_118 at h
  refine r_iload C dX9_fingerprint_118 rfl ?_
  refine r_bipush C 32 dX9_fingerprint_120 (by decide) ?_
  refine r_icmp_ge C 171 dX9_fingerprint_122 (by decide) (fun c => ?_) (fun c => ?_)
  · replace h := h.1 c
    refine r_iinc C 1 (lv' := [some (.ref a0), some (.long y1), none, some (.int (x3 + 1)), some (.int x4)]) dX9_fingerprint_171 rfl (by decide) rfl rfl ?_
    refine r_goto C 110 dX9_fingerprint_174 (by decide) ?_
    refine r_fg (lv' := [some (.ref a0), some (.long y1), none, some (.int (x3 + 1)), none]) (show fgt _ _ from ⟨rfl, ⟨rfl, ⟨rfl, trivial⟩⟩⟩) ?_
    exact hk110 _ _ _ _ h
  · replace h := h.2 c
    refine r_lload_n C 1 dX9_fingerprint_125 rfl rfl ?_
    refine r_aloadR_n C 0 dX9_fingerprint_126 rfl rfl ?_
    obtain ⟨ht, h⟩ := h
    obtain ⟨b41, hb, h⟩ := h
    refine r_getR C fw_RX9_10 rfl ht hb dX9_fingerprint_127 ?_
    obtain ⟨ht, h⟩ := h
    obtain ⟨b42, hb, h⟩ := h
    refine r_getR C fw_RX9_51 rfl ht hb dX9_fingerprint_130 ?_
    refine r_iload_n C 3 dX9_fingerprint_133 rfl rfl ?_
    refine r_iconst C 1 dX9_fingerprint_134 (by decide) ?_
    refine r_isub C dX9_fingerprint_135 ?_
    obtain ⟨ht, hi, h⟩ := h
    obtain ⟨b43, hb, h⟩ := h
    refine r_aald4P C ht hi hb dX9_fingerprint_136 ?_
    obtain ⟨ht, h⟩ := h
    obtain ⟨b44, hb, h⟩ := h
    refine r_getR C fw_RX9_68 rfl ht hb dX9_fingerprint_137 ?_
    refine r_iload C dX9_fingerprint_140 rfl ?_
    obtain ⟨ht, hi, h⟩ := h
    refine r_ialdP C ht hi dX9_fingerprint_142 ?_
    refine r_callS C hL yw_X9_mix sw_RX9_255 rfl rfl (Nat.le_of_ble_eq_true rfl) ⟨(Nat.le_of_ble_eq_true rfl), (Nat.le_of_ble_eq_true rfl)⟩ (mX9_mix hfl h) rfl dX9_fingerprint_143 (kJ (fun r45 G46 h => ?_)) kN
    refine r_lstore_n C 1 (lv' := [some (.ref a0), some (.long r45), none, some (.int x3), some (.int x4)]) dX9_fingerprint_146 rfl (Nat.le_of_ble_eq_true rfl) rfl rfl ?_
    refine r_lload_n C 1 dX9_fingerprint_147 rfl rfl ?_
    refine r_aloadR_n C 0 dX9_fingerprint_148 rfl rfl ?_
    obtain ⟨ht, h⟩ := h
    obtain ⟨b47, hb, h⟩ := h
    refine r_getR C fw_RX9_10 rfl ht hb dX9_fingerprint_149 ?_
    obtain ⟨ht, h⟩ := h
    obtain ⟨b48, hb, h⟩ := h
    refine r_getR C fw_RX9_194 rfl ht hb dX9_fingerprint_152 ?_
    refine r_iload_n C 3 dX9_fingerprint_155 rfl rfl ?_
    refine r_iload C dX9_fingerprint_156 rfl ?_
    obtain ⟨ht, h⟩ := h
    refine r_callV C (r := (RX0, TX0, 2)) hL yw_X0_valueOf vw_RX9_204 rfl rfl ht rfl rfl (Nat.le_of_ble_eq_true rfl) ⟨(Nat.le_of_ble_eq_true rfl), (Nat.le_of_ble_eq_true rfl)⟩ (mX0_valueOf hfl h) rfl dX9_fingerprint_158 (kI (fun r49 G50 h => ?_)) kN
    refine r_callS C hL yw_X9_mix sw_RX9_255 rfl rfl (Nat.le_of_ble_eq_true rfl) ⟨(Nat.le_of_ble_eq_true rfl), (Nat.le_of_ble_eq_true rfl)⟩ (mX9_mix hfl h) rfl dX9_fingerprint_161 (kJ (fun r51 G52 h => ?_)) kN
    refine r_lstore_n C 1 (lv' := [some (.ref a0), some (.long r51), none, some (.int x3), some (.int x4)]) dX9_fingerprint_164 rfl (Nat.le_of_ble_eq_true rfl) rfl rfl ?_
    refine r_iinc C 1 (lv' := [some (.ref a0), some (.long r51), none, some (.int x3), some (.int (x4 + 1))]) dX9_fingerprint_165 rfl (by decide) rfl rfl ?_
    refine r_goto C 118 dX9_fingerprint_168 (by decide) ?_
    exact hk118 _ _ _ _ _ h
theorem lX9_fingerprint_118 {X : Xt} {K : Kt} {l : Launch} {G0 : Gt} {Pr : Int64 → Gt → Prop} {Px : String → Gt → Prop} (B : BX X K l cX9_fingerprint 5 RX9 8 143 G0 (some (.long)) "fingerprint") {k110 : Gt → Nat → Int64 → Int32 → Prop} (hk110 : ∀ (G : Gt) (a0 : Nat) (y1 : Int64) (x3 : Int32), k110 G a0 y1 x3 → WM X K (QM X K G0 (rJ Pr) Px) G 110 [some (.ref a0), some (.long y1), none, some (.int x3), none] []) (I : Gt → Nat → Int64 → Int32 → Int32 → Prop) (μ : Gt → Nat → Int64 → Int32 → Int32 → Nat) (hS : ∀ (G : Gt) (a0 : Nat) (y1 : Int64) (x3 : Int32) (x4 : Int32), I G a0 y1 x3 x4 → wX9_fingerprint_118 X Pr Px k110 (fun G' a0' y1' x3' x4' => I G' a0' y1' x3' x4' ∧ μ G' a0' y1' x3' x4' < μ G a0 y1 x3 x4) G a0 y1 x3 x4) : ∀ (n : Nat) (G : Gt) (a0 : Nat) (y1 : Int64) (x3 : Int32) (x4 : Int32), μ G a0 y1 x3 x4 < n → I G a0 y1 x3 x4 → WM X K (QM X K G0 (rJ Pr) Px) G 118 [some (.ref a0), some (.long y1), none, some (.int x3), some (.int x4)] [] := by
  intro n
  induction n with
  | zero => intro G a0 y1 x3 x4 hm; exact absurd hm (Nat.not_lt_zero _)
  | succ n ih =>
    intro G a0 y1 x3 x4 hm hi
    exact bX9_fingerprint_118 B hk110 (fun G' a0' y1' x3' x4' hk => ih G' a0' y1' x3' x4' (Nat.lt_of_lt_of_le hk.2 (Nat.le_of_lt_succ hm)) hk.1) (hS G a0 y1 x3 x4 hi)
def wX9_fingerprint_110 (X : Xt) (Pr : Int64 → Gt → Prop) (Px : String → Gt → Prop) (k110 : Gt → Nat → Int64 → Int32 → Prop) (G : Gt) (a0 : Nat) (y1 : Int64) (x3 : Int32) : Prop := (3 < x3 → Pr y1 G) ∧ (¬ (3 < x3) → ∃ (I : Gt → Nat → Int64 → Int32 → Int32 → Prop) (μ : Gt → Nat → Int64 → Int32 → Int32 → Nat), I G a0 y1 x3 (0 : Int32) ∧ ∀ (G : Gt) (a0 : Nat) (y1 : Int64) (x3 : Int32) (x4 : Int32), I G a0 y1 x3 x4 → wX9_fingerprint_118 X Pr Px k110 (fun G' a0' y1' x3' x4' => I G' a0' y1' x3' x4' ∧ μ G' a0' y1' x3' x4' < μ G a0 y1 x3 x4) G a0 y1 x3 x4)
set_option maxRecDepth 20000 in
theorem bX9_fingerprint_110 {X : Xt} {K : Kt} {l : Launch} {G0 : Gt} {Pr : Int64 → Gt → Prop} {Px : String → Gt → Prop} (B : BX X K l cX9_fingerprint 5 RX9 8 143 G0 (some (.long)) "fingerprint") {k110 : Gt → Nat → Int64 → Int32 → Prop} (hk110 : ∀ (G : Gt) (a0 : Nat) (y1 : Int64) (x3 : Int32), k110 G a0 y1 x3 → WM X K (QM X K G0 (rJ Pr) Px) G 110 [some (.ref a0), some (.long y1), none, some (.int x3), none] []) {G : Gt} {a0 : Nat} {y1 : Int64} {x3 : Int32} (h : wX9_fingerprint_110 X Pr Px k110 G a0 y1 x3) : WM X K (QM X K G0 (rJ Pr) Px) G 110 [some (.ref a0), some (.long y1), none, some (.int x3), none] [] := by
  obtain ⟨hL, C, E0, hr, hnm, hex, hfl⟩ := id B
  unfold wX9_fingerprint_110 at h
  refine r_iload_n C 3 dX9_fingerprint_110 rfl rfl ?_
  refine r_iconst C 3 dX9_fingerprint_111 (by decide) ?_
  refine r_icmp_gt C 177 dX9_fingerprint_112 (by decide) (fun c => ?_) (fun c => ?_)
  · replace h := h.1 c
    refine r_lload_n C 1 dX9_fingerprint_177 rfl rfl ?_
    exact r_lret C E0 hr ⟨_, rfl, h⟩ dX9_fingerprint_178
  · replace h := h.2 c
    refine r_iconst C 0 dX9_fingerprint_115 (by decide) ?_
    refine r_istore C (lv' := [some (.ref a0), some (.long y1), none, some (.int x3), some (.int 0)]) dX9_fingerprint_116 (Nat.le_of_ble_eq_true rfl) rfl rfl ?_
    obtain ⟨I, μ, hI, hS⟩ := h
    exact lX9_fingerprint_118 B hk110 I μ hS _ _ _ _ _ _ (Nat.lt_succ_self _) hI
theorem lX9_fingerprint_110 {X : Xt} {K : Kt} {l : Launch} {G0 : Gt} {Pr : Int64 → Gt → Prop} {Px : String → Gt → Prop} (B : BX X K l cX9_fingerprint 5 RX9 8 143 G0 (some (.long)) "fingerprint") (I : Gt → Nat → Int64 → Int32 → Prop) (μ : Gt → Nat → Int64 → Int32 → Nat) (hS : ∀ (G : Gt) (a0 : Nat) (y1 : Int64) (x3 : Int32), I G a0 y1 x3 → wX9_fingerprint_110 X Pr Px (fun G' a0' y1' x3' => I G' a0' y1' x3' ∧ μ G' a0' y1' x3' < μ G a0 y1 x3) G a0 y1 x3) : ∀ (n : Nat) (G : Gt) (a0 : Nat) (y1 : Int64) (x3 : Int32), μ G a0 y1 x3 < n → I G a0 y1 x3 → WM X K (QM X K G0 (rJ Pr) Px) G 110 [some (.ref a0), some (.long y1), none, some (.int x3), none] [] := by
  intro n
  induction n with
  | zero => intro G a0 y1 x3 hm; exact absurd hm (Nat.not_lt_zero _)
  | succ n ih =>
    intro G a0 y1 x3 hm hi
    exact bX9_fingerprint_110 B (fun G' a0' y1' x3' hk => ih G' a0' y1' x3' (Nat.lt_of_lt_of_le hk.2 (Nat.le_of_lt_succ hm)) hk.1) (hS G a0 y1 x3 hi)
def wX9_fingerprint_63 (X : Xt) (Pr : Int64 → Gt → Prop) (Px : String → Gt → Prop) (k63 : Gt → Nat → Int64 → Int32 → Prop) (G : Gt) (a0 : Nat) (y1 : Int64) (x3 : Int32) : Prop := gT G a0 = (1, 10) ∧ ∃ b1, gR G 320 a0 = some b1 ∧ gT G b1 = (1, 2) ∧ ∃ b2, gR G 68 b1 = some b2 ∧ gT G b2 = (1, 7) ∧ ∃ b3, gR G 224 b2 = some b3 ∧ gT G b3 = (1, 0) ∧ wJx4a65c_size_8abf5 X G b3 (fun r4 G5 => (r4 ≤ x3 → ∃ (I : Gt → Nat → Int64 → Int32 → Prop) (μ : Gt → Nat → Int64 → Int32 → Nat), I G5 a0 y1 (1 : Int32) ∧ ∀ (G : Gt) (a0 : Nat) (y1 : Int64) (x3 : Int32), I G a0 y1 x3 → wX9_fingerprint_110 X Pr Px (fun G' a0' y1' x3' => I G' a0' y1' x3' ∧ μ G' a0' y1' x3' < μ G a0 y1 x3) G a0 y1 x3) ∧ (¬ (r4 ≤ x3) → gT G5 a0 = (1, 10) ∧ ∃ b46, gR G5 320 a0 = some b46 ∧ gT G5 b46 = (1, 2) ∧ ∃ b47, gR G5 68 b46 = some b47 ∧ gT G5 b47 = (1, 7) ∧ ∃ b48, gR G5 224 b47 = some b48 ∧ gT G5 b48 = (1, 0) ∧ wJx4a65c_get_915e3 X G5 b48 x3 (fun r49 G50 => ∃ b51, r49 = some b51 ∧ gT G50 b51 = (1, 9) ∧ wX9_mixRequest X G50 y1 b51 (fun r52 G53 => k63 G53 a0 r52 (x3 + 1))) Px))
set_option maxRecDepth 20000 in
theorem bX9_fingerprint_63 {X : Xt} {K : Kt} {l : Launch} {G0 : Gt} {Pr : Int64 → Gt → Prop} {Px : String → Gt → Prop} (B : BX X K l cX9_fingerprint 5 RX9 8 143 G0 (some (.long)) "fingerprint") {k63 : Gt → Nat → Int64 → Int32 → Prop} (hk63 : ∀ (G : Gt) (a0 : Nat) (y1 : Int64) (x3 : Int32), k63 G a0 y1 x3 → WM X K (QM X K G0 (rJ Pr) Px) G 63 [some (.ref a0), some (.long y1), none, some (.int x3), none] []) {G : Gt} {a0 : Nat} {y1 : Int64} {x3 : Int32} (h : wX9_fingerprint_63 X Pr Px k63 G a0 y1 x3) : WM X K (QM X K G0 (rJ Pr) Px) G 63 [some (.ref a0), some (.long y1), none, some (.int x3), none] [] := by
  obtain ⟨hL, C, E0, hr, hnm, hex, hfl⟩ := id B
  unfold wX9_fingerprint_63 at h
  refine r_iload_n C 3 dX9_fingerprint_63 rfl rfl ?_
  refine r_aloadR_n C 0 dX9_fingerprint_64 rfl rfl ?_
  obtain ⟨ht, h⟩ := h
  obtain ⟨b1, hb, h⟩ := h
  refine r_getR C fw_RX9_10 rfl ht hb dX9_fingerprint_65 ?_
  obtain ⟨ht, h⟩ := h
  obtain ⟨b2, hb, h⟩ := h
  refine r_getR C fw_RX9_95 rfl ht hb dX9_fingerprint_68 ?_
  obtain ⟨ht, h⟩ := h
  obtain ⟨b3, hb, h⟩ := h
  refine r_getR C fw_RX9_264 rfl ht hb dX9_fingerprint_71 ?_
  obtain ⟨ht, h⟩ := h
  refine r_callV C (r := (RJx4a65c, TJx4a65c, 3)) hL yw_Jx4a65c_size_8abf5 vw_RX9_267 rfl rfl ht rfl rfl (Nat.le_of_ble_eq_true rfl) ⟨(Nat.le_of_ble_eq_true rfl), (Nat.le_of_ble_eq_true rfl)⟩ (mJx4a65c_size_8abf5 hfl h) rfl dX9_fingerprint_74 (kI (fun r4 G5 h => ?_)) kN
  refine r_icmp_ge C 108 dX9_fingerprint_77 (by decide) (fun c => ?_) (fun c => ?_)
  · replace h := h.1 c
    refine r_iconst C 1 dX9_fingerprint_108 (by decide) ?_
    refine r_istore_n C 3 (lv' := [some (.ref a0), some (.long y1), none, some (.int 1), none]) dX9_fingerprint_109 rfl (Nat.le_of_ble_eq_true rfl) rfl rfl ?_
    obtain ⟨I, μ, hI, hS⟩ := h
    exact lX9_fingerprint_110 B I μ hS _ _ _ _ _ (Nat.lt_succ_self _) hI
  · replace h := h.2 c
    refine r_lload_n C 1 dX9_fingerprint_80 rfl rfl ?_
    refine r_aloadR_n C 0 dX9_fingerprint_81 rfl rfl ?_
    obtain ⟨ht, h⟩ := h
    obtain ⟨b46, hb, h⟩ := h
    refine r_getR C fw_RX9_10 rfl ht hb dX9_fingerprint_82 ?_
    obtain ⟨ht, h⟩ := h
    obtain ⟨b47, hb, h⟩ := h
    refine r_getR C fw_RX9_95 rfl ht hb dX9_fingerprint_85 ?_
    obtain ⟨ht, h⟩ := h
    obtain ⟨b48, hb, h⟩ := h
    refine r_getR C fw_RX9_264 rfl ht hb dX9_fingerprint_88 ?_
    refine r_iload_n C 3 dX9_fingerprint_91 rfl rfl ?_
    obtain ⟨ht, h⟩ := h
    refine r_callV C (r := (RJx4a65c, TJx4a65c, 3)) hL yw_Jx4a65c_get_915e3 vw_RX9_271 rfl rfl ht rfl rfl (Nat.le_of_ble_eq_true rfl) ⟨(Nat.le_of_ble_eq_true rfl), (Nat.le_of_ble_eq_true rfl)⟩ (mJx4a65c_get_915e3 hfl h) rfl dX9_fingerprint_92 (kA' (fun r49 G50 h => ?_)) (kO C E0 hex)
    obtain ⟨b51, hb, ht, h⟩ := h
    subst hb
    refine r_cast C (r := (RX8, TX8, 11)) rfl cl_RX9_99 ht dX9_fingerprint_95 ?_
    refine r_callS C hL yw_X9_mixRequest sw_RX9_275 rfl rfl (Nat.le_of_ble_eq_true rfl) ⟨(Nat.le_of_ble_eq_true rfl), (Nat.le_of_ble_eq_true rfl)⟩ (mX9_mixRequest hfl h) rfl dX9_fingerprint_98 (kJ (fun r52 G53 h => ?_)) kN
    refine r_lstore_n C 1 (lv' := [some (.ref a0), some (.long r52), none, some (.int x3), none]) dX9_fingerprint_101 rfl (Nat.le_of_ble_eq_true rfl) rfl rfl ?_
    refine r_iinc C 1 (lv' := [some (.ref a0), some (.long r52), none, some (.int (x3 + 1)), none]) dX9_fingerprint_102 rfl (by decide) rfl rfl ?_
    refine r_goto C 63 dX9_fingerprint_105 (by decide) ?_
    exact hk63 _ _ _ _ h
theorem lX9_fingerprint_63 {X : Xt} {K : Kt} {l : Launch} {G0 : Gt} {Pr : Int64 → Gt → Prop} {Px : String → Gt → Prop} (B : BX X K l cX9_fingerprint 5 RX9 8 143 G0 (some (.long)) "fingerprint") (I : Gt → Nat → Int64 → Int32 → Prop) (μ : Gt → Nat → Int64 → Int32 → Nat) (hS : ∀ (G : Gt) (a0 : Nat) (y1 : Int64) (x3 : Int32), I G a0 y1 x3 → wX9_fingerprint_63 X Pr Px (fun G' a0' y1' x3' => I G' a0' y1' x3' ∧ μ G' a0' y1' x3' < μ G a0 y1 x3) G a0 y1 x3) : ∀ (n : Nat) (G : Gt) (a0 : Nat) (y1 : Int64) (x3 : Int32), μ G a0 y1 x3 < n → I G a0 y1 x3 → WM X K (QM X K G0 (rJ Pr) Px) G 63 [some (.ref a0), some (.long y1), none, some (.int x3), none] [] := by
  intro n
  induction n with
  | zero => intro G a0 y1 x3 hm; exact absurd hm (Nat.not_lt_zero _)
  | succ n ih =>
    intro G a0 y1 x3 hm hi
    exact bX9_fingerprint_63 B (fun G' a0' y1' x3' hk => ih G' a0' y1' x3' (Nat.lt_of_lt_of_le hk.2 (Nat.le_of_lt_succ hm)) hk.1) (hS G a0 y1 x3 hi)
def wX9_fingerprint_40 (X : Xt) (Pr : Int64 → Gt → Prop) (Px : String → Gt → Prop) (k40 : Gt → Nat → Int64 → Int32 → Prop) (G : Gt) (a0 : Nat) (y1 : Int64) (x3 : Int32) : Prop := (3 ≤ x3 → ∃ (I : Gt → Nat → Int64 → Int32 → Prop) (μ : Gt → Nat → Int64 → Int32 → Nat), I G a0 y1 (0 : Int32) ∧ ∀ (G : Gt) (a0 : Nat) (y1 : Int64) (x3 : Int32), I G a0 y1 x3 → wX9_fingerprint_63 X Pr Px (fun G' a0' y1' x3' => I G' a0' y1' x3' ∧ μ G' a0' y1' x3' < μ G a0 y1 x3) G a0 y1 x3) ∧ (¬ (3 ≤ x3) → gT G a0 = (1, 10) ∧ wX9_requests X G a0 x3 (fun r41 G42 => wX9_mix X G42 y1 r41 (fun r43 G44 => k40 G44 a0 r43 (x3 + 1))) Px)
set_option maxRecDepth 20000 in
theorem bX9_fingerprint_40 {X : Xt} {K : Kt} {l : Launch} {G0 : Gt} {Pr : Int64 → Gt → Prop} {Px : String → Gt → Prop} (B : BX X K l cX9_fingerprint 5 RX9 8 143 G0 (some (.long)) "fingerprint") {k40 : Gt → Nat → Int64 → Int32 → Prop} (hk40 : ∀ (G : Gt) (a0 : Nat) (y1 : Int64) (x3 : Int32), k40 G a0 y1 x3 → WM X K (QM X K G0 (rJ Pr) Px) G 40 [some (.ref a0), some (.long y1), none, some (.int x3), none] []) {G : Gt} {a0 : Nat} {y1 : Int64} {x3 : Int32} (h : wX9_fingerprint_40 X Pr Px k40 G a0 y1 x3) : WM X K (QM X K G0 (rJ Pr) Px) G 40 [some (.ref a0), some (.long y1), none, some (.int x3), none] [] := by
  obtain ⟨hL, C, E0, hr, hnm, hex, hfl⟩ := id B
  unfold wX9_fingerprint_40 at h
  refine r_iload_n C 3 dX9_fingerprint_40 rfl rfl ?_
  refine r_iconst C 3 dX9_fingerprint_41 (by decide) ?_
  refine r_icmp_ge C 61 dX9_fingerprint_42 (by decide) (fun c => ?_) (fun c => ?_)
  · replace h := h.1 c
    refine r_iconst C 0 dX9_fingerprint_61 (by decide) ?_
    refine r_istore_n C 3 (lv' := [some (.ref a0), some (.long y1), none, some (.int 0), none]) dX9_fingerprint_62 rfl (Nat.le_of_ble_eq_true rfl) rfl rfl ?_
    obtain ⟨I, μ, hI, hS⟩ := h
    exact lX9_fingerprint_63 B I μ hS _ _ _ _ _ (Nat.lt_succ_self _) hI
  · replace h := h.2 c
    refine r_lload_n C 1 dX9_fingerprint_45 rfl rfl ?_
    refine r_aloadR_n C 0 dX9_fingerprint_46 rfl rfl ?_
    refine r_iload_n C 3 dX9_fingerprint_47 rfl rfl ?_
    obtain ⟨ht, h⟩ := h
    refine r_callV C (r := (RX9, TX9, 3)) hL yw_X9_requests vw_RX9_261 rfl rfl ht rfl rfl (Nat.le_of_ble_eq_true rfl) ⟨(Nat.le_of_ble_eq_true rfl), (Nat.le_of_ble_eq_true rfl)⟩ (mX9_requests hfl h) rfl dX9_fingerprint_48 (kI (fun r41 G42 h => ?_)) (kO C E0 hex)
    refine r_callS C hL yw_X9_mix sw_RX9_255 rfl rfl (Nat.le_of_ble_eq_true rfl) ⟨(Nat.le_of_ble_eq_true rfl), (Nat.le_of_ble_eq_true rfl)⟩ (mX9_mix hfl h) rfl dX9_fingerprint_51 (kJ (fun r43 G44 h => ?_)) kN
    refine r_lstore_n C 1 (lv' := [some (.ref a0), some (.long r43), none, some (.int x3), none]) dX9_fingerprint_54 rfl (Nat.le_of_ble_eq_true rfl) rfl rfl ?_
    refine r_iinc C 1 (lv' := [some (.ref a0), some (.long r43), none, some (.int (x3 + 1)), none]) dX9_fingerprint_55 rfl (by decide) rfl rfl ?_
    refine r_goto C 40 dX9_fingerprint_58 (by decide) ?_
    exact hk40 _ _ _ _ h
theorem lX9_fingerprint_40 {X : Xt} {K : Kt} {l : Launch} {G0 : Gt} {Pr : Int64 → Gt → Prop} {Px : String → Gt → Prop} (B : BX X K l cX9_fingerprint 5 RX9 8 143 G0 (some (.long)) "fingerprint") (I : Gt → Nat → Int64 → Int32 → Prop) (μ : Gt → Nat → Int64 → Int32 → Nat) (hS : ∀ (G : Gt) (a0 : Nat) (y1 : Int64) (x3 : Int32), I G a0 y1 x3 → wX9_fingerprint_40 X Pr Px (fun G' a0' y1' x3' => I G' a0' y1' x3' ∧ μ G' a0' y1' x3' < μ G a0 y1 x3) G a0 y1 x3) : ∀ (n : Nat) (G : Gt) (a0 : Nat) (y1 : Int64) (x3 : Int32), μ G a0 y1 x3 < n → I G a0 y1 x3 → WM X K (QM X K G0 (rJ Pr) Px) G 40 [some (.ref a0), some (.long y1), none, some (.int x3), none] [] := by
  intro n
  induction n with
  | zero => intro G a0 y1 x3 hm; exact absurd hm (Nat.not_lt_zero _)
  | succ n ih =>
    intro G a0 y1 x3 hm hi
    exact bX9_fingerprint_40 B (fun G' a0' y1' x3' hk => ih G' a0' y1' x3' (Nat.lt_of_lt_of_le hk.2 (Nat.le_of_lt_succ hm)) hk.1) (hS G a0 y1 x3 hi)
def wX9_fingerprint_16 (X : Xt) (Pr : Int64 → Gt → Prop) (Px : String → Gt → Prop) (k16 : Gt → Nat → Int64 → Int32 → Prop) (G : Gt) (a0 : Nat) (y1 : Int64) (x3 : Int32) : Prop := (6 ≤ x3 → ∃ (I : Gt → Nat → Int64 → Int32 → Prop) (μ : Gt → Nat → Int64 → Int32 → Nat), I G a0 y1 (0 : Int32) ∧ ∀ (G : Gt) (a0 : Nat) (y1 : Int64) (x3 : Int32), I G a0 y1 x3 → wX9_fingerprint_40 X Pr Px (fun G' a0' y1' x3' => I G' a0' y1' x3' ∧ μ G' a0' y1' x3' < μ G a0 y1 x3) G a0 y1 x3) ∧ (¬ (6 ≤ x3) → gT G a0 = (1, 10) ∧ wX9_count X G a0 x3 (fun r41 G42 => wX9_mix X G42 y1 r41 (fun r43 G44 => k16 G44 a0 r43 (x3 + 1))) Px)
set_option maxRecDepth 20000 in
theorem bX9_fingerprint_16 {X : Xt} {K : Kt} {l : Launch} {G0 : Gt} {Pr : Int64 → Gt → Prop} {Px : String → Gt → Prop} (B : BX X K l cX9_fingerprint 5 RX9 8 143 G0 (some (.long)) "fingerprint") {k16 : Gt → Nat → Int64 → Int32 → Prop} (hk16 : ∀ (G : Gt) (a0 : Nat) (y1 : Int64) (x3 : Int32), k16 G a0 y1 x3 → WM X K (QM X K G0 (rJ Pr) Px) G 16 [some (.ref a0), some (.long y1), none, some (.int x3), none] []) {G : Gt} {a0 : Nat} {y1 : Int64} {x3 : Int32} (h : wX9_fingerprint_16 X Pr Px k16 G a0 y1 x3) : WM X K (QM X K G0 (rJ Pr) Px) G 16 [some (.ref a0), some (.long y1), none, some (.int x3), none] [] := by
  obtain ⟨hL, C, E0, hr, hnm, hex, hfl⟩ := id B
  unfold wX9_fingerprint_16 at h
  refine r_iload_n C 3 dX9_fingerprint_16 rfl rfl ?_
  refine r_bipush C 6 dX9_fingerprint_17 (by decide) ?_
  refine r_icmp_ge C 38 dX9_fingerprint_19 (by decide) (fun c => ?_) (fun c => ?_)
  · replace h := h.1 c
    refine r_iconst C 0 dX9_fingerprint_38 (by decide) ?_
    refine r_istore_n C 3 (lv' := [some (.ref a0), some (.long y1), none, some (.int 0), none]) dX9_fingerprint_39 rfl (Nat.le_of_ble_eq_true rfl) rfl rfl ?_
    obtain ⟨I, μ, hI, hS⟩ := h
    exact lX9_fingerprint_40 B I μ hS _ _ _ _ _ (Nat.lt_succ_self _) hI
  · replace h := h.2 c
    refine r_lload_n C 1 dX9_fingerprint_22 rfl rfl ?_
    refine r_aloadR_n C 0 dX9_fingerprint_23 rfl rfl ?_
    refine r_iload_n C 3 dX9_fingerprint_24 rfl rfl ?_
    obtain ⟨ht, h⟩ := h
    refine r_callV C (r := (RX9, TX9, 3)) hL yw_X9_count vw_RX9_259 rfl rfl ht rfl rfl (Nat.le_of_ble_eq_true rfl) ⟨(Nat.le_of_ble_eq_true rfl), (Nat.le_of_ble_eq_true rfl)⟩ (mX9_count hfl h) rfl dX9_fingerprint_25 (kI (fun r41 G42 h => ?_)) (kO C E0 hex)
    refine r_callS C hL yw_X9_mix sw_RX9_255 rfl rfl (Nat.le_of_ble_eq_true rfl) ⟨(Nat.le_of_ble_eq_true rfl), (Nat.le_of_ble_eq_true rfl)⟩ (mX9_mix hfl h) rfl dX9_fingerprint_28 (kJ (fun r43 G44 h => ?_)) kN
    refine r_lstore_n C 1 (lv' := [some (.ref a0), some (.long r43), none, some (.int x3), none]) dX9_fingerprint_31 rfl (Nat.le_of_ble_eq_true rfl) rfl rfl ?_
    refine r_iinc C 1 (lv' := [some (.ref a0), some (.long r43), none, some (.int (x3 + 1)), none]) dX9_fingerprint_32 rfl (by decide) rfl rfl ?_
    refine r_goto C 16 dX9_fingerprint_35 (by decide) ?_
    exact hk16 _ _ _ _ h
theorem lX9_fingerprint_16 {X : Xt} {K : Kt} {l : Launch} {G0 : Gt} {Pr : Int64 → Gt → Prop} {Px : String → Gt → Prop} (B : BX X K l cX9_fingerprint 5 RX9 8 143 G0 (some (.long)) "fingerprint") (I : Gt → Nat → Int64 → Int32 → Prop) (μ : Gt → Nat → Int64 → Int32 → Nat) (hS : ∀ (G : Gt) (a0 : Nat) (y1 : Int64) (x3 : Int32), I G a0 y1 x3 → wX9_fingerprint_16 X Pr Px (fun G' a0' y1' x3' => I G' a0' y1' x3' ∧ μ G' a0' y1' x3' < μ G a0 y1 x3) G a0 y1 x3) : ∀ (n : Nat) (G : Gt) (a0 : Nat) (y1 : Int64) (x3 : Int32), μ G a0 y1 x3 < n → I G a0 y1 x3 → WM X K (QM X K G0 (rJ Pr) Px) G 16 [some (.ref a0), some (.long y1), none, some (.int x3), none] [] := by
  intro n
  induction n with
  | zero => intro G a0 y1 x3 hm; exact absurd hm (Nat.not_lt_zero _)
  | succ n ih =>
    intro G a0 y1 x3 hm hi
    exact bX9_fingerprint_16 B (fun G' a0' y1' x3' hk => ih G' a0' y1' x3' (Nat.lt_of_lt_of_le hk.2 (Nat.le_of_lt_succ hm)) hk.1) (hS G a0 y1 x3 hi)
def wX9_fingerprint (X : Xt) (G : Gt) (a0 : Nat) (Pr : Int64 → Gt → Prop) (Px : String → Gt → Prop) : Prop := gT G a0 = (1, 10) ∧ ∃ b1, gR G 320 a0 = some b1 ∧ gT G b1 = (1, 2) ∧ wX9_mix X G (73 : Int64) (gI G 71 b1) (fun r2 G3 => ∃ (I : Gt → Nat → Int64 → Int32 → Prop) (μ : Gt → Nat → Int64 → Int32 → Nat), I G3 a0 r2 (0 : Int32) ∧ ∀ (G : Gt) (a0 : Nat) (y1 : Int64) (x3 : Int32), I G a0 y1 x3 → wX9_fingerprint_16 X Pr Px (fun G' a0' y1' x3' => I G' a0' y1' x3' ∧ μ G' a0' y1' x3' < μ G a0 y1 x3) G a0 y1 x3)
set_option maxRecDepth 20000 in
theorem mX9_fingerprint {X : Xt} {l : Launch} (hfl : l.stackTraces = false) {G : Gt} {a0 : Nat} {Pr : Int64 → Gt → Prop} {Px : String → Gt → Prop} (h : wX9_fingerprint X G a0 Pr Px) : Mc X l yX9_fingerprint (.code yX9_fingerprint cX9_fingerprint 5 (some (.long))) 8 143 [.ref a0] G (rJ Pr) Px := by
  refine Mc.of (by decide +kernel) hfl [some (.ref a0), none, none, none, none] rfl (Nat.le_of_ble_eq_true rfl) rfl ?_
  intro K hL C E0 hr hnm hex
  have B : BX X K l cX9_fingerprint 5 RX9 8 143 G (some (.long)) "fingerprint" := ⟨hL, C, E0, hr, hnm, hex, hfl⟩
  have C : Cx X K cX9_fingerprint 5 RX9 8 143 := C
  unfold wX9_fingerprint at h
  refine r_ldc2 C kl_RX9_253 dX9_fingerprint_0 ?_
  refine r_aloadR_n C 0 dX9_fingerprint_3 rfl rfl ?_
  obtain ⟨ht, h⟩ := h
  obtain ⟨b1, hb, h⟩ := h
  refine r_getR C fw_RX9_10 rfl ht hb dX9_fingerprint_4 ?_
  obtain ⟨ht, h⟩ := h
  refine r_getI C fw_RX9_166 rfl ht dX9_fingerprint_7 ?_
  refine r_callS C hL yw_X9_mix sw_RX9_255 rfl rfl (Nat.le_of_ble_eq_true rfl) ⟨(Nat.le_of_ble_eq_true rfl), (Nat.le_of_ble_eq_true rfl)⟩ (mX9_mix hfl h) rfl dX9_fingerprint_10 (kJ (fun r2 G3 h => ?_)) kN
  refine r_lstore_n C 1 (lv' := [some (.ref a0), some (.long r2), none, none, none]) dX9_fingerprint_13 rfl (Nat.le_of_ble_eq_true rfl) rfl rfl ?_
  refine r_iconst C 0 dX9_fingerprint_14 (by decide) ?_
  refine r_istore_n C 3 (lv' := [some (.ref a0), some (.long r2), none, some (.int 0), none]) dX9_fingerprint_15 rfl (Nat.le_of_ble_eq_true rfl) rfl rfl ?_
  obtain ⟨I, μ, hI, hS⟩ := h
  exact lX9_fingerprint_16 B I μ hS _ _ _ _ _ (Nat.lt_succ_self _) hI
