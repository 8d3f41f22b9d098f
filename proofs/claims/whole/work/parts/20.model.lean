def wX10_thrown (X : Xt) (G : Gt) (a0 : Nat) (Pr : Int32 → Gt → Prop) : Prop := gT G a0 = (1, 11) ∧ Pr (gI G 354 a0) G
set_option maxRecDepth 20000 in
theorem mX10_thrown {X : Xt} {l : Launch} (hfl : l.stackTraces = false) {G : Gt} {a0 : Nat} {Pr : Int32 → Gt → Prop} (h : wX10_thrown X G a0 Pr) : Mc X l yX10_thrown (.code yX10_thrown cX10_thrown 1 (some (.int))) 0 0 [.ref a0] G (rI Pr) noX := by
  refine Mc.of (by decide +kernel) hfl [some (.ref a0)] rfl (Nat.le_of_ble_eq_true rfl) rfl ?_
  intro K hL C E0 hr hnm hex
  have B : BX X K l cX10_thrown 1 RX10 0 0 G (some (.int)) "thrown" := ⟨hL, C, E0, hr, hnm, hex, hfl⟩
  have C : Cx X K cX10_thrown 1 RX10 0 0 := C
  unfold wX10_thrown at h
  refine r_aloadR_n C 0 dX10_thrown_0 rfl rfl ?_
  obtain ⟨ht, h⟩ := h
  refine r_getI C fw_RX10_36 rfl ht dX10_thrown_1 ?_
  exact r_iret C E0 hr ⟨_, rfl, h⟩ dX10_thrown_4
def wX10_in (X : Xt) (G : Gt) (x0 : Int32) (x1 : Int32) (x2 : Int32) (Pr : Int32 → Gt → Prop) : Prop := (x0 < x1 → Pr 0 G) ∧ (¬ (x0 < x1) → (x2 < x0 → Pr 0 G) ∧ (¬ (x2 < x0) → Pr 1 G))
set_option maxRecDepth 20000 in
theorem mX10_in {X : Xt} {l : Launch} (hfl : l.stackTraces = false) {G : Gt} {x0 : Int32} {x1 : Int32} {x2 : Int32} {Pr : Int32 → Gt → Prop} (h : wX10_in X G x0 x1 x2 Pr) : Mc X l yX10_in (.code yX10_in cX10_in 3 (some (.boolean))) 0 0 [.int x0, .int x1, .int x2] G (rI Pr) noX := by
  refine Mc.of (by decide +kernel) hfl [some (.int x0), some (.int x1), some (.int x2)] rfl (Nat.le_of_ble_eq_true rfl) rfl ?_
  intro K hL C E0 hr hnm hex
  have B : BX X K l cX10_in 3 RX10 0 0 G (some (.boolean)) "in" := ⟨hL, C, E0, hr, hnm, hex, hfl⟩
  have C : Cx X K cX10_in 3 RX10 0 0 := C
  unfold wX10_in at h
  refine r_iload_n C 0 dX10_in_0 rfl rfl ?_
  refine r_iload_n C 1 dX10_in_1 rfl rfl ?_
  refine r_icmp_lt C 14 dX10_in_2 (by decide) (fun c => ?_) (fun c => ?_)
  · replace h := h.1 c
    refine r_iconst C 0 dX10_in_14 (by decide) ?_
    exact r_zret C E0 hr (Or.inl rfl) ⟨_, rfl, h⟩ dX10_in_15
  · replace h := h.2 c
    refine r_iload_n C 0 dX10_in_5 rfl rfl ?_
    refine r_iload_n C 2 dX10_in_6 rfl rfl ?_
    refine r_icmp_gt C 14 dX10_in_7 (by decide) (fun c => ?_) (fun c => ?_)
    · replace h := h.1 c
      refine r_iconst C 0 dX10_in_14 (by decide) ?_
      exact r_zret C E0 hr (Or.inl rfl) ⟨_, rfl, h⟩ dX10_in_15
    · replace h := h.2 c
      refine r_iconst C 1 dX10_in_10 (by decide) ?_
      refine r_goto C 15 dX10_in_11 (by decide) ?_
      exact r_zret C E0 hr (Or.inr rfl) ⟨_, rfl, h⟩ dX10_in_15
def wX10_fails (X : Xt) (G : Gt) (a0 : Nat) (x1 : Int32) (Pr : Int32 → Gt → Prop) : Prop := gT G a0 = (1, 11) ∧ ∀ G1, G1 = sI G 354 a0 x1 → Pr 0 G1
set_option maxRecDepth 20000 in
theorem mX10_fails {X : Xt} {l : Launch} (hfl : l.stackTraces = false) {G : Gt} {a0 : Nat} {x1 : Int32} {Pr : Int32 → Gt → Prop} (h : wX10_fails X G a0 x1 Pr) : Mc X l yX10_fails (.code yX10_fails cX10_fails 2 (some (.int))) 0 0 [.ref a0, .int x1] G (rI Pr) noX := by
  refine Mc.of (by decide +kernel) hfl [some (.ref a0), some (.int x1)] rfl (Nat.le_of_ble_eq_true rfl) rfl ?_
  intro K hL C E0 hr hnm hex
  have B : BX X K l cX10_fails 2 RX10 0 0 G (some (.int)) "fails" := ⟨hL, C, E0, hr, hnm, hex, hfl⟩
  have C : Cx X K cX10_fails 2 RX10 0 0 := C
  unfold wX10_fails at h
  refine r_aloadR_n C 0 dX10_fails_0 rfl rfl ?_
  refine r_iload_n C 1 dX10_fails_1 rfl rfl ?_
  obtain ⟨ht, h⟩ := h
  refine r_putI C cw_11 fp_RX10_36 rfl ht dX10_fails_2 ?_
  refine r_nm (fun G1 hG1 => ?_)
  replace h := h G1 hG1
  refine r_iconst C 0 dX10_fails_5 (by decide) ?_
  exact r_iret C E0 hr ⟨_, rfl, h⟩ dX10_fails_6
def wX10_sets (X : Xt) (G : Gt) (a0 : Nat) (x1 : Int32) (x2 : Int32) (Pr : Int32 → Gt → Prop) : Prop := gT G a0 = (1, 11) ∧ ∃ b1, gR G 352 a0 = some b1 ∧ (gT G b1).1 = 2 ∧ vp_in x1 (gT G b1).2 ∧ gT G a0 = (1, 11) ∧ ∃ b2, gR G 352 a0 = some b2 ∧ (gT G b2).1 = 2 ∧ vp_in x1 (gT G b2).2 ∧ ∀ G3, G3 = sA G b2 (upd (gA G b2) x1.toNatClampNeg x2) → Pr (gA G b1 x1.toNatClampNeg) G3
set_option maxRecDepth 20000 in
theorem mX10_sets {X : Xt} {l : Launch} (hfl : l.stackTraces = false) {G : Gt} {a0 : Nat} {x1 : Int32} {x2 : Int32} {Pr : Int32 → Gt → Prop} (h : wX10_sets X G a0 x1 x2 Pr) : Mc X l yX10_sets (.code yX10_sets cX10_sets 4 (some (.int))) 0 0 [.ref a0, .int x1, .int x2] G (rI Pr) noX := by
  refine Mc.of (by decide +kernel) hfl [some (.ref a0), some (.int x1), some (.int x2), none] rfl (Nat.le_of_ble_eq_true rfl) rfl ?_
  intro K hL C E0 hr hnm hex
  have B : BX X K l cX10_sets 4 RX10 0 0 G (some (.int)) "sets" := ⟨hL, C, E0, hr, hnm, hex, hfl⟩
  have C : Cx X K cX10_sets 4 RX10 0 0 := C
  unfold wX10_sets at h
  refine r_aloadR_n C 0 dX10_sets_0 rfl rfl ?_
  obtain ⟨ht, h⟩ := h
  obtain ⟨b1, hb, h⟩ := h
  refine r_getR C fw_RX10_7 rfl ht hb dX10_sets_1 ?_
  refine r_iload_n C 1 dX10_sets_4 rfl rfl ?_
  obtain ⟨ht, hi, h⟩ := h
  refine r_ialdP C ht hi dX10_sets_5 ?_
  refine r_istore_n C 3 (lv' := [some (.ref a0), some (.int x1), some (.int x2), some (.int (gA G b1 x1.toNatClampNeg))]) dX10_sets_6 rfl (Nat.le_of_ble_eq_true rfl) rfl rfl ?_
  refine r_aloadR_n C 0 dX10_sets_7 rfl rfl ?_
  obtain ⟨ht, h⟩ := h
  obtain ⟨b2, hb, h⟩ := h
  refine r_getR C fw_RX10_7 rfl ht hb dX10_sets_8 ?_
  refine r_iload_n C 1 dX10_sets_11 rfl rfl ?_
  refine r_iload_n C 2 dX10_sets_12 rfl rfl ?_
  obtain ⟨ht, hi, h⟩ := h
  refine r_iastP C ht hi dX10_sets_13 ?_
  refine r_nm (fun G3 hG3 => ?_)
  replace h := h G3 hG3
  refine r_iload_n C 3 dX10_sets_14 rfl rfl ?_
  exact r_iret C E0 hr ⟨_, rfl, h⟩ dX10_sets_15
def wX10_registerAt (X : Xt) (G : Gt) (x0 : Int32) (x1 : Int32) (Pr : Int32 → Gt → Prop) : Prop := Pr ((32 * (x0 - 1)) + x1) G
set_option maxRecDepth 20000 in
theorem mX10_registerAt {X : Xt} {l : Launch} (hfl : l.stackTraces = false) {G : Gt} {x0 : Int32} {x1 : Int32} {Pr : Int32 → Gt → Prop} (h : wX10_registerAt X G x0 x1 Pr) : Mc X l yX10_registerAt (.code yX10_registerAt cX10_registerAt 2 (some (.int))) 0 0 [.int x0, .int x1] G (rI Pr) noX := by
  refine Mc.of (by decide +kernel) hfl [some (.int x0), some (.int x1)] rfl (Nat.le_of_ble_eq_true rfl) rfl ?_
  intro K hL C E0 hr hnm hex
  have B : BX X K l cX10_registerAt 2 RX10 0 0 G (some (.int)) "registerAt" := ⟨hL, C, E0, hr, hnm, hex, hfl⟩
  have C : Cx X K cX10_registerAt 2 RX10 0 0 := C
  unfold wX10_registerAt at h
  refine r_bipush C 32 dX10_registerAt_0 (by decide) ?_
  refine r_iload_n C 0 dX10_registerAt_2 rfl rfl ?_
  refine r_iconst C 1 dX10_registerAt_3 (by decide) ?_
  refine r_isub C dX10_registerAt_4 ?_
  refine r_imul C dX10_registerAt_5 ?_
  refine r_iload_n C 1 dX10_registerAt_6 rfl rfl ?_
  refine r_iadd C dX10_registerAt_7 ?_
  exact r_iret C E0 hr ⟨_, rfl, h⟩ dX10_registerAt_8
def wX10_isRegister (X : Xt) (G : Gt) (x0 : Int32) (x1 : Int32) (Pr : Int32 → Gt → Prop) : Prop := wX10_in X G x0 1 3 (fun r1 G2 => (r1 = 0 → Pr 0 G2) ∧ (¬ (r1 = 0) → wX10_in X G2 x1 0 31 (fun r43 G44 => (r43 = 0 → Pr 0 G44) ∧ (¬ (r43 = 0) → Pr 1 G44))))
set_option maxRecDepth 20000 in
theorem mX10_isRegister {X : Xt} {l : Launch} (hfl : l.stackTraces = false) {G : Gt} {x0 : Int32} {x1 : Int32} {Pr : Int32 → Gt → Prop} (h : wX10_isRegister X G x0 x1 Pr) : Mc X l yX10_isRegister (.code yX10_isRegister cX10_isRegister 2 (some (.boolean))) 1 22 [.int x0, .int x1] G (rI Pr) noX := by
  refine Mc.of (by decide +kernel) hfl [some (.int x0), some (.int x1)] rfl (Nat.le_of_ble_eq_true rfl) rfl ?_
  intro K hL C E0 hr hnm hex
  have B : BX X K l cX10_isRegister 2 RX10 1 22 G (some (.boolean)) "isRegister" := ⟨hL, C, E0, hr, hnm, hex, hfl⟩
  have C : Cx X K cX10_isRegister 2 RX10 1 22 := C
  unfold wX10_isRegister at h
  refine r_iload_n C 0 dX10_isRegister_0 rfl rfl ?_
  refine r_iconst C 1 dX10_isRegister_1 (by decide) ?_
  refine r_iconst C 3 dX10_isRegister_2 (by decide) ?_
  refine r_callS C hL yw_X10_in sw_RX10_39 rfl rfl (Nat.le_of_ble_eq_true rfl) ⟨(Nat.le_of_ble_eq_true rfl), (Nat.le_of_ble_eq_true rfl)⟩ (mX10_in hfl h) rfl dX10_isRegister_3 (kI (fun r1 G2 h => ?_)) kN
  refine r_if_eq C 23 dX10_isRegister_6 (by decide) (fun c => ?_) (fun c => ?_)
  · replace h := h.1 c
    refine r_iconst C 0 dX10_isRegister_23 (by decide) ?_
    exact r_zret C E0 hr (Or.inl rfl) ⟨_, rfl, h⟩ dX10_isRegister_24
  · replace h := h.2 c
    refine r_iload_n C 1 dX10_isRegister_9 rfl rfl ?_
    refine r_iconst C 0 dX10_isRegister_10 (by decide) ?_
    refine r_bipush C 31 dX10_isRegister_11 (by decide) ?_
    refine r_callS C hL yw_X10_in sw_RX10_39 rfl rfl (Nat.le_of_ble_eq_true rfl) ⟨(Nat.le_of_ble_eq_true rfl), (Nat.le_of_ble_eq_true rfl)⟩ (mX10_in hfl h) rfl dX10_isRegister_13 (kI (fun r43 G44 h => ?_)) kN
    refine r_if_eq C 23 dX10_isRegister_16 (by decide) (fun c => ?_) (fun c => ?_)
    · replace h := h.1 c
      refine r_iconst C 0 dX10_isRegister_23 (by decide) ?_
      exact r_zret C E0 hr (Or.inl rfl) ⟨_, rfl, h⟩ dX10_isRegister_24
    · replace h := h.2 c
      refine r_iconst C 1 dX10_isRegister_19 (by decide) ?_
      refine r_goto C 24 dX10_isRegister_20 (by decide) ?_
      exact r_zret C E0 hr (Or.inr rfl) ⟨_, rfl, h⟩ dX10_isRegister_24
def wX10_set_63 (X : Xt) (Pr : Int32 → Gt → Prop) (G : Gt) (a0 : Nat) (x1 : Int32) (x2 : Int32) (x3 : Int32) (sx0 : Int32) (sx1 : Int32) : Prop := wX10_in X G sx0 sx1 x3 (fun r1 G2 => (r1 = 0 → gT G2 a0 = (1, 11) ∧ wX10_fails X G2 a0 2 (fun r23 G24 => Pr r23 G24)) ∧ (¬ (r1 = 0) → gT G2 a0 = (1, 11) ∧ wX10_sets X G2 a0 (1 + x1) x2 (fun r43 G44 => Pr r43 G44)))
set_option maxRecDepth 20000 in
theorem bX10_set_63 {X : Xt} {K : Kt} {l : Launch} {G0 : Gt} {Pr : Int32 → Gt → Prop} (B : BX X K l cX10_set 4 RX10 1 23 G0 (some (.int)) "set") {G : Gt} {a0 : Nat} {x1 : Int32} {x2 : Int32} {x3 : Int32} {sx0 : Int32} {sx1 : Int32} (h : wX10_set_63 X Pr G a0 x1 x2 x3 sx0 sx1) : WM X K (QM X K G0 (rI Pr) noX) G 63 [some (.ref a0), some (.int x1), some (.int x2), some (.int x3)] [.int sx1, .int sx0] := by
  obtain ⟨hL, C, E0, hr, hnm, hex, hfl⟩ := id B
  unfold wX10_set_63 at h
  refine r_iload_n C 3 dX10_set_63 rfl rfl ?_
  refine r_callS C hL yw_X10_in sw_RX10_39 rfl rfl (Nat.le_of_ble_eq_true rfl) ⟨(Nat.le_of_ble_eq_true rfl), (Nat.le_of_ble_eq_true rfl)⟩ (mX10_in hfl h) rfl dX10_set_64 (kI (fun r1 G2 h => ?_)) kN
  refine r_if_eq C 81 dX10_set_67 (by decide) (fun c => ?_) (fun c => ?_)
  · replace h := h.1 c
    refine r_aloadR_n C 0 dX10_set_81 rfl rfl ?_
    refine r_iconst C 2 dX10_set_82 (by decide) ?_
    obtain ⟨ht, h⟩ := h
    refine r_callV C (r := (RX10, TX10, 19)) hL yw_X10_fails vw_RX10_43 rfl rfl ht rfl rfl (Nat.le_of_ble_eq_true rfl) ⟨(Nat.le_of_ble_eq_true rfl), (Nat.le_of_ble_eq_true rfl)⟩ (mX10_fails hfl h) rfl dX10_set_83 (kI (fun r23 G24 h => ?_)) kN
    exact r_iret C E0 hr ⟨_, rfl, h⟩ dX10_set_86
  · replace h := h.2 c
    refine r_aloadR_n C 0 dX10_set_70 rfl rfl ?_
    refine r_iconst C 1 dX10_set_71 (by decide) ?_
    refine r_iload_n C 1 dX10_set_72 rfl rfl ?_
    refine r_iadd C dX10_set_73 ?_
    refine r_iload_n C 2 dX10_set_74 rfl rfl ?_
    obtain ⟨ht, h⟩ := h
    refine r_callV C (r := (RX10, TX10, 19)) hL yw_X10_sets vw_RX10_47 rfl rfl ht rfl rfl (Nat.le_of_ble_eq_true rfl) ⟨(Nat.le_of_ble_eq_true rfl), (Nat.le_of_ble_eq_true rfl)⟩ (mX10_sets hfl h) rfl dX10_set_75 (kI (fun r43 G44 h => ?_)) kN
    refine r_goto C 86 dX10_set_78 (by decide) ?_
    exact r_iret C E0 hr ⟨_, rfl, h⟩ dX10_set_86
def wX10_set_51 (X : Xt) (Pr : Int32 → Gt → Prop) (G : Gt) (a0 : Nat) (x1 : Int32) (x2 : Int32) (sx0 : Int32) : Prop := (¬ x1 = 1 → wX10_set_63 X Pr G a0 x1 x2 sx0 x2 (0 : Int32)) ∧ (x1 = 1 → wX10_set_63 X Pr G a0 x1 x2 sx0 x2 (1 : Int32))
set_option maxRecDepth 20000 in
theorem bX10_set_51 {X : Xt} {K : Kt} {l : Launch} {G0 : Gt} {Pr : Int32 → Gt → Prop} (B : BX X K l cX10_set 4 RX10 1 23 G0 (some (.int)) "set") {G : Gt} {a0 : Nat} {x1 : Int32} {x2 : Int32} {sx0 : Int32} (h : wX10_set_51 X Pr G a0 x1 x2 sx0) : WM X K (QM X K G0 (rI Pr) noX) G 51 [some (.ref a0), some (.int x1), some (.int x2), none] [.int sx0] := by
  obtain ⟨hL, C, E0, hr, hnm, hex, hfl⟩ := id B
  unfold wX10_set_51 at h
  refine r_istore_n C 3 (lv' := [some (.ref a0), some (.int x1), some (.int x2), some (.int sx0)]) dX10_set_51 rfl (Nat.le_of_ble_eq_true rfl) rfl rfl ?_
  refine r_iload_n C 2 dX10_set_52 rfl rfl ?_
  refine r_iload_n C 1 dX10_set_53 rfl rfl ?_
  refine r_iconst C 1 dX10_set_54 (by decide) ?_
  refine r_icmp_ne C 62 dX10_set_55 (by decide) (fun c => ?_) (fun c => ?_)
  · replace h := h.1 c
    refine r_iconst C 0 dX10_set_62 (by decide) ?_
    exact bX10_set_63 B h
  · replace h := h.2 c
    refine r_iconst C 1 dX10_set_58 (by decide) ?_
    refine r_goto C 63 dX10_set_59 (by decide) ?_
    exact bX10_set_63 B h
def wX10_set (X : Xt) (G : Gt) (a0 : Nat) (x1 : Int32) (x2 : Int32) (Pr : Int32 → Gt → Prop) : Prop := gT G a0 = (1, 11) ∧ ∀ G1, G1 = sI G 354 a0 0 → wX10_in X G1 x1 0 4 (fun r2 G3 => (¬ r2 = 0 → (¬ x1 = 0 → (¬ x1 = 2 → (¬ x1 = 4 → wX10_set_51 X Pr G3 a0 x1 x2 (1000 : Int32)) ∧ (x1 = 4 → wX10_set_51 X Pr G3 a0 x1 x2 (1 : Int32))) ∧ (x1 = 2 → wX10_set_51 X Pr G3 a0 x1 x2 (3 : Int32))) ∧ (x1 = 0 → wX10_set_51 X Pr G3 a0 x1 x2 (10000 : Int32))) ∧ (r2 = 0 → gT G3 a0 = (1, 11) ∧ wX10_fails X G3 a0 1 (fun r44 G45 => Pr r44 G45)))
set_option maxRecDepth 20000 in
theorem mX10_set {X : Xt} {l : Launch} (hfl : l.stackTraces = false) {G : Gt} {a0 : Nat} {x1 : Int32} {x2 : Int32} {Pr : Int32 → Gt → Prop} (h : wX10_set X G a0 x1 x2 Pr) : Mc X l yX10_set (.code yX10_set cX10_set 4 (some (.int))) 1 23 [.ref a0, .int x1, .int x2] G (rI Pr) noX := by
  refine Mc.of (by decide +kernel) hfl [some (.ref a0), some (.int x1), some (.int x2), none] rfl (Nat.le_of_ble_eq_true rfl) rfl ?_
  intro K hL C E0 hr hnm hex
  have B : BX X K l cX10_set 4 RX10 1 23 G (some (.int)) "set" := ⟨hL, C, E0, hr, hnm, hex, hfl⟩
  have C : Cx X K cX10_set 4 RX10 1 23 := C
  unfold wX10_set at h
  refine r_aloadR_n C 0 dX10_set_0 rfl rfl ?_
  refine r_iconst C 0 dX10_set_1 (by decide) ?_
  obtain ⟨ht, h⟩ := h
  refine r_putI C cw_11 fp_RX10_36 rfl ht dX10_set_2 ?_
  refine r_nm (fun G1 hG1 => ?_)
  replace h := h G1 hG1
  refine r_iload_n C 1 dX10_set_5 rfl rfl ?_
  refine r_iconst C 0 dX10_set_6 (by decide) ?_
  refine r_iconst C 4 dX10_set_7 (by decide) ?_
  refine r_callS C hL yw_X10_in sw_RX10_39 rfl rfl (Nat.le_of_ble_eq_true rfl) ⟨(Nat.le_of_ble_eq_true rfl), (Nat.le_of_ble_eq_true rfl)⟩ (mX10_in hfl h) rfl dX10_set_8 (kI (fun r2 G3 h => ?_)) kN
  refine r_if_ne C 20 dX10_set_11 (by decide) (fun c => ?_) (fun c => ?_)
  · replace h := h.1 c
    refine r_iload_n C 1 dX10_set_20 rfl rfl ?_
    refine r_if_ne C 30 dX10_set_21 (by decide) (fun c => ?_) (fun c => ?_)
    · replace h := h.1 c
      refine r_iload_n C 1 dX10_set_30 rfl rfl ?_
      refine r_iconst C 2 dX10_set_31 (by decide) ?_
      refine r_icmp_ne C 39 dX10_set_32 (by decide) (fun c => ?_) (fun c => ?_)
      · replace h := h.1 c
        refine r_iload_n C 1 dX10_set_39 rfl rfl ?_
        refine r_iconst C 4 dX10_set_40 (by decide) ?_
        refine r_icmp_ne C 48 dX10_set_41 (by decide) (fun c => ?_) (fun c => ?_)
        · replace h := h.1 c
          refine r_sipush C 1000 dX10_set_48 (by decide) ?_
          exact bX10_set_51 B h
        · replace h := h.2 c
          refine r_iconst C 1 dX10_set_44 (by decide) ?_
          refine r_goto C 51 dX10_set_45 (by decide) ?_
          exact bX10_set_51 B h
      · replace h := h.2 c
        refine r_iconst C 3 dX10_set_35 (by decide) ?_
        refine r_goto C 51 dX10_set_36 (by decide) ?_
        exact bX10_set_51 B h
    · replace h := h.2 c
      refine r_sipush C 10000 dX10_set_24 (by decide) ?_
      refine r_goto C 51 dX10_set_27 (by decide) ?_
      exact bX10_set_51 B h
  · replace h := h.2 c
    refine r_aloadR_n C 0 dX10_set_14 rfl rfl ?_
    refine r_iconst C 1 dX10_set_15 (by decide) ?_
    obtain ⟨ht, h⟩ := h
    refine r_callV C (r := (RX10, TX10, 19)) hL yw_X10_fails vw_RX10_43 rfl rfl ht rfl rfl (Nat.le_of_ble_eq_true rfl) ⟨(Nat.le_of_ble_eq_true rfl), (Nat.le_of_ble_eq_true rfl)⟩ (mX10_fails hfl h) rfl dX10_set_16 (kI (fun r44 G45 h => ?_)) kN
    exact r_iret C E0 hr ⟨_, rfl, h⟩ dX10_set_19
def wX10_setDevice_43 (X : Xt) (Pr : Int32 → Gt → Prop) (G : Gt) (a0 : Nat) (x1 : Int32) (x2 : Int32) (x3 : Int32) (sx0 : Int32) (sx1 : Int32) (sx2 : Int32) : Prop := wX10_in X G sx0 sx1 sx2 (fun r1 G2 => (r1 = 0 → gT G2 a0 = (1, 11) ∧ wX10_fails X G2 a0 2 (fun r23 G24 => Pr r23 G24)) ∧ (¬ (r1 = 0) → (¬ x2 = 0 → gT G2 a0 = (1, 11) ∧ wX10_sets X G2 a0 ((220 + x1) - 1) x3 (fun r63 G64 => Pr r63 G64)) ∧ (x2 = 0 → gT G2 a0 = (1, 11) ∧ wX10_sets X G2 a0 ((224 + x1) - 1) x3 (fun r83 G84 => Pr r83 G84))))
set_option maxRecDepth 20000 in
theorem bX10_setDevice_43 {X : Xt} {K : Kt} {l : Launch} {G0 : Gt} {Pr : Int32 → Gt → Prop} (B : BX X K l cX10_setDevice 4 RX10 1 23 G0 (some (.int)) "setDevice") {G : Gt} {a0 : Nat} {x1 : Int32} {x2 : Int32} {x3 : Int32} {sx0 : Int32} {sx1 : Int32} {sx2 : Int32} (h : wX10_setDevice_43 X Pr G a0 x1 x2 x3 sx0 sx1 sx2) : WM X K (QM X K G0 (rI Pr) noX) G 43 [some (.ref a0), some (.int x1), some (.int x2), some (.int x3)] [.int sx2, .int sx1, .int sx0] := by
  obtain ⟨hL, C, E0, hr, hnm, hex, hfl⟩ := id B
  unfold wX10_setDevice_43 at h
  refine r_callS C hL yw_X10_in sw_RX10_39 rfl rfl (Nat.le_of_ble_eq_true rfl) ⟨(Nat.le_of_ble_eq_true rfl), (Nat.le_of_ble_eq_true rfl)⟩ (mX10_in hfl h) rfl dX10_setDevice_43 (kI (fun r1 G2 h => ?_)) kN
  refine r_if_eq C 74 dX10_setDevice_46 (by decide) (fun c => ?_) (fun c => ?_)
  · replace h := h.1 c
    refine r_aloadR_n C 0 dX10_setDevice_74 rfl rfl ?_
    refine r_iconst C 2 dX10_setDevice_75 (by decide) ?_
    obtain ⟨ht, h⟩ := h
    refine r_callV C (r := (RX10, TX10, 19)) hL yw_X10_fails vw_RX10_43 rfl rfl ht rfl rfl (Nat.le_of_ble_eq_true rfl) ⟨(Nat.le_of_ble_eq_true rfl), (Nat.le_of_ble_eq_true rfl)⟩ (mX10_fails hfl h) rfl dX10_setDevice_76 (kI (fun r23 G24 h => ?_)) kN
    exact r_iret C E0 hr ⟨_, rfl, h⟩ dX10_setDevice_79
  · replace h := h.2 c
    refine r_aloadR_n C 0 dX10_setDevice_49 rfl rfl ?_
    refine r_iload_n C 2 dX10_setDevice_50 rfl rfl ?_
    refine r_if_ne C 60 dX10_setDevice_51 (by decide) (fun c => ?_) (fun c => ?_)
    · replace h := h.1 c
      refine r_sipush C 220 dX10_setDevice_60 (by decide) ?_
      refine r_iload_n C 1 dX10_setDevice_63 rfl rfl ?_
      refine r_iadd C dX10_setDevice_64 ?_
      refine r_iconst C 1 dX10_setDevice_65 (by decide) ?_
      refine r_isub C dX10_setDevice_66 ?_
      refine r_iload_n C 3 dX10_setDevice_67 rfl rfl ?_
      obtain ⟨ht, h⟩ := h
      refine r_callV C (r := (RX10, TX10, 19)) hL yw_X10_sets vw_RX10_47 rfl rfl ht rfl rfl (Nat.le_of_ble_eq_true rfl) ⟨(Nat.le_of_ble_eq_true rfl), (Nat.le_of_ble_eq_true rfl)⟩ (mX10_sets hfl h) rfl dX10_setDevice_68 (kI (fun r63 G64 h => ?_)) kN
      refine r_goto C 79 dX10_setDevice_71 (by decide) ?_
      exact r_iret C E0 hr ⟨_, rfl, h⟩ dX10_setDevice_79
    · replace h := h.2 c
      refine r_sipush C 224 dX10_setDevice_54 (by decide) ?_
      refine r_goto C 63 dX10_setDevice_57 (by decide) ?_
      refine r_iload_n C 1 dX10_setDevice_63 rfl rfl ?_
      refine r_iadd C dX10_setDevice_64 ?_
      refine r_iconst C 1 dX10_setDevice_65 (by decide) ?_
      refine r_isub C dX10_setDevice_66 ?_
      refine r_iload_n C 3 dX10_setDevice_67 rfl rfl ?_
      obtain ⟨ht, h⟩ := h
      refine r_callV C (r := (RX10, TX10, 19)) hL yw_X10_sets vw_RX10_47 rfl rfl ht rfl rfl (Nat.le_of_ble_eq_true rfl) ⟨(Nat.le_of_ble_eq_true rfl), (Nat.le_of_ble_eq_true rfl)⟩ (mX10_sets hfl h) rfl dX10_setDevice_68 (kI (fun r83 G84 h => ?_)) kN
      refine r_goto C 79 dX10_setDevice_71 (by decide) ?_
      exact r_iret C E0 hr ⟨_, rfl, h⟩ dX10_setDevice_79
def wX10_setDevice (X : Xt) (G : Gt) (a0 : Nat) (x1 : Int32) (x2 : Int32) (x3 : Int32) (Pr : Int32 → Gt → Prop) : Prop := gT G a0 = (1, 11) ∧ ∀ G1, G1 = sI G 354 a0 0 → wX10_in X G1 x1 1 3 (fun r2 G3 => (r2 = 0 → gT G3 a0 = (1, 11) ∧ wX10_fails X G3 a0 1 (fun r24 G25 => Pr r24 G25)) ∧ (¬ (r2 = 0) → wX10_in X G3 x2 0 1 (fun r44 G45 => (¬ r44 = 0 → (¬ x2 = 0 → wX10_setDevice_43 X Pr G45 a0 x1 x2 x3 x3 (0 : Int32) (65535 : Int32)) ∧ (x2 = 0 → wX10_setDevice_43 X Pr G45 a0 x1 x2 x3 x3 (0 : Int32) (1000 : Int32))) ∧ (r44 = 0 → gT G45 a0 = (1, 11) ∧ wX10_fails X G45 a0 1 (fun r86 G87 => Pr r86 G87)))))
set_option maxRecDepth 20000 in
theorem mX10_setDevice {X : Xt} {l : Launch} (hfl : l.stackTraces = false) {G : Gt} {a0 : Nat} {x1 : Int32} {x2 : Int32} {x3 : Int32} {Pr : Int32 → Gt → Prop} (h : wX10_setDevice X G a0 x1 x2 x3 Pr) : Mc X l yX10_setDevice (.code yX10_setDevice cX10_setDevice 4 (some (.int))) 1 23 [.ref a0, .int x1, .int x2, .int x3] G (rI Pr) noX := by
  refine Mc.of (by decide +kernel) hfl [some (.ref a0), some (.int x1), some (.int x2), some (.int x3)] rfl (Nat.le_of_ble_eq_true rfl) rfl ?_
  intro K hL C E0 hr hnm hex
  have B : BX X K l cX10_setDevice 4 RX10 1 23 G (some (.int)) "setDevice" := ⟨hL, C, E0, hr, hnm, hex, hfl⟩
  have C : Cx X K cX10_setDevice 4 RX10 1 23 := C
  unfold wX10_setDevice at h
  refine r_aloadR_n C 0 dX10_setDevice_0 rfl rfl ?_
  refine r_iconst C 0 dX10_setDevice_1 (by decide) ?_
  obtain ⟨ht, h⟩ := h
  refine r_putI C cw_11 fp_RX10_36 rfl ht dX10_setDevice_2 ?_
  refine r_nm (fun G1 hG1 => ?_)
  replace h := h G1 hG1
  refine r_iload_n C 1 dX10_setDevice_5 rfl rfl ?_
  refine r_iconst C 1 dX10_setDevice_6 (by decide) ?_
  refine r_iconst C 3 dX10_setDevice_7 (by decide) ?_
  refine r_callS C hL yw_X10_in sw_RX10_39 rfl rfl (Nat.le_of_ble_eq_true rfl) ⟨(Nat.le_of_ble_eq_true rfl), (Nat.le_of_ble_eq_true rfl)⟩ (mX10_in hfl h) rfl dX10_setDevice_8 (kI (fun r2 G3 h => ?_)) kN
  refine r_if_eq C 23 dX10_setDevice_11 (by decide) (fun c => ?_) (fun c => ?_)
  · replace h := h.1 c
    refine r_aloadR_n C 0 dX10_setDevice_23 rfl rfl ?_
    refine r_iconst C 1 dX10_setDevice_24 (by decide) ?_
    obtain ⟨ht, h⟩ := h
    refine r_callV C (r := (RX10, TX10, 19)) hL yw_X10_fails vw_RX10_43 rfl rfl ht rfl rfl (Nat.le_of_ble_eq_true rfl) ⟨(Nat.le_of_ble_eq_true rfl), (Nat.le_of_ble_eq_true rfl)⟩ (mX10_fails hfl h) rfl dX10_setDevice_25 (kI (fun r24 G25 h => ?_)) kN
    exact r_iret C E0 hr ⟨_, rfl, h⟩ dX10_setDevice_28
  · replace h := h.2 c
    refine r_iload_n C 2 dX10_setDevice_14 rfl rfl ?_
    refine r_iconst C 0 dX10_setDevice_15 (by decide) ?_
    refine r_iconst C 1 dX10_setDevice_16 (by decide) ?_
    refine r_callS C hL yw_X10_in sw_RX10_39 rfl rfl (Nat.le_of_ble_eq_true rfl) ⟨(Nat.le_of_ble_eq_true rfl), (Nat.le_of_ble_eq_true rfl)⟩ (mX10_in hfl h) rfl dX10_setDevice_17 (kI (fun r44 G45 h => ?_)) kN
    refine r_if_ne C 29 dX10_setDevice_20 (by decide) (fun c => ?_) (fun c => ?_)
    · replace h := h.1 c
      refine r_iload_n C 3 dX10_setDevice_29 rfl rfl ?_
      refine r_iconst C 0 dX10_setDevice_30 (by decide) ?_
      refine r_iload_n C 2 dX10_setDevice_31 rfl rfl ?_
      refine r_if_ne C 41 dX10_setDevice_32 (by decide) (fun c => ?_) (fun c => ?_)
      · replace h := h.1 c
        refine r_ldc C kc_RX10_25 dX10_setDevice_41 ?_
        exact bX10_setDevice_43 B h
      · replace h := h.2 c
        refine r_sipush C 1000 dX10_setDevice_35 (by decide) ?_
        refine r_goto C 43 dX10_setDevice_38 (by decide) ?_
        exact bX10_setDevice_43 B h
    · replace h := h.2 c
      refine r_aloadR_n C 0 dX10_setDevice_23 rfl rfl ?_
      refine r_iconst C 1 dX10_setDevice_24 (by decide) ?_
      obtain ⟨ht, h⟩ := h
      refine r_callV C (r := (RX10, TX10, 19)) hL yw_X10_fails vw_RX10_43 rfl rfl ht rfl rfl (Nat.le_of_ble_eq_true rfl) ⟨(Nat.le_of_ble_eq_true rfl), (Nat.le_of_ble_eq_true rfl)⟩ (mX10_fails hfl h) rfl dX10_setDevice_25 (kI (fun r86 G87 h => ?_)) kN
      exact r_iret C E0 hr ⟨_, rfl, h⟩ dX10_setDevice_28
def wX10_poke (X : Xt) (G : Gt) (a0 : Nat) (x1 : Int32) (x2 : Int32) (x3 : Int32) (Pr : Int32 → Gt → Prop) : Prop := gT G a0 = (1, 11) ∧ ∀ G1, G1 = sI G 354 a0 0 → wX10_isRegister X G1 x1 x2 (fun r2 G3 => (¬ r2 = 0 → wX10_in X G3 x3 0 65535 (fun r24 G25 => (r24 = 0 → gT G25 a0 = (1, 11) ∧ wX10_fails X G25 a0 2 (fun r46 G47 => Pr r46 G47)) ∧ (¬ (r24 = 0) → wX10_registerAt X G25 x1 x2 (fun r66 G67 => gT G67 a0 = (1, 11) ∧ wX10_sets X G67 a0 (20 + r66) x3 (fun r68 G69 => Pr r68 G69))))) ∧ (r2 = 0 → gT G3 a0 = (1, 11) ∧ wX10_fails X G3 a0 1 (fun r44 G45 => Pr r44 G45)))
set_option maxRecDepth 20000 in
theorem mX10_poke {X : Xt} {l : Launch} (hfl : l.stackTraces = false) {G : Gt} {a0 : Nat} {x1 : Int32} {x2 : Int32} {x3 : Int32} {Pr : Int32 → Gt → Prop} (h : wX10_poke X G a0 x1 x2 x3 Pr) : Mc X l yX10_poke (.code yX10_poke cX10_poke 4 (some (.int))) 2 43 [.ref a0, .int x1, .int x2, .int x3] G (rI Pr) noX := by
  refine Mc.of (by decide +kernel) hfl [some (.ref a0), some (.int x1), some (.int x2), some (.int x3)] rfl (Nat.le_of_ble_eq_true rfl) rfl ?_
  intro K hL C E0 hr hnm hex
  have B : BX X K l cX10_poke 4 RX10 2 43 G (some (.int)) "poke" := ⟨hL, C, E0, hr, hnm, hex, hfl⟩
  have C : Cx X K cX10_poke 4 RX10 2 43 := C
  unfold wX10_poke at h
  refine r_aloadR_n C 0 dX10_poke_0 rfl rfl ?_
  refine r_iconst C 0 dX10_poke_1 (by decide) ?_
  obtain ⟨ht, h⟩ := h
  refine r_putI C cw_11 fp_RX10_36 rfl ht dX10_poke_2 ?_
  refine r_nm (fun G1 hG1 => ?_)
  replace h := h G1 hG1
  refine r_iload_n C 1 dX10_poke_5 rfl rfl ?_
  refine r_iload_n C 2 dX10_poke_6 rfl rfl ?_
  refine r_callS C hL yw_X10_isRegister sw_RX10_51 rfl rfl (Nat.le_of_ble_eq_true rfl) ⟨(Nat.le_of_ble_eq_true rfl), (Nat.le_of_ble_eq_true rfl)⟩ (mX10_isRegister hfl h) rfl dX10_poke_7 (kI (fun r2 G3 h => ?_)) kN
  refine r_if_ne C 19 dX10_poke_10 (by decide) (fun c => ?_) (fun c => ?_)
  · replace h := h.1 c
    refine r_iload_n C 3 dX10_poke_19 rfl rfl ?_
    refine r_iconst C 0 dX10_poke_20 (by decide) ?_
    refine r_ldc C kc_RX10_25 dX10_poke_21 ?_
    refine r_callS C hL yw_X10_in sw_RX10_39 rfl rfl (Nat.le_of_ble_eq_true rfl) ⟨(Nat.le_of_ble_eq_true rfl), (Nat.le_of_ble_eq_true rfl)⟩ (mX10_in hfl h) rfl dX10_poke_23 (kI (fun r24 G25 h => ?_)) kN
    refine r_if_eq C 45 dX10_poke_26 (by decide) (fun c => ?_) (fun c => ?_)
    · replace h := h.1 c
      refine r_aloadR_n C 0 dX10_poke_45 rfl rfl ?_
      refine r_iconst C 2 dX10_poke_46 (by decide) ?_
      obtain ⟨ht, h⟩ := h
      refine r_callV C (r := (RX10, TX10, 19)) hL yw_X10_fails vw_RX10_43 rfl rfl ht rfl rfl (Nat.le_of_ble_eq_true rfl) ⟨(Nat.le_of_ble_eq_true rfl), (Nat.le_of_ble_eq_true rfl)⟩ (mX10_fails hfl h) rfl dX10_poke_47 (kI (fun r46 G47 h => ?_)) kN
      exact r_iret C E0 hr ⟨_, rfl, h⟩ dX10_poke_50
    · replace h := h.2 c
      refine r_aloadR_n C 0 dX10_poke_29 rfl rfl ?_
      refine r_bipush C 20 dX10_poke_30 (by decide) ?_
      refine r_iload_n C 1 dX10_poke_32 rfl rfl ?_
      refine r_iload_n C 2 dX10_poke_33 rfl rfl ?_
      refine r_callS C hL yw_X10_registerAt sw_RX10_55 rfl rfl (Nat.le_of_ble_eq_true rfl) ⟨(Nat.le_of_ble_eq_true rfl), (Nat.le_of_ble_eq_true rfl)⟩ (mX10_registerAt hfl h) rfl dX10_poke_34 (kI (fun r66 G67 h => ?_)) kN
      refine r_iadd C dX10_poke_37 ?_
      refine r_iload_n C 3 dX10_poke_38 rfl rfl ?_
      obtain ⟨ht, h⟩ := h
      refine r_callV C (r := (RX10, TX10, 19)) hL yw_X10_sets vw_RX10_47 rfl rfl ht rfl rfl (Nat.le_of_ble_eq_true rfl) ⟨(Nat.le_of_ble_eq_true rfl), (Nat.le_of_ble_eq_true rfl)⟩ (mX10_sets hfl h) rfl dX10_poke_39 (kI (fun r68 G69 h => ?_)) kN
      refine r_goto C 50 dX10_poke_42 (by decide) ?_
      exact r_iret C E0 hr ⟨_, rfl, h⟩ dX10_poke_50
  · replace h := h.2 c
    refine r_aloadR_n C 0 dX10_poke_13 rfl rfl ?_
    refine r_iconst C 1 dX10_poke_14 (by decide) ?_
    obtain ⟨ht, h⟩ := h
    refine r_callV C (r := (RX10, TX10, 19)) hL yw_X10_fails vw_RX10_43 rfl rfl ht rfl rfl (Nat.le_of_ble_eq_true rfl) ⟨(Nat.le_of_ble_eq_true rfl), (Nat.le_of_ble_eq_true rfl)⟩ (mX10_fails hfl h) rfl dX10_poke_15 (kI (fun r44 G45 h => ?_)) kN
    exact r_iret C E0 hr ⟨_, rfl, h⟩ dX10_poke_18
def wX10_peek (X : Xt) (G : Gt) (a0 : Nat) (x1 : Int32) (x2 : Int32) (Pr : Int32 → Gt → Prop) : Prop := gT G a0 = (1, 11) ∧ ∀ G1, G1 = sI G 354 a0 0 → wX10_isRegister X G1 x1 x2 (fun r2 G3 => (r2 = 0 → gT G3 a0 = (1, 11) ∧ wX10_fails X G3 a0 1 (fun r24 G25 => Pr r24 G25)) ∧ (¬ (r2 = 0) → gT G3 a0 = (1, 11) ∧ ∃ b44, gR G3 352 a0 = some b44 ∧ wX10_registerAt X G3 x1 x2 (fun r45 G46 => (gT G46 b44).1 = 2 ∧ vp_in (20 + r45) (gT G46 b44).2 ∧ Pr (gA G46 b44 (20 + r45).toNatClampNeg) G46)))
set_option maxRecDepth 20000 in
theorem mX10_peek {X : Xt} {l : Launch} (hfl : l.stackTraces = false) {G : Gt} {a0 : Nat} {x1 : Int32} {x2 : Int32} {Pr : Int32 → Gt → Prop} (h : wX10_peek X G a0 x1 x2 Pr) : Mc X l yX10_peek (.code yX10_peek cX10_peek 3 (some (.int))) 2 43 [.ref a0, .int x1, .int x2] G (rI Pr) noX := by
  refine Mc.of (by decide +kernel) hfl [some (.ref a0), some (.int x1), some (.int x2)] rfl (Nat.le_of_ble_eq_true rfl) rfl ?_
  intro K hL C E0 hr hnm hex
  have B : BX X K l cX10_peek 3 RX10 2 43 G (some (.int)) "peek" := ⟨hL, C, E0, hr, hnm, hex, hfl⟩
  have C : Cx X K cX10_peek 3 RX10 2 43 := C
  unfold wX10_peek at h
  refine r_aloadR_n C 0 dX10_peek_0 rfl rfl ?_
  refine r_iconst C 0 dX10_peek_1 (by decide) ?_
  obtain ⟨ht, h⟩ := h
  refine r_putI C cw_11 fp_RX10_36 rfl ht dX10_peek_2 ?_
  refine r_nm (fun G1 hG1 => ?_)
  replace h := h G1 hG1
  refine r_iload_n C 1 dX10_peek_5 rfl rfl ?_
  refine r_iload_n C 2 dX10_peek_6 rfl rfl ?_
  refine r_callS C hL yw_X10_isRegister sw_RX10_51 rfl rfl (Nat.le_of_ble_eq_true rfl) ⟨(Nat.le_of_ble_eq_true rfl), (Nat.le_of_ble_eq_true rfl)⟩ (mX10_isRegister hfl h) rfl dX10_peek_7 (kI (fun r2 G3 h => ?_)) kN
  refine r_if_eq C 29 dX10_peek_10 (by decide) (fun c => ?_) (fun c => ?_)
  · replace h := h.1 c
    refine r_aloadR_n C 0 dX10_peek_29 rfl rfl ?_
    refine r_iconst C 1 dX10_peek_30 (by decide) ?_
    obtain ⟨ht, h⟩ := h
    refine r_callV C (r := (RX10, TX10, 19)) hL yw_X10_fails vw_RX10_43 rfl rfl ht rfl rfl (Nat.le_of_ble_eq_true rfl) ⟨(Nat.le_of_ble_eq_true rfl), (Nat.le_of_ble_eq_true rfl)⟩ (mX10_fails hfl h) rfl dX10_peek_31 (kI (fun r24 G25 h => ?_)) kN
    exact r_iret C E0 hr ⟨_, rfl, h⟩ dX10_peek_34
  · replace h := h.2 c
    refine r_aloadR_n C 0 dX10_peek_13 rfl rfl ?_
    obtain ⟨ht, h⟩ := h
    obtain ⟨b44, hb, h⟩ := h
    refine r_getR C fw_RX10_7 rfl ht hb dX10_peek_14 ?_
    refine r_bipush C 20 dX10_peek_17 (by decide) ?_
    refine r_iload_n C 1 dX10_peek_19 rfl rfl ?_
    refine r_iload_n C 2 dX10_peek_20 rfl rfl ?_
    refine r_callS C hL yw_X10_registerAt sw_RX10_55 rfl rfl (Nat.le_of_ble_eq_true rfl) ⟨(Nat.le_of_ble_eq_true rfl), (Nat.le_of_ble_eq_true rfl)⟩ (mX10_registerAt hfl h) rfl dX10_peek_21 (kI (fun r45 G46 h => ?_)) kN
    refine r_iadd C dX10_peek_24 ?_
    obtain ⟨ht, hi, h⟩ := h
    refine r_ialdP C ht hi dX10_peek_25 ?_
    refine r_goto C 34 dX10_peek_26 (by decide) ?_
    exact r_iret C E0 hr ⟨_, rfl, h⟩ dX10_peek_34
def wX10_protect_42 (X : Xt) (Pr : Int32 → Gt → Prop) (G : Gt) (sa0 : Nat) (sx1 : Int32) (sx2 : Int32) : Prop := gT G sa0 = (1, 11) ∧ wX10_sets X G sa0 sx1 sx2 (fun r1 G2 => (¬ r1 = 1 → Pr 0 G2) ∧ (r1 = 1 → Pr 1 G2))
set_option maxRecDepth 20000 in
theorem bX10_protect_42 {X : Xt} {K : Kt} {l : Launch} {G0 : Gt} {Pr : Int32 → Gt → Prop} (B : BX X K l cX10_protect 4 RX10 2 43 G0 (some (.boolean)) "protect") {G : Gt} {sa0 : Nat} {sx1 : Int32} {sx2 : Int32} (h : wX10_protect_42 X Pr G sa0 sx1 sx2) : WM X K (QM X K G0 (rI Pr) noX) G 42 [none, none, none, none] [.int sx2, .int sx1, .ref sa0] := by
  obtain ⟨hL, C, E0, hr, hnm, hex, hfl⟩ := id B
  unfold wX10_protect_42 at h
  obtain ⟨ht, h⟩ := h
  refine r_callV C (r := (RX10, TX10, 19)) hL yw_X10_sets vw_RX10_47 rfl rfl ht rfl rfl (Nat.le_of_ble_eq_true rfl) ⟨(Nat.le_of_ble_eq_true rfl), (Nat.le_of_ble_eq_true rfl)⟩ (mX10_sets hfl h) rfl dX10_protect_42 (kI (fun r1 G2 h => ?_)) kN
  refine r_iconst C 1 dX10_protect_45 (by decide) ?_
  refine r_icmp_ne C 53 dX10_protect_46 (by decide) (fun c => ?_) (fun c => ?_)
  · replace h := h.1 c
    refine r_iconst C 0 dX10_protect_53 (by decide) ?_
    exact r_zret C E0 hr (Or.inl rfl) ⟨_, rfl, h⟩ dX10_protect_54
  · replace h := h.2 c
    refine r_iconst C 1 dX10_protect_49 (by decide) ?_
    refine r_goto C 54 dX10_protect_50 (by decide) ?_
    exact r_zret C E0 hr (Or.inr rfl) ⟨_, rfl, h⟩ dX10_protect_54
def wX10_protect_14 (X : Xt) (Pr : Int32 → Gt → Prop) (G : Gt) (a0 : Nat) (x1 : Int32) (x2 : Int32) (x3 : Int32) (sa0 : Nat) (sx1 : Int32) : Prop := gT G sa0 = (1, 11) ∧ ∀ G1, G1 = sI G 354 sa0 sx1 → gT G1 a0 = (1, 11) ∧ (¬ (gI G1 354 a0) = 0 → Pr 0 G1) ∧ ((gI G1 354 a0) = 0 → wX10_registerAt X G1 x1 x2 (fun r42 G43 => (x3 = 0 → wX10_protect_42 X Pr G43 a0 (120 + r42) (0 : Int32)) ∧ (¬ (x3 = 0) → wX10_protect_42 X Pr G43 a0 (120 + r42) (1 : Int32))))
set_option maxRecDepth 20000 in
theorem bX10_protect_14 {X : Xt} {K : Kt} {l : Launch} {G0 : Gt} {Pr : Int32 → Gt → Prop} (B : BX X K l cX10_protect 4 RX10 2 43 G0 (some (.boolean)) "protect") {G : Gt} {a0 : Nat} {x1 : Int32} {x2 : Int32} {x3 : Int32} {sa0 : Nat} {sx1 : Int32} (h : wX10_protect_14 X Pr G a0 x1 x2 x3 sa0 sx1) : WM X K (QM X K G0 (rI Pr) noX) G 14 [some (.ref a0), some (.int x1), some (.int x2), some (.int x3)] [.int sx1, .ref sa0] := by
  obtain ⟨hL, C, E0, hr, hnm, hex, hfl⟩ := id B
  unfold wX10_protect_14 at h
  obtain ⟨ht, h⟩ := h
  refine r_putI C cw_11 fp_RX10_36 rfl ht dX10_protect_14 ?_
  refine r_nm (fun G1 hG1 => ?_)
  replace h := h G1 hG1
  refine r_aloadR_n C 0 dX10_protect_17 rfl rfl ?_
  obtain ⟨ht, h⟩ := h
  refine r_getI C fw_RX10_36 rfl ht dX10_protect_18 ?_
  refine r_if_ne C 53 dX10_protect_21 (by decide) (fun c => ?_) (fun c => ?_)
  · replace h := h.1 c
    refine r_iconst C 0 dX10_protect_53 (by decide) ?_
    exact r_zret C E0 hr (Or.inl rfl) ⟨_, rfl, h⟩ dX10_protect_54
  · replace h := h.2 c
    refine r_aloadR_n C 0 dX10_protect_24 rfl rfl ?_
    refine r_bipush C 120 dX10_protect_25 (by decide) ?_
    refine r_iload_n C 1 dX10_protect_27 rfl rfl ?_
    refine r_iload_n C 2 dX10_protect_28 rfl rfl ?_
    refine r_callS C hL yw_X10_registerAt sw_RX10_55 rfl rfl (Nat.le_of_ble_eq_true rfl) ⟨(Nat.le_of_ble_eq_true rfl), (Nat.le_of_ble_eq_true rfl)⟩ (mX10_registerAt hfl h) rfl dX10_protect_29 (kI (fun r42 G43 h => ?_)) kN
    refine r_iadd C dX10_protect_32 ?_
    refine r_iload_n C 3 dX10_protect_33 rfl rfl ?_
    refine r_if_eq C 41 dX10_protect_34 (by decide) (fun c => ?_) (fun c => ?_)
    · replace h := h.1 c
      refine r_iconst C 0 dX10_protect_41 (by decide) ?_
      refine r_fg (lv' := [none, none, none, none]) (show fgt _ _ from trivial) ?_
      exact bX10_protect_42 B h
    · replace h := h.2 c
      refine r_iconst C 1 dX10_protect_37 (by decide) ?_
      refine r_goto C 42 dX10_protect_38 (by decide) ?_
      refine r_fg (lv' := [none, none, none, none]) (show fgt _ _ from trivial) ?_
      exact bX10_protect_42 B h
def wX10_protect (X : Xt) (G : Gt) (a0 : Nat) (x1 : Int32) (x2 : Int32) (x3 : Int32) (Pr : Int32 → Gt → Prop) : Prop := wX10_isRegister X G x1 x2 (fun r1 G2 => (r1 = 0 → wX10_protect_14 X Pr G2 a0 x1 x2 x3 a0 (1 : Int32)) ∧ (¬ (r1 = 0) → wX10_protect_14 X Pr G2 a0 x1 x2 x3 a0 (0 : Int32)))
set_option maxRecDepth 20000 in
theorem mX10_protect {X : Xt} {l : Launch} (hfl : l.stackTraces = false) {G : Gt} {a0 : Nat} {x1 : Int32} {x2 : Int32} {x3 : Int32} {Pr : Int32 → Gt → Prop} (h : wX10_protect X G a0 x1 x2 x3 Pr) : Mc X l yX10_protect (.code yX10_protect cX10_protect 4 (some (.boolean))) 2 43 [.ref a0, .int x1, .int x2, .int x3] G (rI Pr) noX := by
  refine Mc.of (by decide +kernel) hfl [some (.ref a0), some (.int x1), some (.int x2), some (.int x3)] rfl (Nat.le_of_ble_eq_true rfl) rfl ?_
  intro K hL C E0 hr hnm hex
  have B : BX X K l cX10_protect 4 RX10 2 43 G (some (.boolean)) "protect" := ⟨hL, C, E0, hr, hnm, hex, hfl⟩
  have C : Cx X K cX10_protect 4 RX10 2 43 := C
  unfold wX10_protect at h
  refine r_aloadR_n C 0 dX10_protect_0 rfl rfl ?_
  refine r_iload_n C 1 dX10_protect_1 rfl rfl ?_
  refine r_iload_n C 2 dX10_protect_2 rfl rfl ?_
  refine r_callS C hL yw_X10_isRegister sw_RX10_51 rfl rfl (Nat.le_of_ble_eq_true rfl) ⟨(Nat.le_of_ble_eq_true rfl), (Nat.le_of_ble_eq_true rfl)⟩ (mX10_isRegister hfl h) rfl dX10_protect_3 (kI (fun r1 G2 h => ?_)) kN
  refine r_if_eq C 13 dX10_protect_6 (by decide) (fun c => ?_) (fun c => ?_)
  · replace h := h.1 c
    refine r_iconst C 1 dX10_protect_13 (by decide) ?_
    exact bX10_protect_14 B h
  · replace h := h.2 c
    refine r_iconst C 0 dX10_protect_9 (by decide) ?_
    refine r_goto C 14 dX10_protect_10 (by decide) ?_
    exact bX10_protect_14 B h
def wX10_faults (X : Xt) (G : Gt) (x0 : Int32) (Pr : Int32 → Gt → Prop) : Prop := Pr (230 + (13 * (x0 - 1))) G
set_option maxRecDepth 20000 in
theorem mX10_faults {X : Xt} {l : Launch} (hfl : l.stackTraces = false) {G : Gt} {x0 : Int32} {Pr : Int32 → Gt → Prop} (h : wX10_faults X G x0 Pr) : Mc X l yX10_faults (.code yX10_faults cX10_faults 1 (some (.int))) 0 0 [.int x0] G (rI Pr) noX := by
  refine Mc.of (by decide +kernel) hfl [some (.int x0)] rfl (Nat.le_of_ble_eq_true rfl) rfl ?_
  intro K hL C E0 hr hnm hex
  have B : BX X K l cX10_faults 1 RX10 0 0 G (some (.int)) "faults" := ⟨hL, C, E0, hr, hnm, hex, hfl⟩
  have C : Cx X K cX10_faults 1 RX10 0 0 := C
  unfold wX10_faults at h
  refine r_sipush C 230 dX10_faults_0 (by decide) ?_
  refine r_bipush C 13 dX10_faults_3 (by decide) ?_
  refine r_iload_n C 0 dX10_faults_5 rfl rfl ?_
  refine r_iconst C 1 dX10_faults_6 (by decide) ?_
  refine r_isub C dX10_faults_7 ?_
  refine r_imul C dX10_faults_8 ?_
  refine r_iadd C dX10_faults_9 ?_
  exact r_iret C E0 hr ⟨_, rfl, h⟩ dX10_faults_10
def wX10_fault (X : Xt) (G : Gt) (a0 : Nat) (x1 : Int32) (x2 : Int32) (x3 : Int32) (Pr : Int32 → Gt → Prop) : Prop := gT G a0 = (1, 11) ∧ ∀ G1, G1 = sI G 354 a0 0 → wX10_in X G1 x1 1 3 (fun r2 G3 => (¬ r2 = 0 → wX10_in X G3 x2 1 4 (fun r24 G25 => (r24 = 0 → gT G25 a0 = (1, 11) ∧ wX10_fails X G25 a0 2 (fun r46 G47 => Pr r46 G47)) ∧ (¬ (r24 = 0) → wX10_in X G25 x3 0 2000 (fun r66 G67 => (¬ r66 = 0 → wX10_faults X G67 x1 (fun r88 G89 => gT G89 a0 = (1, 11) ∧ ∃ b90, gR G89 352 a0 = some b90 ∧ (gT G89 b90).1 = 2 ∧ vp_in r88 (gT G89 b90).2 ∧ (¬ (gA G89 b90 r88.toNatClampNeg) = 6 → gT G89 a0 = (1, 11) ∧ ∃ b111, gR G89 352 a0 = some b111 ∧ gT G89 a0 = (1, 11) ∧ ∃ b112, gR G89 352 a0 = some b112 ∧ (gT G89 b112).1 = 2 ∧ vp_in r88 (gT G89 b112).2 ∧ (gT G89 b111).1 = 2 ∧ vp_in ((r88 + 1) + (2 * (gA G89 b112 r88.toNatClampNeg))) (gT G89 b111).2 ∧ ∀ G113, G113 = sA G89 b111 (upd (gA G89 b111) ((r88 + 1) + (2 * (gA G89 b112 r88.toNatClampNeg))).toNatClampNeg x2) → gT G113 a0 = (1, 11) ∧ ∃ b114, gR G113 352 a0 = some b114 ∧ gT G113 a0 = (1, 11) ∧ ∃ b115, gR G113 352 a0 = some b115 ∧ (gT G113 b115).1 = 2 ∧ vp_in r88 (gT G113 b115).2 ∧ (gT G113 b114).1 = 2 ∧ vp_in ((r88 + 2) + (2 * (gA G113 b115 r88.toNatClampNeg))) (gT G113 b114).2 ∧ ∀ G116, G116 = sA G113 b114 (upd (gA G113 b114) ((r88 + 2) + (2 * (gA G113 b115 r88.toNatClampNeg))).toNatClampNeg x3) → gT G116 a0 = (1, 11) ∧ ∃ b117, gR G116 352 a0 = some b117 ∧ (gT G116 b117).1 = 2 ∧ vp_in r88 (gT G116 b117).2 ∧ (gT G116 b117).1 = 2 ∧ vp_in r88 (gT G116 b117).2 ∧ ∀ G118, G118 = sA G116 b117 (upd (gA G116 b117) r88.toNatClampNeg ((gA G116 b117 r88.toNatClampNeg) + 1)) → gT G118 a0 = (1, 11) ∧ ∃ b119, gR G118 352 a0 = some b119 ∧ (gT G118 b119).1 = 2 ∧ vp_in r88 (gT G118 b119).2 ∧ Pr (gA G118 b119 r88.toNatClampNeg) G118) ∧ ((gA G89 b90 r88.toNatClampNeg) = 6 → gT G89 a0 = (1, 11) ∧ wX10_fails X G89 a0 3 (fun r131 G132 => Pr r131 G132)))) ∧ (r66 = 0 → gT G67 a0 = (1, 11) ∧ wX10_fails X G67 a0 2 (fun r108 G109 => Pr r108 G109)))))) ∧ (r2 = 0 → gT G3 a0 = (1, 11) ∧ wX10_fails X G3 a0 1 (fun r44 G45 => Pr r44 G45)))
set_option maxRecDepth 20000 in
theorem mX10_fault {X : Xt} {l : Launch} (hfl : l.stackTraces = false) {G : Gt} {a0 : Nat} {x1 : Int32} {x2 : Int32} {x3 : Int32} {Pr : Int32 → Gt → Prop} (h : wX10_fault X G a0 x1 x2 x3 Pr) : Mc X l yX10_fault (.code yX10_fault cX10_fault 5 (some (.int))) 1 22 [.ref a0, .int x1, .int x2, .int x3] G (rI Pr) noX := by
  refine Mc.of (by decide +kernel) hfl [some (.ref a0), some (.int x1), some (.int x2), some (.int x3), none] rfl (Nat.le_of_ble_eq_true rfl) rfl ?_
  intro K hL C E0 hr hnm hex
  have B : BX X K l cX10_fault 5 RX10 1 22 G (some (.int)) "fault" := ⟨hL, C, E0, hr, hnm, hex, hfl⟩
  have C : Cx X K cX10_fault 5 RX10 1 22 := C
  unfold wX10_fault at h
  refine r_aloadR_n C 0 dX10_fault_0 rfl rfl ?_
  refine r_iconst C 0 dX10_fault_1 (by decide) ?_
  obtain ⟨ht, h⟩ := h
  refine r_putI C cw_11 fp_RX10_36 rfl ht dX10_fault_2 ?_
  refine r_nm (fun G1 hG1 => ?_)
  replace h := h G1 hG1
  refine r_iload_n C 1 dX10_fault_5 rfl rfl ?_
  refine r_iconst C 1 dX10_fault_6 (by decide) ?_
  refine r_iconst C 3 dX10_fault_7 (by decide) ?_
  refine r_callS C hL yw_X10_in sw_RX10_39 rfl rfl (Nat.le_of_ble_eq_true rfl) ⟨(Nat.le_of_ble_eq_true rfl), (Nat.le_of_ble_eq_true rfl)⟩ (mX10_in hfl h) rfl dX10_fault_8 (kI (fun r2 G3 h => ?_)) kN
  refine r_if_ne C 20 dX10_fault_11 (by decide) (fun c => ?_) (fun c => ?_)
  · replace h := h.1 c
    refine r_iload_n C 2 dX10_fault_20 rfl rfl ?_
    refine r_iconst C 1 dX10_fault_21 (by decide) ?_
    refine r_iconst C 4 dX10_fault_22 (by decide) ?_
    refine r_callS C hL yw_X10_in sw_RX10_39 rfl rfl (Nat.le_of_ble_eq_true rfl) ⟨(Nat.le_of_ble_eq_true rfl), (Nat.le_of_ble_eq_true rfl)⟩ (mX10_in hfl h) rfl dX10_fault_23 (kI (fun r24 G25 h => ?_)) kN
    refine r_if_eq C 40 dX10_fault_26 (by decide) (fun c => ?_) (fun c => ?_)
    · replace h := h.1 c
      refine r_aloadR_n C 0 dX10_fault_40 rfl rfl ?_
      refine r_iconst C 2 dX10_fault_41 (by decide) ?_
      obtain ⟨ht, h⟩ := h
      refine r_callV C (r := (RX10, TX10, 19)) hL yw_X10_fails vw_RX10_43 rfl rfl ht rfl rfl (Nat.le_of_ble_eq_true rfl) ⟨(Nat.le_of_ble_eq_true rfl), (Nat.le_of_ble_eq_true rfl)⟩ (mX10_fails hfl h) rfl dX10_fault_42 (kI (fun r46 G47 h => ?_)) kN
      exact r_iret C E0 hr ⟨_, rfl, h⟩ dX10_fault_45
    · replace h := h.2 c
      refine r_iload_n C 3 dX10_fault_29 rfl rfl ?_
      refine r_iconst C 0 dX10_fault_30 (by decide) ?_
      refine r_sipush C 2000 dX10_fault_31 (by decide) ?_
      refine r_callS C hL yw_X10_in sw_RX10_39 rfl rfl (Nat.le_of_ble_eq_true rfl) ⟨(Nat.le_of_ble_eq_true rfl), (Nat.le_of_ble_eq_true rfl)⟩ (mX10_in hfl h) rfl dX10_fault_34 (kI (fun r66 G67 h => ?_)) kN
      refine r_if_ne C 46 dX10_fault_37 (by decide) (fun c => ?_) (fun c => ?_)
      · replace h := h.1 c
        refine r_iload_n C 1 dX10_fault_46 rfl rfl ?_
        refine r_callS C hL yw_X10_faults sw_RX10_58 rfl rfl (Nat.le_of_ble_eq_true rfl) ⟨(Nat.le_of_ble_eq_true rfl), (Nat.le_of_ble_eq_true rfl)⟩ (mX10_faults hfl h) rfl dX10_fault_47 (kI (fun r88 G89 h => ?_)) kN
        refine r_istore C (lv' := [some (.ref a0), some (.int x1), some (.int x2), some (.int x3), some (.int r88)]) dX10_fault_50 (Nat.le_of_ble_eq_true rfl) rfl rfl ?_
        refine r_aloadR_n C 0 dX10_fault_52 rfl rfl ?_
        obtain ⟨ht, h⟩ := h
        obtain ⟨b90, hb, h⟩ := h
        refine r_getR C fw_RX10_7 rfl ht hb dX10_fault_53 ?_
        refine r_iload C dX10_fault_56 rfl ?_
        obtain ⟨ht, hi, h⟩ := h
        refine r_ialdP C ht hi dX10_fault_58 ?_
        refine r_bipush C 6 dX10_fault_59 (by decide) ?_
        refine r_icmp_ne C 70 dX10_fault_61 (by decide) (fun c => ?_) (fun c => ?_)
        · replace h := h.1 c
          refine r_aloadR_n C 0 dX10_fault_70 rfl rfl ?_
          obtain ⟨ht, h⟩ := h
          obtain ⟨b111, hb, h⟩ := h
          refine r_getR C fw_RX10_7 rfl ht hb dX10_fault_71 ?_
          refine r_iload C dX10_fault_74 rfl ?_
          refine r_iconst C 1 dX10_fault_76 (by decide) ?_
          refine r_iadd C dX10_fault_77 ?_
          refine r_iconst C 2 dX10_fault_78 (by decide) ?_
          refine r_aloadR_n C 0 dX10_fault_79 rfl rfl ?_
          obtain ⟨ht, h⟩ := h
          obtain ⟨b112, hb, h⟩ := h
          refine r_getR C fw_RX10_7 rfl ht hb dX10_fault_80 ?_
          refine r_iload C dX10_fault_83 rfl ?_
          obtain ⟨ht, hi, h⟩ := h
          refine r_ialdP C ht hi dX10_fault_85 ?_
          refine r_imul C dX10_fault_86 ?_
          refine r_iadd C dX10_fault_87 ?_
          refine r_iload_n C 2 dX10_fault_88 rfl rfl ?_
          obtain ⟨ht, hi, h⟩ := h
          refine r_iastP C ht hi dX10_fault_89 ?_
          refine r_nm (fun G113 hG113 => ?_)
          replace h := h G113 hG113
          refine r_aloadR_n C 0 dX10_fault_90 rfl rfl ?_
          obtain ⟨ht, h⟩ := h
          obtain ⟨b114, hb, h⟩ := h
          refine r_getR C fw_RX10_7 rfl ht hb dX10_fault_91 ?_
          refine r_iload C dX10_fault_94 rfl ?_
          refine r_iconst C 2 dX10_fault_96 (by decide) ?_
          refine r_iadd C dX10_fault_97 ?_
          refine r_iconst C 2 dX10_fault_98 (by decide) ?_
          refine r_aloadR_n C 0 dX10_fault_99 rfl rfl ?_
          obtain ⟨ht, h⟩ := h
          obtain ⟨b115, hb, h⟩ := h
          refine r_getR C fw_RX10_7 rfl ht hb dX10_fault_100 ?_
          refine r_iload C dX10_fault_103 rfl ?_
          obtain ⟨ht, hi, h⟩ := h
          refine r_ialdP C ht hi dX10_fault_105 ?_
          refine r_imul C dX10_fault_106 ?_
          refine r_iadd C dX10_fault_107 ?_
          refine r_iload_n C 3 dX10_fault_108 rfl rfl ?_
          obtain ⟨ht, hi, h⟩ := h
          refine r_iastP C ht hi dX10_fault_109 ?_
          refine r_nm (fun G116 hG116 => ?_)
          replace h := h G116 hG116
          refine r_aloadR_n C 0 dX10_fault_110 rfl rfl ?_
          obtain ⟨ht, h⟩ := h
          obtain ⟨b117, hb, h⟩ := h
          refine r_getR C fw_RX10_7 rfl ht hb dX10_fault_111 ?_
          refine r_iload C dX10_fault_114 rfl ?_
          refine r_dup2 C dX10_fault_116 rfl rfl ?_
          obtain ⟨ht, hi, h⟩ := h
          refine r_ialdP C ht hi dX10_fault_117 ?_
          refine r_iconst C 1 dX10_fault_118 (by decide) ?_
          refine r_iadd C dX10_fault_119 ?_
          obtain ⟨ht, hi, h⟩ := h
          refine r_iastP C ht hi dX10_fault_120 ?_
          refine r_nm (fun G118 hG118 => ?_)
          replace h := h G118 hG118
          refine r_aloadR_n C 0 dX10_fault_121 rfl rfl ?_
          obtain ⟨ht, h⟩ := h
          obtain ⟨b119, hb, h⟩ := h
          refine r_getR C fw_RX10_7 rfl ht hb dX10_fault_122 ?_
          refine r_iload C dX10_fault_125 rfl ?_
          obtain ⟨ht, hi, h⟩ := h
          refine r_ialdP C ht hi dX10_fault_127 ?_
          exact r_iret C E0 hr ⟨_, rfl, h⟩ dX10_fault_128
        · replace h := h.2 c
          refine r_aloadR_n C 0 dX10_fault_64 rfl rfl ?_
          refine r_iconst C 3 dX10_fault_65 (by decide) ?_
          obtain ⟨ht, h⟩ := h
          refine r_callV C (r := (RX10, TX10, 19)) hL yw_X10_fails vw_RX10_43 rfl rfl ht rfl rfl (Nat.le_of_ble_eq_true rfl) ⟨(Nat.le_of_ble_eq_true rfl), (Nat.le_of_ble_eq_true rfl)⟩ (mX10_fails hfl h) rfl dX10_fault_66 (kI (fun r131 G132 h => ?_)) kN
          exact r_iret C E0 hr ⟨_, rfl, h⟩ dX10_fault_69
      · replace h := h.2 c
        refine r_aloadR_n C 0 dX10_fault_40 rfl rfl ?_
        refine r_iconst C 2 dX10_fault_41 (by decide) ?_
        obtain ⟨ht, h⟩ := h
        refine r_callV C (r := (RX10, TX10, 19)) hL yw_X10_fails vw_RX10_43 rfl rfl ht rfl rfl (Nat.le_of_ble_eq_true rfl) ⟨(Nat.le_of_ble_eq_true rfl), (Nat.le_of_ble_eq_true rfl)⟩ (mX10_fails hfl h) rfl dX10_fault_42 (kI (fun r108 G109 h => ?_)) kN
        exact r_iret C E0 hr ⟨_, rfl, h⟩ dX10_fault_45
  · replace h := h.2 c
    refine r_aloadR_n C 0 dX10_fault_14 rfl rfl ?_
    refine r_iconst C 1 dX10_fault_15 (by decide) ?_
    obtain ⟨ht, h⟩ := h
    refine r_callV C (r := (RX10, TX10, 19)) hL yw_X10_fails vw_RX10_43 rfl rfl ht rfl rfl (Nat.le_of_ble_eq_true rfl) ⟨(Nat.le_of_ble_eq_true rfl), (Nat.le_of_ble_eq_true rfl)⟩ (mX10_fails hfl h) rfl dX10_fault_16 (kI (fun r44 G45 h => ?_)) kN
    exact r_iret C E0 hr ⟨_, rfl, h⟩ dX10_fault_19
def wX10_requestAt (X : Xt) (G : Gt) (x0 : Int32) (Pr : Int32 → Gt → Prop) : Prop := Pr (280 + (12 * x0)) G
set_option maxRecDepth 20000 in
theorem mX10_requestAt {X : Xt} {l : Launch} (hfl : l.stackTraces = false) {G : Gt} {x0 : Int32} {Pr : Int32 → Gt → Prop} (h : wX10_requestAt X G x0 Pr) : Mc X l yX10_requestAt (.code yX10_requestAt cX10_requestAt 1 (some (.int))) 0 0 [.int x0] G (rI Pr) noX := by
  refine Mc.of (by decide +kernel) hfl [some (.int x0)] rfl (Nat.le_of_ble_eq_true rfl) rfl ?_
  intro K hL C E0 hr hnm hex
  have B : BX X K l cX10_requestAt 1 RX10 0 0 G (some (.int)) "requestAt" := ⟨hL, C, E0, hr, hnm, hex, hfl⟩
  have C : Cx X K cX10_requestAt 1 RX10 0 0 := C
  unfold wX10_requestAt at h
  refine r_sipush C 280 dX10_requestAt_0 (by decide) ?_
  refine r_bipush C 12 dX10_requestAt_3 (by decide) ?_
  refine r_iload_n C 0 dX10_requestAt_5 rfl rfl ?_
  refine r_imul C dX10_requestAt_6 ?_
  refine r_iadd C dX10_requestAt_7 ?_
  exact r_iret C E0 hr ⟨_, rfl, h⟩ dX10_requestAt_8
def wX10_countIn_5 (X : Xt) (Pr : Int32 → Gt → Prop) (k5 : Gt → Nat → Int32 → Int32 → Int32 → Int32 → Prop) (G : Gt) (a0 : Nat) (x1 : Int32) (x2 : Int32) (x3 : Int32) (x4 : Int32) : Prop := gT G a0 = (1, 11) ∧ ∃ b1, gR G 352 a0 = some b1 ∧ (gT G b1).1 = 2 ∧ vp_in 6 (gT G b1).2 ∧ ((gA G b1 (6 : Int32).toNatClampNeg) ≤ x4 → Pr x3 G) ∧ (¬ ((gA G b1 (6 : Int32).toNatClampNeg) ≤ x4) → gT G a0 = (1, 11) ∧ ∃ b42, gR G 352 a0 = some b42 ∧ wX10_requestAt X G x4 (fun r43 G44 => (gT G44 b42).1 = 2 ∧ vp_in (r43 + 5) (gT G44 b42).2 ∧ (¬ (gA G44 b42 (r43 + 5).toNatClampNeg) = x2 → k5 G44 a0 x1 x2 (x3 + 0) (x4 + 1)) ∧ ((gA G44 b42 (r43 + 5).toNatClampNeg) = x2 → (x1 < 0 → k5 G44 a0 x1 x2 (x3 + 1) (x4 + 1)) ∧ (¬ (x1 < 0) → gT G44 a0 = (1, 11) ∧ ∃ b125, gR G44 352 a0 = some b125 ∧ wX10_requestAt X G44 x4 (fun r126 G127 => (gT G127 b125).1 = 2 ∧ vp_in r126 (gT G127 b125).2 ∧ (¬ (gA G127 b125 r126.toNatClampNeg) = x1 → k5 G127 a0 x1 x2 (x3 + 0) (x4 + 1)) ∧ ((gA G127 b125 r126.toNatClampNeg) = x1 → k5 G127 a0 x1 x2 (x3 + 1) (x4 + 1)))))))
set_option maxRecDepth 20000 in
theorem bX10_countIn_5 {X : Xt} {K : Kt} {l : Launch} {G0 : Gt} {Pr : Int32 → Gt → Prop} (B : BX X K l cX10_countIn 5 RX10 1 20 G0 (some (.int)) "countIn") {k5 : Gt → Nat → Int32 → Int32 → Int32 → Int32 → Prop} (hk5 : ∀ (G : Gt) (a0 : Nat) (x1 : Int32) (x2 : Int32) (x3 : Int32) (x4 : Int32), k5 G a0 x1 x2 x3 x4 → WM X K (QM X K G0 (rI Pr) noX) G 5 [some (.ref a0), some (.int x1), some (.int x2), some (.int x3), some (.int x4)] []) {G : Gt} {a0 : Nat} {x1 : Int32} {x2 : Int32} {x3 : Int32} {x4 : Int32} (h : wX10_countIn_5 X Pr k5 G a0 x1 x2 x3 x4) : WM X K (QM X K G0 (rI Pr) noX) G 5 [some (.ref a0), some (.int x1), some (.int x2), some (.int x3), some (.int x4)] [] := by
  obtain ⟨hL, C, E0, hr, hnm, hex, hfl⟩ := id B
  unfold wX10_countIn_5 at h
  refine r_iload C dX10_countIn_5 rfl ?_
  refine r_aloadR_n C 0 dX10_countIn_7 rfl rfl ?_
  obtain ⟨ht, h⟩ := h
  obtain ⟨b1, hb, h⟩ := h
  refine r_getR C fw_RX10_7 rfl ht hb dX10_countIn_8 ?_
  refine r_bipush C 6 dX10_countIn_11 (by decide) ?_
  obtain ⟨ht, hi, h⟩ := h
  refine r_ialdP C ht hi dX10_countIn_13 ?_
  refine r_icmp_ge C 65 dX10_countIn_14 (by decide) (fun c => ?_) (fun c => ?_)
  · replace h := h.1 c
    refine r_iload_n C 3 dX10_countIn_65 rfl rfl ?_
    exact r_iret C E0 hr ⟨_, rfl, h⟩ dX10_countIn_66
  · replace h := h.2 c
    refine r_iload_n C 3 dX10_countIn_17 rfl rfl ?_
    refine r_aloadR_n C 0 dX10_countIn_18 rfl rfl ?_
    obtain ⟨ht, h⟩ := h
    obtain ⟨b42, hb, h⟩ := h
    refine r_getR C fw_RX10_7 rfl ht hb dX10_countIn_19 ?_
    refine r_iload C dX10_countIn_22 rfl ?_
    refine r_callS C hL yw_X10_requestAt sw_RX10_61 rfl rfl (Nat.le_of_ble_eq_true rfl) ⟨(Nat.le_of_ble_eq_true rfl), (Nat.le_of_ble_eq_true rfl)⟩ (mX10_requestAt hfl h) rfl dX10_countIn_24 (kI (fun r43 G44 h => ?_)) kN
    refine r_iconst C 5 dX10_countIn_27 (by decide) ?_
    refine r_iadd C dX10_countIn_28 ?_
    obtain ⟨ht, hi, h⟩ := h
    refine r_ialdP C ht hi dX10_countIn_29 ?_
    refine r_iload_n C 2 dX10_countIn_30 rfl rfl ?_
    refine r_icmp_ne C 56 dX10_countIn_31 (by decide) (fun c => ?_) (fun c => ?_)
    · replace h := h.1 c
      refine r_iconst C 0 dX10_countIn_56 (by decide) ?_
      refine r_iadd C dX10_countIn_57 ?_
      refine r_istore_n C 3 (lv' := [some (.ref a0), some (.int x1), some (.int x2), some (.int (x3 + 0)), some (.int x4)]) dX10_countIn_58 rfl (Nat.le_of_ble_eq_true rfl) rfl rfl ?_
      refine r_iinc C 1 (lv' := [some (.ref a0), some (.int x1), some (.int x2), some (.int (x3 + 0)), some (.int (x4 + 1))]) dX10_countIn_59 rfl (by decide) rfl rfl ?_
      refine r_goto C 5 dX10_countIn_62 (by decide) ?_
      exact hk5 _ _ _ _ _ _ h
    · replace h := h.2 c
      refine r_iload_n C 1 dX10_countIn_34 rfl rfl ?_
      refine r_if_lt C 52 dX10_countIn_35 (by decide) (fun c => ?_) (fun c => ?_)
      · replace h := h.1 c
        refine r_iconst C 1 dX10_countIn_52 (by decide) ?_
        refine r_goto C 57 dX10_countIn_53 (by decide) ?_
        refine r_iadd C dX10_countIn_57 ?_
        refine r_istore_n C 3 (lv' := [some (.ref a0), some (.int x1), some (.int x2), some (.int (x3 + 1)), some (.int x4)]) dX10_countIn_58 rfl (Nat.le_of_ble_eq_true rfl) rfl rfl ?_
        refine r_iinc C 1 (lv' := [some (.ref a0), some (.int x1), some (.int x2), some (.int (x3 + 1)), some (.int (x4 + 1))]) dX10_countIn_59 rfl (by decide) rfl rfl ?_
        refine r_goto C 5 dX10_countIn_62 (by decide) ?_
        exact hk5 _ _ _ _ _ _ h
      · replace h := h.2 c
        refine r_aloadR_n C 0 dX10_countIn_38 rfl rfl ?_
        obtain ⟨ht, h⟩ := h
        obtain ⟨b125, hb, h⟩ := h
        refine r_getR C fw_RX10_7 rfl ht hb dX10_countIn_39 ?_
        refine r_iload C dX10_countIn_42 rfl ?_
        refine r_callS C hL yw_X10_requestAt sw_RX10_61 rfl rfl (Nat.le_of_ble_eq_true rfl) ⟨(Nat.le_of_ble_eq_true rfl), (Nat.le_of_ble_eq_true rfl)⟩ (mX10_requestAt hfl h) rfl dX10_countIn_44 (kI (fun r126 G127 h => ?_)) kN
        obtain ⟨ht, hi, h⟩ := h
        refine r_ialdP C ht hi dX10_countIn_47 ?_
        refine r_iload_n C 1 dX10_countIn_48 rfl rfl ?_
        refine r_icmp_ne C 56 dX10_countIn_49 (by decide) (fun c => ?_) (fun c => ?_)
        · replace h := h.1 c
          refine r_iconst C 0 dX10_countIn_56 (by decide) ?_
          refine r_iadd C dX10_countIn_57 ?_
          refine r_istore_n C 3 (lv' := [some (.ref a0), some (.int x1), some (.int x2), some (.int (x3 + 0)), some (.int x4)]) dX10_countIn_58 rfl (Nat.le_of_ble_eq_true rfl) rfl rfl ?_
          refine r_iinc C 1 (lv' := [some (.ref a0), some (.int x1), some (.int x2), some (.int (x3 + 0)), some (.int (x4 + 1))]) dX10_countIn_59 rfl (by decide) rfl rfl ?_
          refine r_goto C 5 dX10_countIn_62 (by decide) ?_
          exact hk5 _ _ _ _ _ _ h
        · replace h := h.2 c
          refine r_iconst C 1 dX10_countIn_52 (by decide) ?_
          refine r_goto C 57 dX10_countIn_53 (by decide) ?_
          refine r_iadd C dX10_countIn_57 ?_
          refine r_istore_n C 3 (lv' := [some (.ref a0), some (.int x1), some (.int x2), some (.int (x3 + 1)), some (.int x4)]) dX10_countIn_58 rfl (Nat.le_of_ble_eq_true rfl) rfl rfl ?_
          refine r_iinc C 1 (lv' := [some (.ref a0), some (.int x1), some (.int x2), some (.int (x3 + 1)), some (.int (x4 + 1))]) dX10_countIn_59 rfl (by decide) rfl rfl ?_
          refine r_goto C 5 dX10_countIn_62 (by decide) ?_
          exact hk5 _ _ _ _ _ _ h
theorem lX10_countIn_5 {X : Xt} {K : Kt} {l : Launch} {G0 : Gt} {Pr : Int32 → Gt → Prop} (B : BX X K l cX10_countIn 5 RX10 1 20 G0 (some (.int)) "countIn") (I : Gt → Nat → Int32 → Int32 → Int32 → Int32 → Prop) (μ : Gt → Nat → Int32 → Int32 → Int32 → Int32 → Nat) (hS : ∀ (G : Gt) (a0 : Nat) (x1 : Int32) (x2 : Int32) (x3 : Int32) (x4 : Int32), I G a0 x1 x2 x3 x4 → wX10_countIn_5 X Pr (fun G' a0' x1' x2' x3' x4' => I G' a0' x1' x2' x3' x4' ∧ μ G' a0' x1' x2' x3' x4' < μ G a0 x1 x2 x3 x4) G a0 x1 x2 x3 x4) : ∀ (n : Nat) (G : Gt) (a0 : Nat) (x1 : Int32) (x2 : Int32) (x3 : Int32) (x4 : Int32), μ G a0 x1 x2 x3 x4 < n → I G a0 x1 x2 x3 x4 → WM X K (QM X K G0 (rI Pr) noX) G 5 [some (.ref a0), some (.int x1), some (.int x2), some (.int x3), some (.int x4)] [] := by
  intro n
  induction n with
  | zero => intro G a0 x1 x2 x3 x4 hm; exact absurd hm (Nat.not_lt_zero _)
  | succ n ih =>
    intro G a0 x1 x2 x3 x4 hm hi
    exact bX10_countIn_5 B (fun G' a0' x1' x2' x3' x4' hk => ih G' a0' x1' x2' x3' x4' (Nat.lt_of_lt_of_le hk.2 (Nat.le_of_lt_succ hm)) hk.1) (hS G a0 x1 x2 x3 x4 hi)
def wX10_countIn (X : Xt) (G : Gt) (a0 : Nat) (x1 : Int32) (x2 : Int32) (Pr : Int32 → Gt → Prop) : Prop := ∃ (I : Gt → Nat → Int32 → Int32 → Int32 → Int32 → Prop) (μ : Gt → Nat → Int32 → Int32 → Int32 → Int32 → Nat), I G a0 x1 x2 (0 : Int32) (0 : Int32) ∧ ∀ (G : Gt) (a0 : Nat) (x1 : Int32) (x2 : Int32) (x3 : Int32) (x4 : Int32), I G a0 x1 x2 x3 x4 → wX10_countIn_5 X Pr (fun G' a0' x1' x2' x3' x4' => I G' a0' x1' x2' x3' x4' ∧ μ G' a0' x1' x2' x3' x4' < μ G a0 x1 x2 x3 x4) G a0 x1 x2 x3 x4
set_option maxRecDepth 20000 in
theorem mX10_countIn {X : Xt} {l : Launch} (hfl : l.stackTraces = false) {G : Gt} {a0 : Nat} {x1 : Int32} {x2 : Int32} {Pr : Int32 → Gt → Prop} (h : wX10_countIn X G a0 x1 x2 Pr) : Mc X l yX10_countIn (.code yX10_countIn cX10_countIn 5 (some (.int))) 1 20 [.ref a0, .int x1, .int x2] G (rI Pr) noX := by
  refine Mc.of (by decide +kernel) hfl [some (.ref a0), some (.int x1), some (.int x2), none, none] rfl (Nat.le_of_ble_eq_true rfl) rfl ?_
  intro K hL C E0 hr hnm hex
  have B : BX X K l cX10_countIn 5 RX10 1 20 G (some (.int)) "countIn" := ⟨hL, C, E0, hr, hnm, hex, hfl⟩
  have C : Cx X K cX10_countIn 5 RX10 1 20 := C
  unfold wX10_countIn at h
  refine r_iconst C 0 dX10_countIn_0 (by decide) ?_
  refine r_istore_n C 3 (lv' := [some (.ref a0), some (.int x1), some (.int x2), some (.int 0), none]) dX10_countIn_1 rfl (Nat.le_of_ble_eq_true rfl) rfl rfl ?_
  refine r_iconst C 0 dX10_countIn_2 (by decide) ?_
  refine r_istore C (lv' := [some (.ref a0), some (.int x1), some (.int x2), some (.int 0), some (.int 0)]) dX10_countIn_3 (Nat.le_of_ble_eq_true rfl) rfl rfl ?_
  obtain ⟨I, μ, hI, hS⟩ := h
  exact lX10_countIn_5 B I μ hS _ _ _ _ _ _ _ (Nat.lt_succ_self _) hI
def wX10_end (X : Xt) (G : Gt) (a0 : Nat) (x1 : Int32) (Pr : Int32 → Gt → Prop) : Prop := gT G a0 = (1, 11) ∧ ∃ b1, gR G 352 a0 = some b1 ∧ wX10_requestAt X G x1 (fun r2 G3 => (gT G3 b1).1 = 2 ∧ vp_in (r2 + 2) (gT G3 b1).2 ∧ gT G3 a0 = (1, 11) ∧ ∃ b4, gR G3 352 a0 = some b4 ∧ wX10_requestAt X G3 x1 (fun r5 G6 => (gT G6 b4).1 = 2 ∧ vp_in (r5 + 3) (gT G6 b4).2 ∧ Pr ((gA G3 b1 (r2 + 2).toNatClampNeg) + (gA G6 b4 (r5 + 3).toNatClampNeg)) G6))
set_option maxRecDepth 20000 in
theorem mX10_end {X : Xt} {l : Launch} (hfl : l.stackTraces = false) {G : Gt} {a0 : Nat} {x1 : Int32} {Pr : Int32 → Gt → Prop} (h : wX10_end X G a0 x1 Pr) : Mc X l yX10_end (.code yX10_end cX10_end 2 (some (.int))) 1 20 [.ref a0, .int x1] G (rI Pr) noX := by
  refine Mc.of (by decide +kernel) hfl [some (.ref a0), some (.int x1)] rfl (Nat.le_of_ble_eq_true rfl) rfl ?_
  intro K hL C E0 hr hnm hex
  have B : BX X K l cX10_end 2 RX10 1 20 G (some (.int)) "end" := ⟨hL, C, E0, hr, hnm, hex, hfl⟩
  have C : Cx X K cX10_end 2 RX10 1 20 := C
  unfold wX10_end at h
  refine r_aloadR_n C 0 dX10_end_0 rfl rfl ?_
  obtain ⟨ht, h⟩ := h
  obtain ⟨b1, hb, h⟩ := h
  refine r_getR C fw_RX10_7 rfl ht hb dX10_end_1 ?_
  refine r_iload_n C 1 dX10_end_4 rfl rfl ?_
  refine r_callS C hL yw_X10_requestAt sw_RX10_61 rfl rfl (Nat.le_of_ble_eq_true rfl) ⟨(Nat.le_of_ble_eq_true rfl), (Nat.le_of_ble_eq_true rfl)⟩ (mX10_requestAt hfl h) rfl dX10_end_5 (kI (fun r2 G3 h => ?_)) kN
  refine r_iconst C 2 dX10_end_8 (by decide) ?_
  refine r_iadd C dX10_end_9 ?_
  obtain ⟨ht, hi, h⟩ := h
  refine r_ialdP C ht hi dX10_end_10 ?_
  refine r_aloadR_n C 0 dX10_end_11 rfl rfl ?_
  obtain ⟨ht, h⟩ := h
  obtain ⟨b4, hb, h⟩ := h
  refine r_getR C fw_RX10_7 rfl ht hb dX10_end_12 ?_
  refine r_iload_n C 1 dX10_end_15 rfl rfl ?_
  refine r_callS C hL yw_X10_requestAt sw_RX10_61 rfl rfl (Nat.le_of_ble_eq_true rfl) ⟨(Nat.le_of_ble_eq_true rfl), (Nat.le_of_ble_eq_true rfl)⟩ (mX10_requestAt hfl h) rfl dX10_end_16 (kI (fun r5 G6 h => ?_)) kN
  refine r_iconst C 3 dX10_end_19 (by decide) ?_
  refine r_iadd C dX10_end_20 ?_
  obtain ⟨ht, hi, h⟩ := h
  refine r_ialdP C ht hi dX10_end_21 ?_
  refine r_iadd C dX10_end_22 ?_
  exact r_iret C E0 hr ⟨_, rfl, h⟩ dX10_end_23
def wX10_isWaiting (X : Xt) (G : Gt) (a0 : Nat) (x1 : Int32) (Pr : Int32 → Gt → Prop) : Prop := gT G a0 = (1, 11) ∧ ∃ b1, gR G 352 a0 = some b1 ∧ wX10_requestAt X G x1 (fun r2 G3 => (gT G3 b1).1 = 2 ∧ vp_in (r2 + 5) (gT G3 b1).2 ∧ (¬ (gA G3 b1 (r2 + 5).toNatClampNeg) = 0 → Pr 0 G3) ∧ ((gA G3 b1 (r2 + 5).toNatClampNeg) = 0 → Pr 1 G3))
set_option maxRecDepth 20000 in
theorem mX10_isWaiting {X : Xt} {l : Launch} (hfl : l.stackTraces = false) {G : Gt} {a0 : Nat} {x1 : Int32} {Pr : Int32 → Gt → Prop} (h : wX10_isWaiting X G a0 x1 Pr) : Mc X l yX10_isWaiting (.code yX10_isWaiting cX10_isWaiting 2 (some (.boolean))) 1 20 [.ref a0, .int x1] G (rI Pr) noX := by
  refine Mc.of (by decide +kernel) hfl [some (.ref a0), some (.int x1)] rfl (Nat.le_of_ble_eq_true rfl) rfl ?_
  intro K hL C E0 hr hnm hex
  have B : BX X K l cX10_isWaiting 2 RX10 1 20 G (some (.boolean)) "isWaiting" := ⟨hL, C, E0, hr, hnm, hex, hfl⟩
  have C : Cx X K cX10_isWaiting 2 RX10 1 20 := C
  unfold wX10_isWaiting at h
  refine r_aloadR_n C 0 dX10_isWaiting_0 rfl rfl ?_
  obtain ⟨ht, h⟩ := h
  obtain ⟨b1, hb, h⟩ := h
  refine r_getR C fw_RX10_7 rfl ht hb dX10_isWaiting_1 ?_
  refine r_iload_n C 1 dX10_isWaiting_4 rfl rfl ?_
  refine r_callS C hL yw_X10_requestAt sw_RX10_61 rfl rfl (Nat.le_of_ble_eq_true rfl) ⟨(Nat.le_of_ble_eq_true rfl), (Nat.le_of_ble_eq_true rfl)⟩ (mX10_requestAt hfl h) rfl dX10_isWaiting_5 (kI (fun r2 G3 h => ?_)) kN
  refine r_iconst C 5 dX10_isWaiting_8 (by decide) ?_
  refine r_iadd C dX10_isWaiting_9 ?_
  obtain ⟨ht, hi, h⟩ := h
  refine r_ialdP C ht hi dX10_isWaiting_10 ?_
  refine r_if_ne C 18 dX10_isWaiting_11 (by decide) (fun c => ?_) (fun c => ?_)
  · replace h := h.1 c
    refine r_iconst C 0 dX10_isWaiting_18 (by decide) ?_
    exact r_zret C E0 hr (Or.inl rfl) ⟨_, rfl, h⟩ dX10_isWaiting_19
  · replace h := h.2 c
    refine r_iconst C 1 dX10_isWaiting_14 (by decide) ?_
    refine r_goto C 19 dX10_isWaiting_15 (by decide) ?_
    exact r_zret C E0 hr (Or.inr rfl) ⟨_, rfl, h⟩ dX10_isWaiting_19
def wX10_overlap (X : Xt) (G : Gt) (a0 : Nat) (x1 : Int32) (x2 : Int32) (Pr : Int32 → Gt → Prop) : Prop := gT G a0 = (1, 11) ∧ ∃ b1, gR G 352 a0 = some b1 ∧ wX10_requestAt X G x1 (fun r2 G3 => (gT G3 b1).1 = 2 ∧ vp_in (r2 + 2) (gT G3 b1).2 ∧ gT G3 a0 = (1, 11) ∧ wX10_end X G3 a0 x2 (fun r4 G5 => (r4 ≤ (gA G3 b1 (r2 + 2).toNatClampNeg) → Pr 0 G5) ∧ (¬ (r4 ≤ (gA G3 b1 (r2 + 2).toNatClampNeg)) → gT G5 a0 = (1, 11) ∧ ∃ b46, gR G5 352 a0 = some b46 ∧ wX10_requestAt X G5 x2 (fun r47 G48 => (gT G48 b46).1 = 2 ∧ vp_in (r47 + 2) (gT G48 b46).2 ∧ gT G48 a0 = (1, 11) ∧ wX10_end X G48 a0 x1 (fun r49 G50 => (r49 ≤ (gA G48 b46 (r47 + 2).toNatClampNeg) → Pr 0 G50) ∧ (¬ (r49 ≤ (gA G48 b46 (r47 + 2).toNatClampNeg)) → Pr 1 G50))))))
set_option maxRecDepth 20000 in
theorem mX10_overlap {X : Xt} {l : Launch} (hfl : l.stackTraces = false) {G : Gt} {a0 : Nat} {x1 : Int32} {x2 : Int32} {Pr : Int32 → Gt → Prop} (h : wX10_overlap X G a0 x1 x2 Pr) : Mc X l yX10_overlap (.code yX10_overlap cX10_overlap 3 (some (.boolean))) 2 41 [.ref a0, .int x1, .int x2] G (rI Pr) noX := by
  refine Mc.of (by decide +kernel) hfl [some (.ref a0), some (.int x1), some (.int x2)] rfl (Nat.le_of_ble_eq_true rfl) rfl ?_
  intro K hL C E0 hr hnm hex
  have B : BX X K l cX10_overlap 3 RX10 2 41 G (some (.boolean)) "overlap" := ⟨hL, C, E0, hr, hnm, hex, hfl⟩
  have C : Cx X K cX10_overlap 3 RX10 2 41 := C
  unfold wX10_overlap at h
  refine r_aloadR_n C 0 dX10_overlap_0 rfl rfl ?_
  obtain ⟨ht, h⟩ := h
  obtain ⟨b1, hb, h⟩ := h
  refine r_getR C fw_RX10_7 rfl ht hb dX10_overlap_1 ?_
  refine r_iload_n C 1 dX10_overlap_4 rfl rfl ?_
  refine r_callS C hL yw_X10_requestAt sw_RX10_61 rfl rfl (Nat.le_of_ble_eq_true rfl) ⟨(Nat.le_of_ble_eq_true rfl), (Nat.le_of_ble_eq_true rfl)⟩ (mX10_requestAt hfl h) rfl dX10_overlap_5 (kI (fun r2 G3 h => ?_)) kN
  refine r_iconst C 2 dX10_overlap_8 (by decide) ?_
  refine r_iadd C dX10_overlap_9 ?_
  obtain ⟨ht, hi, h⟩ := h
  refine r_ialdP C ht hi dX10_overlap_10 ?_
  refine r_aloadR_n C 0 dX10_overlap_11 rfl rfl ?_
  refine r_iload_n C 2 dX10_overlap_12 rfl rfl ?_
  obtain ⟨ht, h⟩ := h
  refine r_callV C (r := (RX10, TX10, 19)) hL yw_X10_end vw_RX10_82 rfl rfl ht rfl rfl (Nat.le_of_ble_eq_true rfl) ⟨(Nat.le_of_ble_eq_true rfl), (Nat.le_of_ble_eq_true rfl)⟩ (mX10_end hfl h) rfl dX10_overlap_13 (kI (fun r4 G5 h => ?_)) kN
  refine r_icmp_ge C 42 dX10_overlap_16 (by decide) (fun c => ?_) (fun c => ?_)
  · replace h := h.1 c
    refine r_iconst C 0 dX10_overlap_42 (by decide) ?_
    exact r_zret C E0 hr (Or.inl rfl) ⟨_, rfl, h⟩ dX10_overlap_43
  · replace h := h.2 c
    refine r_aloadR_n C 0 dX10_overlap_19 rfl rfl ?_
    obtain ⟨ht, h⟩ := h
    obtain ⟨b46, hb, h⟩ := h
    refine r_getR C fw_RX10_7 rfl ht hb dX10_overlap_20 ?_
    refine r_iload_n C 2 dX10_overlap_23 rfl rfl ?_
    refine r_callS C hL yw_X10_requestAt sw_RX10_61 rfl rfl (Nat.le_of_ble_eq_true rfl) ⟨(Nat.le_of_ble_eq_true rfl), (Nat.le_of_ble_eq_true rfl)⟩ (mX10_requestAt hfl h) rfl dX10_overlap_24 (kI (fun r47 G48 h => ?_)) kN
    refine r_iconst C 2 dX10_overlap_27 (by decide) ?_
    refine r_iadd C dX10_overlap_28 ?_
    obtain ⟨ht, hi, h⟩ := h
    refine r_ialdP C ht hi dX10_overlap_29 ?_
    refine r_aloadR_n C 0 dX10_overlap_30 rfl rfl ?_
    refine r_iload_n C 1 dX10_overlap_31 rfl rfl ?_
    obtain ⟨ht, h⟩ := h
    refine r_callV C (r := (RX10, TX10, 19)) hL yw_X10_end vw_RX10_82 rfl rfl ht rfl rfl (Nat.le_of_ble_eq_true rfl) ⟨(Nat.le_of_ble_eq_true rfl), (Nat.le_of_ble_eq_true rfl)⟩ (mX10_end hfl h) rfl dX10_overlap_32 (kI (fun r49 G50 h => ?_)) kN
    refine r_icmp_ge C 42 dX10_overlap_35 (by decide) (fun c => ?_) (fun c => ?_)
    · replace h := h.1 c
      refine r_iconst C 0 dX10_overlap_42 (by decide) ?_
      exact r_zret C E0 hr (Or.inl rfl) ⟨_, rfl, h⟩ dX10_overlap_43
    · replace h := h.2 c
      refine r_iconst C 1 dX10_overlap_38 (by decide) ?_
      refine r_goto C 43 dX10_overlap_39 (by decide) ?_
      exact r_zret C E0 hr (Or.inr rfl) ⟨_, rfl, h⟩ dX10_overlap_43
def wX10_isHeldBack_62 (X : Xt) (Pr : Int32 → Gt → Prop) (k4 : Gt → Nat → Int32 → Int32 → Int32 → Prop) (G : Gt) (a0 : Nat) (x1 : Int32) (x2 : Int32) (x3 : Int32) (sx0 : Int32) : Prop := (¬ x2 = 0 → k4 G a0 x1 (1 : Int32) (x3 + 1)) ∧ (x2 = 0 → (sx0 = 0 → k4 G a0 x1 (0 : Int32) (x3 + 1)) ∧ (¬ (sx0 = 0) → gT G a0 = (1, 11) ∧ ∃ b81, gR G 352 a0 = some b81 ∧ wX10_requestAt X G x3 (fun r82 G83 => (gT G83 b81).1 = 2 ∧ vp_in (r82 + 4) (gT G83 b81).2 ∧ ((gA G83 b81 (r82 + 4).toNatClampNeg) = 1 → k4 G83 a0 x1 (1 : Int32) (x3 + 1)) ∧ (¬ ((gA G83 b81 (r82 + 4).toNatClampNeg) = 1) → gT G83 a0 = (1, 11) ∧ ((gI G83 359 a0) = 0 → k4 G83 a0 x1 (0 : Int32) (x3 + 1)) ∧ (¬ ((gI G83 359 a0) = 0) → k4 G83 a0 x1 (1 : Int32) (x3 + 1))))))
set_option maxRecDepth 20000 in
theorem bX10_isHeldBack_62 {X : Xt} {K : Kt} {l : Launch} {G0 : Gt} {Pr : Int32 → Gt → Prop} (B : BX X K l cX10_isHeldBack 5 RX10 3 63 G0 (some (.boolean)) "isHeldBack") {k4 : Gt → Nat → Int32 → Int32 → Int32 → Prop} (hk4 : ∀ (G : Gt) (a0 : Nat) (x1 : Int32) (x2 : Int32) (x3 : Int32), k4 G a0 x1 x2 x3 → WM X K (QM X K G0 (rI Pr) noX) G 4 [some (.ref a0), some (.int x1), some (.int x2), some (.int x3), none] []) {G : Gt} {a0 : Nat} {x1 : Int32} {x2 : Int32} {x3 : Int32} {sx0 : Int32} (h : wX10_isHeldBack_62 X Pr k4 G a0 x1 x2 x3 sx0) : WM X K (QM X K G0 (rI Pr) noX) G 62 [some (.ref a0), some (.int x1), some (.int x2), some (.int x3), none] [.int sx0] := by
  obtain ⟨hL, C, E0, hr, hnm, hex, hfl⟩ := id B
  unfold wX10_isHeldBack_62 at h
  refine r_istore C (lv' := [some (.ref a0), some (.int x1), some (.int x2), some (.int x3), some (.int sx0)]) dX10_isHeldBack_62 (Nat.le_of_ble_eq_true rfl) rfl rfl ?_
  refine r_iload_n C 2 dX10_isHeldBack_64 rfl rfl ?_
  refine r_if_ne C 95 dX10_isHeldBack_65 (by decide) (fun c => ?_) (fun c => ?_)
  · replace h := h.1 c
    refine r_iconst C 1 dX10_isHeldBack_95 (by decide) ?_
    refine r_goto C 100 dX10_isHeldBack_96 (by decide) ?_
    refine r_istore_n C 2 (lv' := [some (.ref a0), some (.int x1), some (.int 1), some (.int x3), some (.int sx0)]) dX10_isHeldBack_100 rfl (Nat.le_of_ble_eq_true rfl) rfl rfl ?_
    refine r_iinc C 1 (lv' := [some (.ref a0), some (.int x1), some (.int 1), some (.int (x3 + 1)), some (.int sx0)]) dX10_isHeldBack_101 rfl (by decide) rfl rfl ?_
    refine r_goto C 4 dX10_isHeldBack_104 (by decide) ?_
    refine r_fg (lv' := [some (.ref a0), some (.int x1), some (.int 1), some (.int (x3 + 1)), none]) (show fgt _ _ from ⟨rfl, ⟨rfl, ⟨rfl, ⟨rfl, trivial⟩⟩⟩⟩) ?_
    exact hk4 _ _ _ _ _ h
  · replace h := h.2 c
    refine r_iload C dX10_isHeldBack_68 rfl ?_
    refine r_if_eq C 99 dX10_isHeldBack_70 (by decide) (fun c => ?_) (fun c => ?_)
    · replace h := h.1 c
      refine r_iconst C 0 dX10_isHeldBack_99 (by decide) ?_
      refine r_istore_n C 2 (lv' := [some (.ref a0), some (.int x1), some (.int 0), some (.int x3), some (.int sx0)]) dX10_isHeldBack_100 rfl (Nat.le_of_ble_eq_true rfl) rfl rfl ?_
      refine r_iinc C 1 (lv' := [some (.ref a0), some (.int x1), some (.int 0), some (.int (x3 + 1)), some (.int sx0)]) dX10_isHeldBack_101 rfl (by decide) rfl rfl ?_
      refine r_goto C 4 dX10_isHeldBack_104 (by decide) ?_
      refine r_fg (lv' := [some (.ref a0), some (.int x1), some (.int 0), some (.int (x3 + 1)), none]) (show fgt _ _ from ⟨rfl, ⟨rfl, ⟨rfl, ⟨rfl, trivial⟩⟩⟩⟩) ?_
      exact hk4 _ _ _ _ _ h
    · replace h := h.2 c
      refine r_aloadR_n C 0 dX10_isHeldBack_73 rfl rfl ?_
      obtain ⟨ht, h⟩ := h
      obtain ⟨b81, hb, h⟩ := h
      refine r_getR C fw_RX10_7 rfl ht hb dX10_isHeldBack_74 ?_
      refine r_iload_n C 3 dX10_isHeldBack_77 rfl rfl ?_
      refine r_callS C hL yw_X10_requestAt sw_RX10_61 rfl rfl (Nat.le_of_ble_eq_true rfl) ⟨(Nat.le_of_ble_eq_true rfl), (Nat.le_of_ble_eq_true rfl)⟩ (mX10_requestAt hfl h) rfl dX10_isHeldBack_78 (kI (fun r82 G83 h => ?_)) kN
      refine r_iconst C 4 dX10_isHeldBack_81 (by decide) ?_
      refine r_iadd C dX10_isHeldBack_82 ?_
      obtain ⟨ht, hi, h⟩ := h
      refine r_ialdP C ht hi dX10_isHeldBack_83 ?_
      refine r_iconst C 1 dX10_isHeldBack_84 (by decide) ?_
      refine r_icmp_eq C 95 dX10_isHeldBack_85 (by decide) (fun c => ?_) (fun c => ?_)
      · replace h := h.1 c
        refine r_iconst C 1 dX10_isHeldBack_95 (by decide) ?_
        refine r_goto C 100 dX10_isHeldBack_96 (by decide) ?_
        refine r_istore_n C 2 (lv' := [some (.ref a0), some (.int x1), some (.int 1), some (.int x3), some (.int sx0)]) dX10_isHeldBack_100 rfl (Nat.le_of_ble_eq_true rfl) rfl rfl ?_
        refine r_iinc C 1 (lv' := [some (.ref a0), some (.int x1), some (.int 1), some (.int (x3 + 1)), some (.int sx0)]) dX10_isHeldBack_101 rfl (by decide) rfl rfl ?_
        refine r_goto C 4 dX10_isHeldBack_104 (by decide) ?_
        refine r_fg (lv' := [some (.ref a0), some (.int x1), some (.int 1), some (.int (x3 + 1)), none]) (show fgt _ _ from ⟨rfl, ⟨rfl, ⟨rfl, ⟨rfl, trivial⟩⟩⟩⟩) ?_
        exact hk4 _ _ _ _ _ h
      · replace h := h.2 c
        refine r_aloadR_n C 0 dX10_isHeldBack_88 rfl rfl ?_
        obtain ⟨ht, h⟩ := h
        refine r_getI C fw_RX10_101 rfl ht dX10_isHeldBack_89 ?_
        refine r_if_eq C 99 dX10_isHeldBack_92 (by decide) (fun c => ?_) (fun c => ?_)
        · replace h := h.1 c
          refine r_iconst C 0 dX10_isHeldBack_99 (by decide) ?_
          refine r_istore_n C 2 (lv' := [some (.ref a0), some (.int x1), some (.int 0), some (.int x3), some (.int sx0)]) dX10_isHeldBack_100 rfl (Nat.le_of_ble_eq_true rfl) rfl rfl ?_
          refine r_iinc C 1 (lv' := [some (.ref a0), some (.int x1), some (.int 0), some (.int (x3 + 1)), some (.int sx0)]) dX10_isHeldBack_101 rfl (by decide) rfl rfl ?_
          refine r_goto C 4 dX10_isHeldBack_104 (by decide) ?_
          refine r_fg (lv' := [some (.ref a0), some (.int x1), some (.int 0), some (.int (x3 + 1)), none]) (show fgt _ _ from ⟨rfl, ⟨rfl, ⟨rfl, ⟨rfl, trivial⟩⟩⟩⟩) ?_
          exact hk4 _ _ _ _ _ h
        · replace h := h.2 c
          refine r_iconst C 1 dX10_isHeldBack_95 (by decide) ?_
          refine r_goto C 100 dX10_isHeldBack_96 (by decide) ?_
          refine r_istore_n C 2 (lv' := [some (.ref a0), some (.int x1), some (.int 1), some (.int x3), some (.int sx0)]) dX10_isHeldBack_100 rfl (Nat.le_of_ble_eq_true rfl) rfl rfl ?_
          refine r_iinc C 1 (lv' := [some (.ref a0), some (.int x1), some (.int 1), some (.int (x3 + 1)), some (.int sx0)]) dX10_isHeldBack_101 rfl (by decide) rfl rfl ?_
          refine r_goto C 4 dX10_isHeldBack_104 (by decide) ?_
          refine r_fg (lv' := [some (.ref a0), some (.int x1), some (.int 1), some (.int (x3 + 1)), none]) (show fgt _ _ from ⟨rfl, ⟨rfl, ⟨rfl, ⟨rfl, trivial⟩⟩⟩⟩) ?_
          exact hk4 _ _ _ _ _ h
def wX10_isHeldBack_4 (X : Xt) (Pr : Int32 → Gt → Prop) (k4 : Gt → Nat → Int32 → Int32 → Int32 → Prop) (G : Gt) (a0 : Nat) (x1 : Int32) (x2 : Int32) (x3 : Int32) : Prop := (x1 ≤ x3 → (x2 = 0 ∨ x2 = 1) ∧ Pr x2 G) ∧ (¬ (x1 ≤ x3) → gT G a0 = (1, 11) ∧ wX10_isWaiting X G a0 x3 (fun r41 G42 => (r41 = 0 → wX10_isHeldBack_62 X Pr k4 G42 a0 x1 x2 x3 (0 : Int32)) ∧ (¬ (r41 = 0) → gT G42 a0 = (1, 11) ∧ ∃ b83, gR G42 352 a0 = some b83 ∧ wX10_requestAt X G42 x3 (fun r84 G85 => (gT G85 b83).1 = 2 ∧ vp_in (r84 + 1) (gT G85 b83).2 ∧ gT G85 a0 = (1, 11) ∧ (¬ (gA G85 b83 (r84 + 1).toNatClampNeg) = (gI G85 360 a0) → wX10_isHeldBack_62 X Pr k4 G85 a0 x1 x2 x3 (0 : Int32)) ∧ ((gA G85 b83 (r84 + 1).toNatClampNeg) = (gI G85 360 a0) → gT G85 a0 = (1, 11) ∧ (¬ (lg_cmp (((gJ G85 355 a0) >>> ((x3 : Int32).toInt64 &&& 63)) &&& (1 : Int64)) (0 : Int64)) = 0 → wX10_isHeldBack_62 X Pr k4 G85 a0 x1 x2 x3 (0 : Int32)) ∧ ((lg_cmp (((gJ G85 355 a0) >>> ((x3 : Int32).toInt64 &&& 63)) &&& (1 : Int64)) (0 : Int64)) = 0 → gT G85 a0 = (1, 11) ∧ wX10_overlap X G85 a0 x3 x1 (fun r166 G167 => (r166 = 0 → wX10_isHeldBack_62 X Pr k4 G167 a0 x1 x2 x3 (0 : Int32)) ∧ (¬ (r166 = 0) → wX10_isHeldBack_62 X Pr k4 G167 a0 x1 x2 x3 (1 : Int32)))))))))
set_option maxRecDepth 20000 in
theorem bX10_isHeldBack_4 {X : Xt} {K : Kt} {l : Launch} {G0 : Gt} {Pr : Int32 → Gt → Prop} (B : BX X K l cX10_isHeldBack 5 RX10 3 63 G0 (some (.boolean)) "isHeldBack") {k4 : Gt → Nat → Int32 → Int32 → Int32 → Prop} (hk4 : ∀ (G : Gt) (a0 : Nat) (x1 : Int32) (x2 : Int32) (x3 : Int32), k4 G a0 x1 x2 x3 → WM X K (QM X K G0 (rI Pr) noX) G 4 [some (.ref a0), some (.int x1), some (.int x2), some (.int x3), none] []) {G : Gt} {a0 : Nat} {x1 : Int32} {x2 : Int32} {x3 : Int32} (h : wX10_isHeldBack_4 X Pr k4 G a0 x1 x2 x3) : WM X K (QM X K G0 (rI Pr) noX) G 4 [some (.ref a0), some (.int x1), some (.int x2), some (.int x3), none] [] := by
  obtain ⟨hL, C, E0, hr, hnm, hex, hfl⟩ := id B
  unfold wX10_isHeldBack_4 at h
  refine r_iload_n C 3 dX10_isHeldBack_4 rfl rfl ?_
  refine r_iload_n C 1 dX10_isHeldBack_5 rfl rfl ?_
  refine r_icmp_ge C 107 dX10_isHeldBack_6 (by decide) (fun c => ?_) (fun c => ?_)
  · replace h := h.1 c
    refine r_iload_n C 2 dX10_isHeldBack_107 rfl rfl ?_
    obtain ⟨hz, h⟩ := h
    exact r_zret C E0 hr hz ⟨_, rfl, h⟩ dX10_isHeldBack_108
  · replace h := h.2 c
    refine r_aloadR_n C 0 dX10_isHeldBack_9 rfl rfl ?_
    refine r_iload_n C 3 dX10_isHeldBack_10 rfl rfl ?_
    obtain ⟨ht, h⟩ := h
    refine r_callV C (r := (RX10, TX10, 19)) hL yw_X10_isWaiting vw_RX10_85 rfl rfl ht rfl rfl (Nat.le_of_ble_eq_true rfl) ⟨(Nat.le_of_ble_eq_true rfl), (Nat.le_of_ble_eq_true rfl)⟩ (mX10_isWaiting hfl h) rfl dX10_isHeldBack_11 (kI (fun r41 G42 h => ?_)) kN
    refine r_if_eq C 61 dX10_isHeldBack_14 (by decide) (fun c => ?_) (fun c => ?_)
    · replace h := h.1 c
      refine r_iconst C 0 dX10_isHeldBack_61 (by decide) ?_
      exact bX10_isHeldBack_62 B hk4 h
    · replace h := h.2 c
      refine r_aloadR_n C 0 dX10_isHeldBack_17 rfl rfl ?_
      obtain ⟨ht, h⟩ := h
      obtain ⟨b83, hb, h⟩ := h
      refine r_getR C fw_RX10_7 rfl ht hb dX10_isHeldBack_18 ?_
      refine r_iload_n C 3 dX10_isHeldBack_21 rfl rfl ?_
      refine r_callS C hL yw_X10_requestAt sw_RX10_61 rfl rfl (Nat.le_of_ble_eq_true rfl) ⟨(Nat.le_of_ble_eq_true rfl), (Nat.le_of_ble_eq_true rfl)⟩ (mX10_requestAt hfl h) rfl dX10_isHeldBack_22 (kI (fun r84 G85 h => ?_)) kN
      refine r_iconst C 1 dX10_isHeldBack_25 (by decide) ?_
      refine r_iadd C dX10_isHeldBack_26 ?_
      obtain ⟨ht, hi, h⟩ := h
      refine r_ialdP C ht hi dX10_isHeldBack_27 ?_
      refine r_aloadR_n C 0 dX10_isHeldBack_28 rfl rfl ?_
      obtain ⟨ht, h⟩ := h
      refine r_getI C fw_RX10_91 rfl ht dX10_isHeldBack_29 ?_
      refine r_icmp_ne C 61 dX10_isHeldBack_32 (by decide) (fun c => ?_) (fun c => ?_)
      · replace h := h.1 c
        refine r_iconst C 0 dX10_isHeldBack_61 (by decide) ?_
        exact bX10_isHeldBack_62 B hk4 h
      · replace h := h.2 c
        refine r_aloadR_n C 0 dX10_isHeldBack_35 rfl rfl ?_
        obtain ⟨ht, h⟩ := h
        refine r_getJ C fw_RX10_94 rfl ht dX10_isHeldBack_36 ?_
        refine r_iload_n C 3 dX10_isHeldBack_39 rfl rfl ?_
        refine r_lshr C dX10_isHeldBack_40 ?_
        refine r_lconst C 1 dX10_isHeldBack_41 (by decide) ?_
        refine r_land C dX10_isHeldBack_42 ?_
        refine r_lconst C 0 dX10_isHeldBack_43 (by decide) ?_
        refine r_lcmp C dX10_isHeldBack_44 ?_
        refine r_if_ne C 61 dX10_isHeldBack_45 (by decide) (fun c => ?_) (fun c => ?_)
        · replace h := h.1 c
          refine r_iconst C 0 dX10_isHeldBack_61 (by decide) ?_
          exact bX10_isHeldBack_62 B hk4 h
        · replace h := h.2 c
          refine r_aloadR_n C 0 dX10_isHeldBack_48 rfl rfl ?_
          refine r_iload_n C 3 dX10_isHeldBack_49 rfl rfl ?_
          refine r_iload_n C 1 dX10_isHeldBack_50 rfl rfl ?_
          obtain ⟨ht, h⟩ := h
          refine r_callV C (r := (RX10, TX10, 19)) hL yw_X10_overlap vw_RX10_98 rfl rfl ht rfl rfl (Nat.le_of_ble_eq_true rfl) ⟨(Nat.le_of_ble_eq_true rfl), (Nat.le_of_ble_eq_true rfl)⟩ (mX10_overlap hfl h) rfl dX10_isHeldBack_51 (kI (fun r166 G167 h => ?_)) kN
          refine r_if_eq C 61 dX10_isHeldBack_54 (by decide) (fun c => ?_) (fun c => ?_)
          · replace h := h.1 c
            refine r_iconst C 0 dX10_isHeldBack_61 (by decide) ?_
            exact bX10_isHeldBack_62 B hk4 h
          · replace h := h.2 c
            refine r_iconst C 1 dX10_isHeldBack_57 (by decide) ?_
            refine r_goto C 62 dX10_isHeldBack_58 (by decide) ?_
            exact bX10_isHeldBack_62 B hk4 h
theorem lX10_isHeldBack_4 {X : Xt} {K : Kt} {l : Launch} {G0 : Gt} {Pr : Int32 → Gt → Prop} (B : BX X K l cX10_isHeldBack 5 RX10 3 63 G0 (some (.boolean)) "isHeldBack") (I : Gt → Nat → Int32 → Int32 → Int32 → Prop) (μ : Gt → Nat → Int32 → Int32 → Int32 → Nat) (hS : ∀ (G : Gt) (a0 : Nat) (x1 : Int32) (x2 : Int32) (x3 : Int32), I G a0 x1 x2 x3 → wX10_isHeldBack_4 X Pr (fun G' a0' x1' x2' x3' => I G' a0' x1' x2' x3' ∧ μ G' a0' x1' x2' x3' < μ G a0 x1 x2 x3) G a0 x1 x2 x3) : ∀ (n : Nat) (G : Gt) (a0 : Nat) (x1 : Int32) (x2 : Int32) (x3 : Int32), μ G a0 x1 x2 x3 < n → I G a0 x1 x2 x3 → WM X K (QM X K G0 (rI Pr) noX) G 4 [some (.ref a0), some (.int x1), some (.int x2), some (.int x3), none] [] := by
  intro n
  induction n with
  | zero => intro G a0 x1 x2 x3 hm; exact absurd hm (Nat.not_lt_zero _)
  | succ n ih =>
    intro G a0 x1 x2 x3 hm hi
    exact bX10_isHeldBack_4 B (fun G' a0' x1' x2' x3' hk => ih G' a0' x1' x2' x3' (Nat.lt_of_lt_of_le hk.2 (Nat.le_of_lt_succ hm)) hk.1) (hS G a0 x1 x2 x3 hi)
def wX10_isHeldBack (X : Xt) (G : Gt) (a0 : Nat) (x1 : Int32) (Pr : Int32 → Gt → Prop) : Prop := ∃ (I : Gt → Nat → Int32 → Int32 → Int32 → Prop) (μ : Gt → Nat → Int32 → Int32 → Int32 → Nat), I G a0 x1 (0 : Int32) (0 : Int32) ∧ ∀ (G : Gt) (a0 : Nat) (x1 : Int32) (x2 : Int32) (x3 : Int32), I G a0 x1 x2 x3 → wX10_isHeldBack_4 X Pr (fun G' a0' x1' x2' x3' => I G' a0' x1' x2' x3' ∧ μ G' a0' x1' x2' x3' < μ G a0 x1 x2 x3) G a0 x1 x2 x3
set_option maxRecDepth 20000 in
theorem mX10_isHeldBack {X : Xt} {l : Launch} (hfl : l.stackTraces = false) {G : Gt} {a0 : Nat} {x1 : Int32} {Pr : Int32 → Gt → Prop} (h : wX10_isHeldBack X G a0 x1 Pr) : Mc X l yX10_isHeldBack (.code yX10_isHeldBack cX10_isHeldBack 5 (some (.boolean))) 3 63 [.ref a0, .int x1] G (rI Pr) noX := by
  refine Mc.of (by decide +kernel) hfl [some (.ref a0), some (.int x1), none, none, none] rfl (Nat.le_of_ble_eq_true rfl) rfl ?_
  intro K hL C E0 hr hnm hex
  have B : BX X K l cX10_isHeldBack 5 RX10 3 63 G (some (.boolean)) "isHeldBack" := ⟨hL, C, E0, hr, hnm, hex, hfl⟩
  have C : Cx X K cX10_isHeldBack 5 RX10 3 63 := C
  unfold wX10_isHeldBack at h
  refine r_iconst C 0 dX10_isHeldBack_0 (by decide) ?_
  refine r_istore_n C 2 (lv' := [some (.ref a0), some (.int x1), some (.int 0), none, none]) dX10_isHeldBack_1 rfl (Nat.le_of_ble_eq_true rfl) rfl rfl ?_
  refine r_iconst C 0 dX10_isHeldBack_2 (by decide) ?_
  refine r_istore_n C 3 (lv' := [some (.ref a0), some (.int x1), some (.int 0), some (.int 0), none]) dX10_isHeldBack_3 rfl (Nat.le_of_ble_eq_true rfl) rfl rfl ?_
  obtain ⟨I, μ, hI, hS⟩ := h
  exact lX10_isHeldBack_4 B I μ hS _ _ _ _ _ _ (Nat.lt_succ_self _) hI
def wX10_gathers_269 (X : Xt) (Pr : Gt → Prop) (k75 : Gt → Nat → Int32 → Prop) (G : Gt) (a0 : Nat) (x3 : Int32) (x6 : Int32) (x7 : Int32) (sx0 : Int32) (sx1 : Int32) : Prop := (sx1 < sx0 → k75 G a0 (x3 + 1)) ∧ (¬ (sx1 < sx0) → gT G a0 = (1, 11) ∧ wX10_isHeldBack X G a0 x3 (fun r41 G42 => (¬ r41 = 0 → k75 G42 a0 (x3 + 1)) ∧ (r41 = 0 → gT G42 a0 = (1, 11) ∧ gT G42 a0 = (1, 11) ∧ ∀ G83, G83 = sJ G42 355 a0 ((gJ G42 355 a0) ||| ((1 : Int64) <<< ((x3 : Int32).toInt64 &&& 63))) → gT G83 a0 = (1, 11) ∧ ∀ G84, G84 = sI G83 357 a0 x6 → gT G84 a0 = (1, 11) ∧ ∀ G85, G85 = sI G84 358 a0 x7 → k75 G85 a0 (x3 + 1))))
set_option maxRecDepth 20000 in
theorem bX10_gathers_269 {X : Xt} {K : Kt} {l : Launch} {G0 : Gt} {Pr : Gt → Prop} (B : BX X K l cX10_gathers 8 RX10 4 87 G0 none "gathers") {k75 : Gt → Nat → Int32 → Prop} (hk75 : ∀ (G : Gt) (a0 : Nat) (x3 : Int32), k75 G a0 x3 → WM X K (QM X K G0 (rV Pr) noX) G 75 [some (.ref a0), none, none, some (.int x3), none, none, none, none] []) {G : Gt} {a0 : Nat} {x3 : Int32} {x6 : Int32} {x7 : Int32} {sx0 : Int32} {sx1 : Int32} (h : wX10_gathers_269 X Pr k75 G a0 x3 x6 x7 sx0 sx1) : WM X K (QM X K G0 (rV Pr) noX) G 269 [some (.ref a0), none, none, some (.int x3), none, none, some (.int x6), some (.int x7)] [.int sx1, .int sx0] := by
  obtain ⟨hL, C, E0, hr, hnm, hex, hfl⟩ := id B
  unfold wX10_gathers_269 at h
  refine r_icmp_gt C 304 dX10_gathers_269 (by decide) (fun c => ?_) (fun c => ?_)
  · replace h := h.1 c
    refine r_iinc C 1 (lv' := [some (.ref a0), none, none, some (.int (x3 + 1)), none, none, some (.int x6), some (.int x7)]) dX10_gathers_304 rfl (by decide) rfl rfl ?_
    refine r_goto C 75 dX10_gathers_307 (by decide) ?_
    refine r_fg (lv' := [some (.ref a0), none, none, some (.int (x3 + 1)), none, none, none, none]) (show fgt _ _ from ⟨rfl, ⟨rfl, trivial⟩⟩) ?_
    exact hk75 _ _ _ h
  · replace h := h.2 c
    refine r_aloadR_n C 0 dX10_gathers_272 rfl rfl ?_
    refine r_iload_n C 3 dX10_gathers_273 rfl rfl ?_
    obtain ⟨ht, h⟩ := h
    refine r_callV C (r := (RX10, TX10, 19)) hL yw_X10_isHeldBack vw_RX10_114 rfl rfl ht rfl rfl (Nat.le_of_ble_eq_true rfl) ⟨(Nat.le_of_ble_eq_true rfl), (Nat.le_of_ble_eq_true rfl)⟩ (mX10_isHeldBack hfl h) rfl dX10_gathers_274 (kI (fun r41 G42 h => ?_)) kN
    refine r_if_ne C 304 dX10_gathers_277 (by decide) (fun c => ?_) (fun c => ?_)
    · replace h := h.1 c
      refine r_iinc C 1 (lv' := [some (.ref a0), none, none, some (.int (x3 + 1)), none, none, some (.int x6), some (.int x7)]) dX10_gathers_304 rfl (by decide) rfl rfl ?_
      refine r_goto C 75 dX10_gathers_307 (by decide) ?_
      refine r_fg (lv' := [some (.ref a0), none, none, some (.int (x3 + 1)), none, none, none, none]) (show fgt _ _ from ⟨rfl, ⟨rfl, trivial⟩⟩) ?_
      exact hk75 _ _ _ h
    · replace h := h.2 c
      refine r_aloadR_n C 0 dX10_gathers_280 rfl rfl ?_
      refine r_dup C dX10_gathers_281 rfl ?_
      obtain ⟨ht, h⟩ := h
      refine r_getJ C fw_RX10_94 rfl ht dX10_gathers_282 ?_
      refine r_lconst C 1 dX10_gathers_285 (by decide) ?_
      refine r_iload_n C 3 dX10_gathers_286 rfl rfl ?_
      refine r_lshl C dX10_gathers_287 ?_
      refine r_lor C dX10_gathers_288 ?_
      obtain ⟨ht, h⟩ := h
      refine r_putJ C cw_11 fp_RX10_94 rfl ht dX10_gathers_289 ?_
      refine r_nm (fun G83 hG83 => ?_)
      replace h := h G83 hG83
      refine r_aloadR_n C 0 dX10_gathers_292 rfl rfl ?_
      refine r_iload C dX10_gathers_293 rfl ?_
      obtain ⟨ht, h⟩ := h
      refine r_putI C cw_11 fp_RX10_108 rfl ht dX10_gathers_295 ?_
      refine r_nm (fun G84 hG84 => ?_)
      replace h := h G84 hG84
      refine r_aloadR_n C 0 dX10_gathers_298 rfl rfl ?_
      refine r_iload C dX10_gathers_299 rfl ?_
      obtain ⟨ht, h⟩ := h
      refine r_putI C cw_11 fp_RX10_111 rfl ht dX10_gathers_301 ?_
      refine r_nm (fun G85 hG85 => ?_)
      replace h := h G85 hG85
      refine r_iinc C 1 (lv' := [some (.ref a0), none, none, some (.int (x3 + 1)), none, none, some (.int x6), some (.int x7)]) dX10_gathers_304 rfl (by decide) rfl rfl ?_
      refine r_goto C 75 dX10_gathers_307 (by decide) ?_
      refine r_fg (lv' := [some (.ref a0), none, none, some (.int (x3 + 1)), none, none, none, none]) (show fgt _ _ from ⟨rfl, ⟨rfl, trivial⟩⟩) ?_
      exact hk75 _ _ _ h
def wX10_gathers_243 (X : Xt) (Pr : Gt → Prop) (k75 : Gt → Nat → Int32 → Prop) (G : Gt) (a0 : Nat) (x3 : Int32) (x5 : Int32) (x6 : Int32) (sx0 : Int32) : Prop := (x5 = 0 → k75 G a0 (x3 + 1)) ∧ (¬ (x5 = 0) → gT G a0 = (1, 11) ∧ ((gI G 359 a0) = 0 → wX10_gathers_269 X Pr k75 G a0 x3 x6 sx0 (sx0 - x6) (16 : Int32)) ∧ (¬ ((gI G 359 a0) = 0) → wX10_gathers_269 X Pr k75 G a0 x3 x6 sx0 (sx0 - x6) (8 : Int32)))
set_option maxRecDepth 20000 in
theorem bX10_gathers_243 {X : Xt} {K : Kt} {l : Launch} {G0 : Gt} {Pr : Gt → Prop} (B : BX X K l cX10_gathers 8 RX10 4 87 G0 none "gathers") {k75 : Gt → Nat → Int32 → Prop} (hk75 : ∀ (G : Gt) (a0 : Nat) (x3 : Int32), k75 G a0 x3 → WM X K (QM X K G0 (rV Pr) noX) G 75 [some (.ref a0), none, none, some (.int x3), none, none, none, none] []) {G : Gt} {a0 : Nat} {x3 : Int32} {x5 : Int32} {x6 : Int32} {sx0 : Int32} (h : wX10_gathers_243 X Pr k75 G a0 x3 x5 x6 sx0) : WM X K (QM X K G0 (rV Pr) noX) G 243 [some (.ref a0), none, none, some (.int x3), none, some (.int x5), some (.int x6), none] [.int sx0] := by
  obtain ⟨hL, C, E0, hr, hnm, hex, hfl⟩ := id B
  unfold wX10_gathers_243 at h
  refine r_istore C (lv' := [some (.ref a0), none, none, some (.int x3), none, some (.int x5), some (.int x6), some (.int sx0)]) dX10_gathers_243 (Nat.le_of_ble_eq_true rfl) rfl rfl ?_
  refine r_iload C dX10_gathers_245 rfl ?_
  refine r_if_eq C 304 dX10_gathers_247 (by decide) (fun c => ?_) (fun c => ?_)
  · replace h := h.1 c
    refine r_iinc C 1 (lv' := [some (.ref a0), none, none, some (.int (x3 + 1)), none, some (.int x5), some (.int x6), some (.int sx0)]) dX10_gathers_304 rfl (by decide) rfl rfl ?_
    refine r_goto C 75 dX10_gathers_307 (by decide) ?_
    refine r_fg (lv' := [some (.ref a0), none, none, some (.int (x3 + 1)), none, none, none, none]) (show fgt _ _ from ⟨rfl, ⟨rfl, trivial⟩⟩) ?_
    exact hk75 _ _ _ h
  · replace h := h.2 c
    refine r_iload C dX10_gathers_250 rfl ?_
    refine r_iload C dX10_gathers_252 rfl ?_
    refine r_isub C dX10_gathers_254 ?_
    refine r_aloadR_n C 0 dX10_gathers_255 rfl rfl ?_
    obtain ⟨ht, h⟩ := h
    refine r_getI C fw_RX10_101 rfl ht dX10_gathers_256 ?_
    refine r_if_eq C 267 dX10_gathers_259 (by decide) (fun c => ?_) (fun c => ?_)
    · replace h := h.1 c
      refine r_bipush C 16 dX10_gathers_267 (by decide) ?_
      refine r_fg (lv' := [some (.ref a0), none, none, some (.int x3), none, none, some (.int x6), some (.int sx0)]) (show fgt _ _ from ⟨rfl, ⟨rfl, ⟨rfl, ⟨rfl, trivial⟩⟩⟩⟩) ?_
      exact bX10_gathers_269 B hk75 h
    · replace h := h.2 c
      refine r_bipush C 8 dX10_gathers_262 (by decide) ?_
      refine r_goto C 269 dX10_gathers_264 (by decide) ?_
      refine r_fg (lv' := [some (.ref a0), none, none, some (.int x3), none, none, some (.int x6), some (.int sx0)]) (show fgt _ _ from ⟨rfl, ⟨rfl, ⟨rfl, ⟨rfl, trivial⟩⟩⟩⟩) ?_
      exact bX10_gathers_269 B hk75 h
def wX10_gathers_217 (X : Xt) (Pr : Gt → Prop) (k75 : Gt → Nat → Int32 → Prop) (G : Gt) (a0 : Nat) (x3 : Int32) (x5 : Int32) (sx0 : Int32) : Prop := gT G a0 = (1, 11) ∧ wX10_end X G a0 x3 (fun r1 G2 => gT G2 a0 = (1, 11) ∧ (r1 ≤ (gI G2 358 a0) → gT G2 a0 = (1, 11) ∧ wX10_gathers_243 X Pr k75 G2 a0 x3 x5 sx0 (gI G2 358 a0)) ∧ (¬ (r1 ≤ (gI G2 358 a0)) → gT G2 a0 = (1, 11) ∧ wX10_end X G2 a0 x3 (fun r43 G44 => wX10_gathers_243 X Pr k75 G44 a0 x3 x5 sx0 r43)))
set_option maxRecDepth 20000 in
theorem bX10_gathers_217 {X : Xt} {K : Kt} {l : Launch} {G0 : Gt} {Pr : Gt → Prop} (B : BX X K l cX10_gathers 8 RX10 4 87 G0 none "gathers") {k75 : Gt → Nat → Int32 → Prop} (hk75 : ∀ (G : Gt) (a0 : Nat) (x3 : Int32), k75 G a0 x3 → WM X K (QM X K G0 (rV Pr) noX) G 75 [some (.ref a0), none, none, some (.int x3), none, none, none, none] []) {G : Gt} {a0 : Nat} {x3 : Int32} {x5 : Int32} {sx0 : Int32} (h : wX10_gathers_217 X Pr k75 G a0 x3 x5 sx0) : WM X K (QM X K G0 (rV Pr) noX) G 217 [some (.ref a0), none, none, some (.int x3), none, some (.int x5), none, none] [.int sx0] := by
  obtain ⟨hL, C, E0, hr, hnm, hex, hfl⟩ := id B
  unfold wX10_gathers_217 at h
  refine r_istore C (lv' := [some (.ref a0), none, none, some (.int x3), none, some (.int x5), some (.int sx0), none]) dX10_gathers_217 (Nat.le_of_ble_eq_true rfl) rfl rfl ?_
  refine r_aloadR_n C 0 dX10_gathers_219 rfl rfl ?_
  refine r_iload_n C 3 dX10_gathers_220 rfl rfl ?_
  obtain ⟨ht, h⟩ := h
  refine r_callV C (r := (RX10, TX10, 19)) hL yw_X10_end vw_RX10_82 rfl rfl ht rfl rfl (Nat.le_of_ble_eq_true rfl) ⟨(Nat.le_of_ble_eq_true rfl), (Nat.le_of_ble_eq_true rfl)⟩ (mX10_end hfl h) rfl dX10_gathers_221 (kI (fun r1 G2 h => ?_)) kN
  refine r_aloadR_n C 0 dX10_gathers_224 rfl rfl ?_
  obtain ⟨ht, h⟩ := h
  refine r_getI C fw_RX10_111 rfl ht dX10_gathers_225 ?_
  refine r_icmp_le C 239 dX10_gathers_228 (by decide) (fun c => ?_) (fun c => ?_)
  · replace h := h.1 c
    refine r_aloadR_n C 0 dX10_gathers_239 rfl rfl ?_
    obtain ⟨ht, h⟩ := h
    refine r_getI C fw_RX10_111 rfl ht dX10_gathers_240 ?_
    exact bX10_gathers_243 B hk75 h
  · replace h := h.2 c
    refine r_aloadR_n C 0 dX10_gathers_231 rfl rfl ?_
    refine r_iload_n C 3 dX10_gathers_232 rfl rfl ?_
    obtain ⟨ht, h⟩ := h
    refine r_callV C (r := (RX10, TX10, 19)) hL yw_X10_end vw_RX10_82 rfl rfl ht rfl rfl (Nat.le_of_ble_eq_true rfl) ⟨(Nat.le_of_ble_eq_true rfl), (Nat.le_of_ble_eq_true rfl)⟩ (mX10_end hfl h) rfl dX10_gathers_233 (kI (fun r43 G44 h => ?_)) kN
    refine r_goto C 243 dX10_gathers_236 (by decide) ?_
    exact bX10_gathers_243 B hk75 h
def wX10_gathers_183 (X : Xt) (Pr : Gt → Prop) (k75 : Gt → Nat → Int32 → Prop) (G : Gt) (a0 : Nat) (x3 : Int32) (x4 : Int32) (sx0 : Int32) : Prop := gT G a0 = (1, 11) ∧ ∃ b1, gR G 352 a0 = some b1 ∧ (gT G b1).1 = 2 ∧ vp_in (x4 + 2) (gT G b1).2 ∧ gT G a0 = (1, 11) ∧ ((gI G 357 a0) ≤ (gA G b1 (x4 + 2).toNatClampNeg) → gT G a0 = (1, 11) ∧ wX10_gathers_217 X Pr k75 G a0 x3 sx0 (gI G 357 a0)) ∧ (¬ ((gI G 357 a0) ≤ (gA G b1 (x4 + 2).toNatClampNeg)) → gT G a0 = (1, 11) ∧ ∃ b42, gR G 352 a0 = some b42 ∧ (gT G b42).1 = 2 ∧ vp_in (x4 + 2) (gT G b42).2 ∧ wX10_gathers_217 X Pr k75 G a0 x3 sx0 (gA G b42 (x4 + 2).toNatClampNeg))
set_option maxRecDepth 20000 in
theorem bX10_gathers_183 {X : Xt} {K : Kt} {l : Launch} {G0 : Gt} {Pr : Gt → Prop} (B : BX X K l cX10_gathers 8 RX10 4 87 G0 none "gathers") {k75 : Gt → Nat → Int32 → Prop} (hk75 : ∀ (G : Gt) (a0 : Nat) (x3 : Int32), k75 G a0 x3 → WM X K (QM X K G0 (rV Pr) noX) G 75 [some (.ref a0), none, none, some (.int x3), none, none, none, none] []) {G : Gt} {a0 : Nat} {x3 : Int32} {x4 : Int32} {sx0 : Int32} (h : wX10_gathers_183 X Pr k75 G a0 x3 x4 sx0) : WM X K (QM X K G0 (rV Pr) noX) G 183 [some (.ref a0), none, none, some (.int x3), some (.int x4), none, none, none] [.int sx0] := by
  obtain ⟨hL, C, E0, hr, hnm, hex, hfl⟩ := id B
  unfold wX10_gathers_183 at h
  refine r_istore C (lv' := [some (.ref a0), none, none, some (.int x3), some (.int x4), some (.int sx0), none, none]) dX10_gathers_183 (Nat.le_of_ble_eq_true rfl) rfl rfl ?_
  refine r_aloadR_n C 0 dX10_gathers_185 rfl rfl ?_
  obtain ⟨ht, h⟩ := h
  obtain ⟨b1, hb, h⟩ := h
  refine r_getR C fw_RX10_7 rfl ht hb dX10_gathers_186 ?_
  refine r_iload C dX10_gathers_189 rfl ?_
  refine r_iconst C 2 dX10_gathers_191 (by decide) ?_
  refine r_iadd C dX10_gathers_192 ?_
  obtain ⟨ht, hi, h⟩ := h
  refine r_ialdP C ht hi dX10_gathers_193 ?_
  refine r_aloadR_n C 0 dX10_gathers_194 rfl rfl ?_
  obtain ⟨ht, h⟩ := h
  refine r_getI C fw_RX10_108 rfl ht dX10_gathers_195 ?_
  refine r_icmp_ge C 213 dX10_gathers_198 (by decide) (fun c => ?_) (fun c => ?_)
  · replace h := h.1 c
    refine r_aloadR_n C 0 dX10_gathers_213 rfl rfl ?_
    obtain ⟨ht, h⟩ := h
    refine r_getI C fw_RX10_108 rfl ht dX10_gathers_214 ?_
    refine r_fg (lv' := [some (.ref a0), none, none, some (.int x3), none, some (.int sx0), none, none]) (show fgt _ _ from ⟨rfl, ⟨rfl, ⟨rfl, trivial⟩⟩⟩) ?_
    exact bX10_gathers_217 B hk75 h
  · replace h := h.2 c
    refine r_aloadR_n C 0 dX10_gathers_201 rfl rfl ?_
    obtain ⟨ht, h⟩ := h
    obtain ⟨b42, hb, h⟩ := h
    refine r_getR C fw_RX10_7 rfl ht hb dX10_gathers_202 ?_
    refine r_iload C dX10_gathers_205 rfl ?_
    refine r_iconst C 2 dX10_gathers_207 (by decide) ?_
    refine r_iadd C dX10_gathers_208 ?_
    obtain ⟨ht, hi, h⟩ := h
    refine r_ialdP C ht hi dX10_gathers_209 ?_
    refine r_goto C 217 dX10_gathers_210 (by decide) ?_
    refine r_fg (lv' := [some (.ref a0), none, none, some (.int x3), none, some (.int sx0), none, none]) (show fgt _ _ from ⟨rfl, ⟨rfl, ⟨rfl, trivial⟩⟩⟩) ?_
    exact bX10_gathers_217 B hk75 h
def wX10_gathers_147 (X : Xt) (Pr : Gt → Prop) (k75 : Gt → Nat → Int32 → Prop) (G : Gt) (a0 : Nat) (x3 : Int32) (x4 : Int32) (sx0 : Int32) (sx1 : Int32) : Prop := (¬ sx0 = sx1 → wX10_gathers_183 X Pr k75 G a0 x3 x4 (0 : Int32)) ∧ (sx0 = sx1 → gT G a0 = (1, 11) ∧ ∃ b41, gR G 352 a0 = some b41 ∧ (gT G b41).1 = 2 ∧ vp_in (x4 + 2) (gT G b41).2 ∧ gT G a0 = (1, 11) ∧ ((gI G 358 a0) < (gA G b41 (x4 + 2).toNatClampNeg) → wX10_gathers_183 X Pr k75 G a0 x3 x4 (0 : Int32)) ∧ (¬ ((gI G 358 a0) < (gA G b41 (x4 + 2).toNatClampNeg)) → gT G a0 = (1, 11) ∧ wX10_end X G a0 x3 (fun r82 G83 => gT G83 a0 = (1, 11) ∧ (r82 < (gI G83 357 a0) → wX10_gathers_183 X Pr k75 G83 a0 x3 x4 (0 : Int32)) ∧ (¬ (r82 < (gI G83 357 a0)) → wX10_gathers_183 X Pr k75 G83 a0 x3 x4 (1 : Int32)))))
set_option maxRecDepth 20000 in
theorem bX10_gathers_147 {X : Xt} {K : Kt} {l : Launch} {G0 : Gt} {Pr : Gt → Prop} (B : BX X K l cX10_gathers 8 RX10 4 87 G0 none "gathers") {k75 : Gt → Nat → Int32 → Prop} (hk75 : ∀ (G : Gt) (a0 : Nat) (x3 : Int32), k75 G a0 x3 → WM X K (QM X K G0 (rV Pr) noX) G 75 [some (.ref a0), none, none, some (.int x3), none, none, none, none] []) {G : Gt} {a0 : Nat} {x3 : Int32} {x4 : Int32} {sx0 : Int32} {sx1 : Int32} (h : wX10_gathers_147 X Pr k75 G a0 x3 x4 sx0 sx1) : WM X K (QM X K G0 (rV Pr) noX) G 147 [some (.ref a0), none, none, some (.int x3), some (.int x4), none, none, none] [.int sx1, .int sx0] := by
  obtain ⟨hL, C, E0, hr, hnm, hex, hfl⟩ := id B
  unfold wX10_gathers_147 at h
  refine r_icmp_ne C 182 dX10_gathers_147 (by decide) (fun c => ?_) (fun c => ?_)
  · replace h := h.1 c
    refine r_iconst C 0 dX10_gathers_182 (by decide) ?_
    exact bX10_gathers_183 B hk75 h
  · replace h := h.2 c
    refine r_aloadR_n C 0 dX10_gathers_150 rfl rfl ?_
    obtain ⟨ht, h⟩ := h
    obtain ⟨b41, hb, h⟩ := h
    refine r_getR C fw_RX10_7 rfl ht hb dX10_gathers_151 ?_
    refine r_iload C dX10_gathers_154 rfl ?_
    refine r_iconst C 2 dX10_gathers_156 (by decide) ?_
    refine r_iadd C dX10_gathers_157 ?_
    obtain ⟨ht, hi, h⟩ := h
    refine r_ialdP C ht hi dX10_gathers_158 ?_
    refine r_aloadR_n C 0 dX10_gathers_159 rfl rfl ?_
    obtain ⟨ht, h⟩ := h
    refine r_getI C fw_RX10_111 rfl ht dX10_gathers_160 ?_
    refine r_icmp_gt C 182 dX10_gathers_163 (by decide) (fun c => ?_) (fun c => ?_)
    · replace h := h.1 c
      refine r_iconst C 0 dX10_gathers_182 (by decide) ?_
      exact bX10_gathers_183 B hk75 h
    · replace h := h.2 c
      refine r_aloadR_n C 0 dX10_gathers_166 rfl rfl ?_
      refine r_iload_n C 3 dX10_gathers_167 rfl rfl ?_
      obtain ⟨ht, h⟩ := h
      refine r_callV C (r := (RX10, TX10, 19)) hL yw_X10_end vw_RX10_82 rfl rfl ht rfl rfl (Nat.le_of_ble_eq_true rfl) ⟨(Nat.le_of_ble_eq_true rfl), (Nat.le_of_ble_eq_true rfl)⟩ (mX10_end hfl h) rfl dX10_gathers_168 (kI (fun r82 G83 h => ?_)) kN
      refine r_aloadR_n C 0 dX10_gathers_171 rfl rfl ?_
      obtain ⟨ht, h⟩ := h
      refine r_getI C fw_RX10_108 rfl ht dX10_gathers_172 ?_
      refine r_icmp_lt C 182 dX10_gathers_175 (by decide) (fun c => ?_) (fun c => ?_)
      · replace h := h.1 c
        refine r_iconst C 0 dX10_gathers_182 (by decide) ?_
        exact bX10_gathers_183 B hk75 h
      · replace h := h.2 c
        refine r_iconst C 1 dX10_gathers_178 (by decide) ?_
        refine r_goto C 183 dX10_gathers_179 (by decide) ?_
        exact bX10_gathers_183 B hk75 h
def wX10_gathers_75 (X : Xt) (Pr : Gt → Prop) (k75 : Gt → Nat → Int32 → Prop) (G : Gt) (a0 : Nat) (x3 : Int32) : Prop := gT G a0 = (1, 11) ∧ ∃ b1, gR G 352 a0 = some b1 ∧ (gT G b1).1 = 2 ∧ vp_in 6 (gT G b1).2 ∧ ((gA G b1 (6 : Int32).toNatClampNeg) ≤ x3 → Pr G) ∧ (¬ ((gA G b1 (6 : Int32).toNatClampNeg) ≤ x3) → gT G a0 = (1, 11) ∧ ∃ b42, gR G 352 a0 = some b42 ∧ (gT G b42).1 = 2 ∧ vp_in 5 (gT G b42).2 ∧ (¬ (gA G b42 (5 : Int32).toNatClampNeg) = 1 → Pr G) ∧ ((gA G b42 (5 : Int32).toNatClampNeg) = 1 → wX10_requestAt X G x3 (fun r83 G84 => gT G84 a0 = (1, 11) ∧ wX10_isWaiting X G84 a0 x3 (fun r85 G86 => (r85 = 0 → wX10_gathers_183 X Pr k75 G86 a0 x3 r83 (0 : Int32)) ∧ (¬ (r85 = 0) → gT G86 a0 = (1, 11) ∧ ∃ b127, gR G86 352 a0 = some b127 ∧ (gT G86 b127).1 = 2 ∧ vp_in (r83 + 1) (gT G86 b127).2 ∧ gT G86 a0 = (1, 11) ∧ (¬ (gA G86 b127 (r83 + 1).toNatClampNeg) = (gI G86 360 a0) → wX10_gathers_183 X Pr k75 G86 a0 x3 r83 (0 : Int32)) ∧ ((gA G86 b127 (r83 + 1).toNatClampNeg) = (gI G86 360 a0) → gT G86 a0 = (1, 11) ∧ ∃ b168, gR G86 352 a0 = some b168 ∧ (gT G86 b168).1 = 2 ∧ vp_in (r83 + 4) (gT G86 b168).2 ∧ gT G86 a0 = (1, 11) ∧ ((gI G86 359 a0) = 0 → wX10_gathers_147 X Pr k75 G86 a0 x3 r83 (gA G86 b168 (r83 + 4).toNatClampNeg) (0 : Int32)) ∧ (¬ ((gI G86 359 a0) = 0) → wX10_gathers_147 X Pr k75 G86 a0 x3 r83 (gA G86 b168 (r83 + 4).toNatClampNeg) (1 : Int32))))))))
set_option maxRecDepth 20000 in
theorem bX10_gathers_75 {X : Xt} {K : Kt} {l : Launch} {G0 : Gt} {Pr : Gt → Prop} (B : BX X K l cX10_gathers 8 RX10 4 87 G0 none "gathers") {k75 : Gt → Nat → Int32 → Prop} (hk75 : ∀ (G : Gt) (a0 : Nat) (x3 : Int32), k75 G a0 x3 → WM X K (QM X K G0 (rV Pr) noX) G 75 [some (.ref a0), none, none, some (.int x3), none, none, none, none] []) {G : Gt} {a0 : Nat} {x3 : Int32} (h : wX10_gathers_75 X Pr k75 G a0 x3) : WM X K (QM X K G0 (rV Pr) noX) G 75 [some (.ref a0), none, none, some (.int x3), none, none, none, none] [] := by
  obtain ⟨hL, C, E0, hr, hnm, hex, hfl⟩ := id B
  unfold wX10_gathers_75 at h
  refine r_iload_n C 3 dX10_gathers_75 rfl rfl ?_
  refine r_aloadR_n C 0 dX10_gathers_76 rfl rfl ?_
  obtain ⟨ht, h⟩ := h
  obtain ⟨b1, hb, h⟩ := h
  refine r_getR C fw_RX10_7 rfl ht hb dX10_gathers_77 ?_
  refine r_bipush C 6 dX10_gathers_80 (by decide) ?_
  obtain ⟨ht, hi, h⟩ := h
  refine r_ialdP C ht hi dX10_gathers_82 ?_
  refine r_icmp_ge C 310 dX10_gathers_83 (by decide) (fun c => ?_) (fun c => ?_)
  · replace h := h.1 c
    exact r_vret C E0 hr ⟨rfl, h⟩ dX10_gathers_310
  · replace h := h.2 c
    refine r_aloadR_n C 0 dX10_gathers_86 rfl rfl ?_
    obtain ⟨ht, h⟩ := h
    obtain ⟨b42, hb, h⟩ := h
    refine r_getR C fw_RX10_7 rfl ht hb dX10_gathers_87 ?_
    refine r_iconst C 5 dX10_gathers_90 (by decide) ?_
    obtain ⟨ht, hi, h⟩ := h
    refine r_ialdP C ht hi dX10_gathers_91 ?_
    refine r_iconst C 1 dX10_gathers_92 (by decide) ?_
    refine r_icmp_ne C 310 dX10_gathers_93 (by decide) (fun c => ?_) (fun c => ?_)
    · replace h := h.1 c
      exact r_vret C E0 hr ⟨rfl, h⟩ dX10_gathers_310
    · replace h := h.2 c
      refine r_iload_n C 3 dX10_gathers_96 rfl rfl ?_
      refine r_callS C hL yw_X10_requestAt sw_RX10_61 rfl rfl (Nat.le_of_ble_eq_true rfl) ⟨(Nat.le_of_ble_eq_true rfl), (Nat.le_of_ble_eq_true rfl)⟩ (mX10_requestAt hfl h) rfl dX10_gathers_97 (kI (fun r83 G84 h => ?_)) kN
      refine r_istore C (lv' := [some (.ref a0), none, none, some (.int x3), some (.int r83), none, none, none]) dX10_gathers_100 (Nat.le_of_ble_eq_true rfl) rfl rfl ?_
      refine r_aloadR_n C 0 dX10_gathers_102 rfl rfl ?_
      refine r_iload_n C 3 dX10_gathers_103 rfl rfl ?_
      obtain ⟨ht, h⟩ := h
      refine r_callV C (r := (RX10, TX10, 19)) hL yw_X10_isWaiting vw_RX10_85 rfl rfl ht rfl rfl (Nat.le_of_ble_eq_true rfl) ⟨(Nat.le_of_ble_eq_true rfl), (Nat.le_of_ble_eq_true rfl)⟩ (mX10_isWaiting hfl h) rfl dX10_gathers_104 (kI (fun r85 G86 h => ?_)) kN
      refine r_if_eq C 182 dX10_gathers_107 (by decide) (fun c => ?_) (fun c => ?_)
      · replace h := h.1 c
        refine r_iconst C 0 dX10_gathers_182 (by decide) ?_
        exact bX10_gathers_183 B hk75 h
      · replace h := h.2 c
        refine r_aloadR_n C 0 dX10_gathers_110 rfl rfl ?_
        obtain ⟨ht, h⟩ := h
        obtain ⟨b127, hb, h⟩ := h
        refine r_getR C fw_RX10_7 rfl ht hb dX10_gathers_111 ?_
        refine r_iload C dX10_gathers_114 rfl ?_
        refine r_iconst C 1 dX10_gathers_116 (by decide) ?_
        refine r_iadd C dX10_gathers_117 ?_
        obtain ⟨ht, hi, h⟩ := h
        refine r_ialdP C ht hi dX10_gathers_118 ?_
        refine r_aloadR_n C 0 dX10_gathers_119 rfl rfl ?_
        obtain ⟨ht, h⟩ := h
        refine r_getI C fw_RX10_91 rfl ht dX10_gathers_120 ?_
        refine r_icmp_ne C 182 dX10_gathers_123 (by decide) (fun c => ?_) (fun c => ?_)
        · replace h := h.1 c
          refine r_iconst C 0 dX10_gathers_182 (by decide) ?_
          exact bX10_gathers_183 B hk75 h
        · replace h := h.2 c
          refine r_aloadR_n C 0 dX10_gathers_126 rfl rfl ?_
          obtain ⟨ht, h⟩ := h
          obtain ⟨b168, hb, h⟩ := h
          refine r_getR C fw_RX10_7 rfl ht hb dX10_gathers_127 ?_
          refine r_iload C dX10_gathers_130 rfl ?_
          refine r_iconst C 4 dX10_gathers_132 (by decide) ?_
          refine r_iadd C dX10_gathers_133 ?_
          obtain ⟨ht, hi, h⟩ := h
          refine r_ialdP C ht hi dX10_gathers_134 ?_
          refine r_aloadR_n C 0 dX10_gathers_135 rfl rfl ?_
          obtain ⟨ht, h⟩ := h
          refine r_getI C fw_RX10_101 rfl ht dX10_gathers_136 ?_
          refine r_if_eq C 146 dX10_gathers_139 (by decide) (fun c => ?_) (fun c => ?_)
          · replace h := h.1 c
            refine r_iconst C 0 dX10_gathers_146 (by decide) ?_
            exact bX10_gathers_147 B hk75 h
          · replace h := h.2 c
            refine r_iconst C 1 dX10_gathers_142 (by decide) ?_
            refine r_goto C 147 dX10_gathers_143 (by decide) ?_
            exact bX10_gathers_147 B hk75 h
theorem lX10_gathers_75 {X : Xt} {K : Kt} {l : Launch} {G0 : Gt} {Pr : Gt → Prop} (B : BX X K l cX10_gathers 8 RX10 4 87 G0 none "gathers") (I : Gt → Nat → Int32 → Prop) (μ : Gt → Nat → Int32 → Nat) (hS : ∀ (G : Gt) (a0 : Nat) (x3 : Int32), I G a0 x3 → wX10_gathers_75 X Pr (fun G' a0' x3' => I G' a0' x3' ∧ μ G' a0' x3' < μ G a0 x3) G a0 x3) : ∀ (n : Nat) (G : Gt) (a0 : Nat) (x3 : Int32), μ G a0 x3 < n → I G a0 x3 → WM X K (QM X K G0 (rV Pr) noX) G 75 [some (.ref a0), none, none, some (.int x3), none, none, none, none] [] := by
  intro n
  induction n with
  | zero => intro G a0 x3 hm; exact absurd hm (Nat.not_lt_zero _)
  | succ n ih =>
    intro G a0 x3 hm hi
    exact bX10_gathers_75 B (fun G' a0' x3' hk => ih G' a0' x3' (Nat.lt_of_lt_of_le hk.2 (Nat.le_of_lt_succ hm)) hk.1) (hS G a0 x3 hi)
def wX10_gathers (X : Xt) (G : Gt) (a0 : Nat) (x1 : Int32) (Pr : Gt → Prop) : Prop := wX10_requestAt X G x1 (fun r1 G2 => gT G2 a0 = (1, 11) ∧ ∀ G3, G3 = sI G2 356 a0 x1 → gT G3 a0 = (1, 11) ∧ ∀ G4, G4 = sJ G3 355 a0 ((1 : Int64) <<< ((x1 : Int32).toInt64 &&& 63)) → gT G4 a0 = (1, 11) ∧ ∃ b5, gR G4 352 a0 = some b5 ∧ (gT G4 b5).1 = 2 ∧ vp_in (r1 + 1) (gT G4 b5).2 ∧ gT G4 a0 = (1, 11) ∧ ∀ G6, G6 = sI G4 360 a0 (gA G4 b5 (r1 + 1).toNatClampNeg) → gT G6 a0 = (1, 11) ∧ ∃ b7, gR G6 352 a0 = some b7 ∧ (gT G6 b7).1 = 2 ∧ vp_in (r1 + 2) (gT G6 b7).2 ∧ gT G6 a0 = (1, 11) ∧ ∀ G8, G8 = sI G6 357 a0 (gA G6 b7 (r1 + 2).toNatClampNeg) → gT G8 a0 = (1, 11) ∧ wX10_end X G8 a0 x1 (fun r9 G10 => gT G10 a0 = (1, 11) ∧ ∀ G11, G11 = sI G10 358 a0 r9 → gT G11 a0 = (1, 11) ∧ ∃ b12, gR G11 352 a0 = some b12 ∧ (gT G11 b12).1 = 2 ∧ vp_in (r1 + 4) (gT G11 b12).2 ∧ (¬ (gA G11 b12 (r1 + 4).toNatClampNeg) = 1 → gT G11 a0 = (1, 11) ∧ ∀ G33, G33 = sI G11 359 a0 0 → ∃ (I : Gt → Nat → Int32 → Prop) (μ : Gt → Nat → Int32 → Nat), I G33 a0 (x1 + 1) ∧ ∀ (G : Gt) (a0 : Nat) (x3 : Int32), I G a0 x3 → wX10_gathers_75 X Pr (fun G' a0' x3' => I G' a0' x3' ∧ μ G' a0' x3' < μ G a0 x3) G a0 x3) ∧ ((gA G11 b12 (r1 + 4).toNatClampNeg) = 1 → gT G11 a0 = (1, 11) ∧ ∀ G53, G53 = sI G11 359 a0 1 → ∃ (I : Gt → Nat → Int32 → Prop) (μ : Gt → Nat → Int32 → Nat), I G53 a0 (x1 + 1) ∧ ∀ (G : Gt) (a0 : Nat) (x3 : Int32), I G a0 x3 → wX10_gathers_75 X Pr (fun G' a0' x3' => I G' a0' x3' ∧ μ G' a0' x3' < μ G a0 x3) G a0 x3)))
set_option maxRecDepth 20000 in
theorem mX10_gathers {X : Xt} {l : Launch} (hfl : l.stackTraces = false) {G : Gt} {a0 : Nat} {x1 : Int32} {Pr : Gt → Prop} (h : wX10_gathers X G a0 x1 Pr) : Mc X l yX10_gathers (.code yX10_gathers cX10_gathers 8 none) 4 87 [.ref a0, .int x1] G (rV Pr) noX := by
  refine Mc.of (by decide +kernel) hfl [some (.ref a0), some (.int x1), none, none, none, none, none, none] rfl (Nat.le_of_ble_eq_true rfl) rfl ?_
  intro K hL C E0 hr hnm hex
  have B : BX X K l cX10_gathers 8 RX10 4 87 G none "gathers" := ⟨hL, C, E0, hr, hnm, hex, hfl⟩
  have C : Cx X K cX10_gathers 8 RX10 4 87 := C
  unfold wX10_gathers at h
  refine r_iload_n C 1 dX10_gathers_0 rfl rfl ?_
  refine r_callS C hL yw_X10_requestAt sw_RX10_61 rfl rfl (Nat.le_of_ble_eq_true rfl) ⟨(Nat.le_of_ble_eq_true rfl), (Nat.le_of_ble_eq_true rfl)⟩ (mX10_requestAt hfl h) rfl dX10_gathers_1 (kI (fun r1 G2 h => ?_)) kN
  refine r_istore_n C 2 (lv' := [some (.ref a0), some (.int x1), some (.int r1), none, none, none, none, none]) dX10_gathers_4 rfl (Nat.le_of_ble_eq_true rfl) rfl rfl ?_
  refine r_aloadR_n C 0 dX10_gathers_5 rfl rfl ?_
  refine r_iload_n C 1 dX10_gathers_6 rfl rfl ?_
  obtain ⟨ht, h⟩ := h
  refine r_putI C cw_11 fp_RX10_105 rfl ht dX10_gathers_7 ?_
  refine r_nm (fun G3 hG3 => ?_)
  replace h := h G3 hG3
  refine r_aloadR_n C 0 dX10_gathers_10 rfl rfl ?_
  refine r_lconst C 1 dX10_gathers_11 (by decide) ?_
  refine r_iload_n C 1 dX10_gathers_12 rfl rfl ?_
  refine r_lshl C dX10_gathers_13 ?_
  obtain ⟨ht, h⟩ := h
  refine r_putJ C cw_11 fp_RX10_94 rfl ht dX10_gathers_14 ?_
  refine r_nm (fun G4 hG4 => ?_)
  replace h := h G4 hG4
  refine r_aloadR_n C 0 dX10_gathers_17 rfl rfl ?_
  refine r_aloadR_n C 0 dX10_gathers_18 rfl rfl ?_
  obtain ⟨ht, h⟩ := h
  obtain ⟨b5, hb, h⟩ := h
  refine r_getR C fw_RX10_7 rfl ht hb dX10_gathers_19 ?_
  refine r_iload_n C 2 dX10_gathers_22 rfl rfl ?_
  refine r_iconst C 1 dX10_gathers_23 (by decide) ?_
  refine r_iadd C dX10_gathers_24 ?_
  obtain ⟨ht, hi, h⟩ := h
  refine r_ialdP C ht hi dX10_gathers_25 ?_
  obtain ⟨ht, h⟩ := h
  refine r_putI C cw_11 fp_RX10_91 rfl ht dX10_gathers_26 ?_
  refine r_nm (fun G6 hG6 => ?_)
  replace h := h G6 hG6
  refine r_aloadR_n C 0 dX10_gathers_29 rfl rfl ?_
  refine r_aloadR_n C 0 dX10_gathers_30 rfl rfl ?_
  obtain ⟨ht, h⟩ := h
  obtain ⟨b7, hb, h⟩ := h
  refine r_getR C fw_RX10_7 rfl ht hb dX10_gathers_31 ?_
  refine r_iload_n C 2 dX10_gathers_34 rfl rfl ?_
  refine r_iconst C 2 dX10_gathers_35 (by decide) ?_
  refine r_iadd C dX10_gathers_36 ?_
  obtain ⟨ht, hi, h⟩ := h
  refine r_ialdP C ht hi dX10_gathers_37 ?_
  obtain ⟨ht, h⟩ := h
  refine r_putI C cw_11 fp_RX10_108 rfl ht dX10_gathers_38 ?_
  refine r_nm (fun G8 hG8 => ?_)
  replace h := h G8 hG8
  refine r_aloadR_n C 0 dX10_gathers_41 rfl rfl ?_
  refine r_aloadR_n C 0 dX10_gathers_42 rfl rfl ?_
  refine r_iload_n C 1 dX10_gathers_43 rfl rfl ?_
  obtain ⟨ht, h⟩ := h
  refine r_callV C (r := (RX10, TX10, 19)) hL yw_X10_end vw_RX10_82 rfl rfl ht rfl rfl (Nat.le_of_ble_eq_true rfl) ⟨(Nat.le_of_ble_eq_true rfl), (Nat.le_of_ble_eq_true rfl)⟩ (mX10_end hfl h) rfl dX10_gathers_44 (kI (fun r9 G10 h => ?_)) kN
  obtain ⟨ht, h⟩ := h
  refine r_putI C cw_11 fp_RX10_111 rfl ht dX10_gathers_47 ?_
  refine r_nm (fun G11 hG11 => ?_)
  replace h := h G11 hG11
  refine r_aloadR_n C 0 dX10_gathers_50 rfl rfl ?_
  refine r_aloadR_n C 0 dX10_gathers_51 rfl rfl ?_
  obtain ⟨ht, h⟩ := h
  obtain ⟨b12, hb, h⟩ := h
  refine r_getR C fw_RX10_7 rfl ht hb dX10_gathers_52 ?_
  refine r_iload_n C 2 dX10_gathers_55 rfl rfl ?_
  refine r_iconst C 4 dX10_gathers_56 (by decide) ?_
  refine r_iadd C dX10_gathers_57 ?_
  obtain ⟨ht, hi, h⟩ := h
  refine r_ialdP C ht hi dX10_gathers_58 ?_
  refine r_iconst C 1 dX10_gathers_59 (by decide) ?_
  refine r_icmp_ne C 67 dX10_gathers_60 (by decide) (fun c => ?_) (fun c => ?_)
  · replace h := h.1 c
    refine r_iconst C 0 dX10_gathers_67 (by decide) ?_
    obtain ⟨ht, h⟩ := h
    refine r_putZ C cw_11 fp_RX10_101 rfl ht (Or.inl rfl) dX10_gathers_68 ?_
    refine r_nm (fun G33 hG33 => ?_)
    replace h := h G33 hG33
    refine r_iload_n C 1 dX10_gathers_71 rfl rfl ?_
    refine r_iconst C 1 dX10_gathers_72 (by decide) ?_
    refine r_iadd C dX10_gathers_73 ?_
    refine r_istore_n C 3 (lv' := [some (.ref a0), some (.int x1), some (.int r1), some (.int (x1 + 1)), none, none, none, none]) dX10_gathers_74 rfl (Nat.le_of_ble_eq_true rfl) rfl rfl ?_
    refine r_fg (lv' := [some (.ref a0), none, none, some (.int (x1 + 1)), none, none, none, none]) (show fgt _ _ from ⟨rfl, ⟨rfl, trivial⟩⟩) ?_
    obtain ⟨I, μ, hI, hS⟩ := h
    exact lX10_gathers_75 B I μ hS _ _ _ _ (Nat.lt_succ_self _) hI
  · replace h := h.2 c
    refine r_iconst C 1 dX10_gathers_63 (by decide) ?_
    refine r_goto C 68 dX10_gathers_64 (by decide) ?_
    obtain ⟨ht, h⟩ := h
    refine r_putZ C cw_11 fp_RX10_101 rfl ht (Or.inr rfl) dX10_gathers_68 ?_
    refine r_nm (fun G53 hG53 => ?_)
    replace h := h G53 hG53
    refine r_iload_n C 1 dX10_gathers_71 rfl rfl ?_
    refine r_iconst C 1 dX10_gathers_72 (by decide) ?_
    refine r_iadd C dX10_gathers_73 ?_
    refine r_istore_n C 3 (lv' := [some (.ref a0), some (.int x1), some (.int r1), some (.int (x1 + 1)), none, none, none, none]) dX10_gathers_74 rfl (Nat.le_of_ble_eq_true rfl) rfl rfl ?_
    refine r_fg (lv' := [some (.ref a0), none, none, some (.int (x1 + 1)), none, none, none, none]) (show fgt _ _ from ⟨rfl, ⟨rfl, trivial⟩⟩) ?_
    obtain ⟨I, μ, hI, hS⟩ := h
    exact lX10_gathers_75 B I μ hS _ _ _ _ (Nat.lt_succ_self _) hI
