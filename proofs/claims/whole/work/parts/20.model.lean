def wX10_init_100 (X : Xt) (Pr : Gt → Prop) (k100 : Gt → Nat → Int32 → Prop) (G : Gt) (a0 : Nat) (x1 : Int32) : Prop := (3 ≤ x1 → Pr G) ∧ (¬ (3 ≤ x1) → gT G a0 = (1, 11) ∧ ∃ b41, gR G 352 a0 = some b41 ∧ (gT G b41).1 = 2 ∧ vp_in (220 + x1) (gT G b41).2 ∧ ∀ G42, G42 = sA G b41 (upd (gA G b41) (220 + x1).toNatClampNeg 65535) → gT G42 a0 = (1, 11) ∧ ∃ b43, gR G42 352 a0 = some b43 ∧ (gT G42 b43).1 = 2 ∧ vp_in (224 + x1) (gT G42 b43).2 ∧ ∀ G44, G44 = sA G42 b43 (upd (gA G42 b43) (224 + x1).toNatClampNeg 5) → k100 G44 a0 (x1 + 1))
set_option maxRecDepth 20000 in
theorem bX10_init_100 {X : Xt} {K : Kt} {l : Launch} {G0 : Gt} {Pr : Gt → Prop} (B : BX X K l cX10_init 2 RX10 1 20 G0 none "<init>") {k100 : Gt → Nat → Int32 → Prop} (hk100 : ∀ (G : Gt) (a0 : Nat) (x1 : Int32), k100 G a0 x1 → WM X K (QM X K G0 (rV Pr) noX) G 100 [some (.ref a0), some (.int x1)] []) {G : Gt} {a0 : Nat} {x1 : Int32} (h : wX10_init_100 X Pr k100 G a0 x1) : WM X K (QM X K G0 (rV Pr) noX) G 100 [some (.ref a0), some (.int x1)] [] := by
  obtain ⟨hL, C, E0, hr, hnm, hex, hfl⟩ := id B
  unfold wX10_init_100 at h
  refine r_iload_n C 1 dX10_init_100 rfl rfl ?_
  refine r_iconst C 3 dX10_init_101 (by decide) ?_
  refine r_icmp_ge C 134 dX10_init_102 (by decide) (fun c => ?_) (fun c => ?_)
  · replace h := h.1 c
    exact r_vret C E0 hr ⟨rfl, h⟩ dX10_init_134
  · replace h := h.2 c
    refine r_aloadR_n C 0 dX10_init_105 rfl rfl ?_
    obtain ⟨ht, h⟩ := h
    obtain ⟨b41, hb, h⟩ := h
    refine r_getR C fw_RX10_7 rfl ht hb dX10_init_106 ?_
    refine r_sipush C 220 dX10_init_109 (by decide) ?_
    refine r_iload_n C 1 dX10_init_112 rfl rfl ?_
    refine r_iadd C dX10_init_113 ?_
    refine r_ldc C kc_RX10_25 dX10_init_114 ?_
    obtain ⟨ht, hi, h⟩ := h
    refine r_iastP C ht hi dX10_init_116 ?_
    refine r_nm (fun G42 hG42 => ?_)
    replace h := h G42 hG42
    refine r_aloadR_n C 0 dX10_init_117 rfl rfl ?_
    obtain ⟨ht, h⟩ := h
    obtain ⟨b43, hb, h⟩ := h
    refine r_getR C fw_RX10_7 rfl ht hb dX10_init_118 ?_
    refine r_sipush C 224 dX10_init_121 (by decide) ?_
    refine r_iload_n C 1 dX10_init_124 rfl rfl ?_
    refine r_iadd C dX10_init_125 ?_
    refine r_iconst C 5 dX10_init_126 (by decide) ?_
    obtain ⟨ht, hi, h⟩ := h
    refine r_iastP C ht hi dX10_init_127 ?_
    refine r_nm (fun G44 hG44 => ?_)
    replace h := h G44 hG44
    refine r_iinc C 1 (lv' := [some (.ref a0), some (.int (x1 + 1))]) dX10_init_128 rfl (by decide) rfl rfl ?_
    refine r_goto C 100 dX10_init_131 (by decide) ?_
    exact hk100 _ _ _ h
theorem lX10_init_100 {X : Xt} {K : Kt} {l : Launch} {G0 : Gt} {Pr : Gt → Prop} (B : BX X K l cX10_init 2 RX10 1 20 G0 none "<init>") (I : Gt → Nat → Int32 → Prop) (μ : Gt → Nat → Int32 → Nat) (hS : ∀ (G : Gt) (a0 : Nat) (x1 : Int32), I G a0 x1 → wX10_init_100 X Pr (fun G' a0' x1' => I G' a0' x1' ∧ μ G' a0' x1' < μ G a0 x1) G a0 x1) : ∀ (n : Nat) (G : Gt) (a0 : Nat) (x1 : Int32), μ G a0 x1 < n → I G a0 x1 → WM X K (QM X K G0 (rV Pr) noX) G 100 [some (.ref a0), some (.int x1)] [] := by
  intro n
  induction n with
  | zero => intro G a0 x1 hm; exact absurd hm (Nat.not_lt_zero _)
  | succ n ih =>
    intro G a0 x1 hm hi
    exact bX10_init_100 B (fun G' a0' x1' hk => ih G' a0' x1' (Nat.lt_of_lt_of_le hk.2 (Nat.le_of_lt_succ hm)) hk.1) (hS G a0 x1 hi)
def wX10_init (X : Xt) (G : Gt) (a0 : Nat) (Pr : Gt → Prop) : Prop := gH G + 1 ≤ xC X ∧ gU G + 8900 ≤ xS X ∧ ∀ G1, G1 = nA G 8900 → gT G1 a0 = (1, 11) ∧ ∀ G2, G2 = sR G1 352 a0 (some (gH G)) → gH G2 + 1 ≤ xC X ∧ gU G2 + 8900 ≤ xS X ∧ ∀ G3, G3 = nA G2 8900 → gT G3 a0 = (1, 11) ∧ ∀ G4, G4 = sR G3 353 a0 (some (gH G2)) → gH G4 + 1 ≤ xC X ∧ gU G4 + 42 ≤ xS X ∧ ∀ G5, G5 = nA G4 42 → gT G5 a0 = (1, 11) ∧ ∀ G6, G6 = sR G5 361 a0 (some (gH G4)) → gH G6 + 1 ≤ xC X ∧ gU G6 + 16 ≤ xS X ∧ ∀ G7, G7 = nA G6 16 → gT G7 a0 = (1, 11) ∧ ∀ G8, G8 = sR G7 363 a0 (some (gH G6)) → gH G8 + 1 ≤ xC X ∧ gU G8 + 42 ≤ xS X ∧ ∀ G9, G9 = nA G8 42 → gT G9 a0 = (1, 11) ∧ ∀ G10, G10 = sR G9 364 a0 (some (gH G8)) → gT G10 a0 = (1, 11) ∧ ∀ G11, G11 = sI G10 367 a0 65535 → gH G11 + 1 ≤ xC X ∧ gU G11 + 10 ≤ xS X ∧ ∀ G12, G12 = nA G11 10 → gT G12 a0 = (1, 11) ∧ ∀ G13, G13 = sR G12 368 a0 (some (gH G11)) → gH G13 + 1 ≤ xC X ∧ gU G13 + 10 ≤ xS X ∧ ∀ G14, G14 = nA G13 10 → gT G14 a0 = (1, 11) ∧ ∀ G15, G15 = sR G14 369 a0 (some (gH G13)) → gT G15 a0 = (1, 11) ∧ ∃ b16, gR G15 352 a0 = some b16 ∧ (gT G15 b16).1 = 2 ∧ vp_in 1 (gT G15 b16).2 ∧ ∀ G17, G17 = sA G15 b16 (upd (gA G15 b16) (1 : Int32).toNatClampNeg 50) → gT G17 a0 = (1, 11) ∧ ∃ b18, gR G17 352 a0 = some b18 ∧ (gT G17 b18).1 = 2 ∧ vp_in 2 (gT G17 b18).2 ∧ ∀ G19, G19 = sA G17 b18 (upd (gA G17 b18) (2 : Int32).toNatClampNeg 30) → gT G19 a0 = (1, 11) ∧ ∃ b20, gR G19 352 a0 = some b20 ∧ (gT G19 b20).1 = 2 ∧ vp_in 3 (gT G19 b20).2 ∧ ∀ G21, G21 = sA G19 b20 (upd (gA G19 b20) (3 : Int32).toNatClampNeg 1) → gT G21 a0 = (1, 11) ∧ ∃ b22, gR G21 352 a0 = some b22 ∧ (gT G21 b22).1 = 2 ∧ vp_in 5 (gT G21 b22).2 ∧ ∀ G23, G23 = sA G21 b22 (upd (gA G21 b22) (5 : Int32).toNatClampNeg 1) → ∃ (I : Gt → Nat → Int32 → Prop) (μ : Gt → Nat → Int32 → Nat), I G23 a0 (0 : Int32) ∧ ∀ (G : Gt) (a0 : Nat) (x1 : Int32), I G a0 x1 → wX10_init_100 X Pr (fun G' a0' x1' => I G' a0' x1' ∧ μ G' a0' x1' < μ G a0 x1) G a0 x1
set_option maxRecDepth 20000 in
theorem mX10_init {X : Xt} {l : Launch} (hfl : l.stackTraces = false) {G : Gt} {a0 : Nat} {Pr : Gt → Prop} (h : wX10_init X G a0 Pr) : Mc X l yX10_init (.code yX10_init cX10_init 2 none) 1 20 [.ref a0] G (rV Pr) noX := by
  refine Mc.of (by decide +kernel) hfl [some (.ref a0), none] rfl (Nat.le_of_ble_eq_true rfl) rfl ?_
  intro K hL C E0 hr hnm hex
  have B : BX X K l cX10_init 2 RX10 1 20 G none "<init>" := ⟨hL, C, E0, hr, hnm, hex, hfl⟩
  have C : Cx X K cX10_init 2 RX10 1 20 := C
  unfold wX10_init at h
  refine r_aloadR_n C 0 dX10_init_0 rfl rfl ?_
  refine r_objInit C oi_RX10_1 oi_inst oi_code rfl (Nat.le_of_ble_eq_true rfl) (Nat.le_of_ble_eq_true rfl) dX10_init_1 ?_
  refine r_aloadR_n C 0 dX10_init_4 rfl rfl ?_
  refine r_sipush C 8900 dX10_init_5 (by decide) ?_
  obtain ⟨hr1, hr2, h⟩ := h
  refine r_newa C 8900 (by decide) (by decide) (by decide) ac_int hr1 hr2 dX10_init_8 ?_
  refine r_nm (fun G1 hG1 => ?_)
  replace h := h G1 hG1
  obtain ⟨ht, h⟩ := h
  refine r_putRF C hnm cw_11 fp_RX10_7 rfl ht rfl rfl dX10_init_10 ?_
  refine r_nm (fun G2 hG2 => ?_)
  replace h := h G2 hG2
  refine r_aloadR_n C 0 dX10_init_13 rfl rfl ?_
  refine r_sipush C 8900 dX10_init_14 (by decide) ?_
  obtain ⟨hr1, hr2, h⟩ := h
  refine r_newa C 8900 (by decide) (by decide) (by decide) ac_int hr1 hr2 dX10_init_17 ?_
  refine r_nm (fun G3 hG3 => ?_)
  replace h := h G3 hG3
  obtain ⟨ht, h⟩ := h
  refine r_putRF C hnm cw_11 fp_RX10_13 rfl ht rfl rfl dX10_init_19 ?_
  refine r_nm (fun G4 hG4 => ?_)
  replace h := h G4 hG4
  refine r_aloadR_n C 0 dX10_init_22 rfl rfl ?_
  refine r_bipush C 42 dX10_init_23 (by decide) ?_
  obtain ⟨hr1, hr2, h⟩ := h
  refine r_newa C 42 (by decide) (by decide) (by decide) ac_int hr1 hr2 dX10_init_25 ?_
  refine r_nm (fun G5 hG5 => ?_)
  replace h := h G5 hG5
  obtain ⟨ht, h⟩ := h
  refine r_putRF C hnm cw_11 fp_RX10_16 rfl ht rfl rfl dX10_init_27 ?_
  refine r_nm (fun G6 hG6 => ?_)
  replace h := h G6 hG6
  refine r_aloadR_n C 0 dX10_init_30 rfl rfl ?_
  refine r_bipush C 16 dX10_init_31 (by decide) ?_
  obtain ⟨hr1, hr2, h⟩ := h
  refine r_newa C 16 (by decide) (by decide) (by decide) ac_int hr1 hr2 dX10_init_33 ?_
  refine r_nm (fun G7 hG7 => ?_)
  replace h := h G7 hG7
  obtain ⟨ht, h⟩ := h
  refine r_putRF C hnm cw_11 fp_RX10_19 rfl ht rfl rfl dX10_init_35 ?_
  refine r_nm (fun G8 hG8 => ?_)
  replace h := h G8 hG8
  refine r_aloadR_n C 0 dX10_init_38 rfl rfl ?_
  refine r_bipush C 42 dX10_init_39 (by decide) ?_
  obtain ⟨hr1, hr2, h⟩ := h
  refine r_newa C 42 (by decide) (by decide) (by decide) ac_int hr1 hr2 dX10_init_41 ?_
  refine r_nm (fun G9 hG9 => ?_)
  replace h := h G9 hG9
  obtain ⟨ht, h⟩ := h
  refine r_putRF C hnm cw_11 fp_RX10_22 rfl ht rfl rfl dX10_init_43 ?_
  refine r_nm (fun G10 hG10 => ?_)
  replace h := h G10 hG10
  refine r_aloadR_n C 0 dX10_init_46 rfl rfl ?_
  refine r_ldc C kc_RX10_25 dX10_init_47 ?_
  obtain ⟨ht, h⟩ := h
  refine r_putI C cw_11 fp_RX10_26 rfl ht dX10_init_49 ?_
  refine r_nm (fun G11 hG11 => ?_)
  replace h := h G11 hG11
  refine r_aloadR_n C 0 dX10_init_52 rfl rfl ?_
  refine r_bipush C 10 dX10_init_53 (by decide) ?_
  obtain ⟨hr1, hr2, h⟩ := h
  refine r_newa C 10 (by decide) (by decide) (by decide) ac_int hr1 hr2 dX10_init_55 ?_
  refine r_nm (fun G12 hG12 => ?_)
  replace h := h G12 hG12
  obtain ⟨ht, h⟩ := h
  refine r_putRF C hnm cw_11 fp_RX10_30 rfl ht rfl rfl dX10_init_57 ?_
  refine r_nm (fun G13 hG13 => ?_)
  replace h := h G13 hG13
  refine r_aloadR_n C 0 dX10_init_60 rfl rfl ?_
  refine r_bipush C 10 dX10_init_61 (by decide) ?_
  obtain ⟨hr1, hr2, h⟩ := h
  refine r_newa C 10 (by decide) (by decide) (by decide) ac_int hr1 hr2 dX10_init_63 ?_
  refine r_nm (fun G14 hG14 => ?_)
  replace h := h G14 hG14
  obtain ⟨ht, h⟩ := h
  refine r_putRF C hnm cw_11 fp_RX10_33 rfl ht rfl rfl dX10_init_65 ?_
  refine r_nm (fun G15 hG15 => ?_)
  replace h := h G15 hG15
  refine r_aloadR_n C 0 dX10_init_68 rfl rfl ?_
  obtain ⟨ht, h⟩ := h
  obtain ⟨b16, hb, h⟩ := h
  refine r_getR C fw_RX10_7 rfl ht hb dX10_init_69 ?_
  refine r_iconst C 1 dX10_init_72 (by decide) ?_
  refine r_bipush C 50 dX10_init_73 (by decide) ?_
  obtain ⟨ht, hi, h⟩ := h
  refine r_iastP C ht hi dX10_init_75 ?_
  refine r_nm (fun G17 hG17 => ?_)
  replace h := h G17 hG17
  refine r_aloadR_n C 0 dX10_init_76 rfl rfl ?_
  obtain ⟨ht, h⟩ := h
  obtain ⟨b18, hb, h⟩ := h
  refine r_getR C fw_RX10_7 rfl ht hb dX10_init_77 ?_
  refine r_iconst C 2 dX10_init_80 (by decide) ?_
  refine r_bipush C 30 dX10_init_81 (by decide) ?_
  obtain ⟨ht, hi, h⟩ := h
  refine r_iastP C ht hi dX10_init_83 ?_
  refine r_nm (fun G19 hG19 => ?_)
  replace h := h G19 hG19
  refine r_aloadR_n C 0 dX10_init_84 rfl rfl ?_
  obtain ⟨ht, h⟩ := h
  obtain ⟨b20, hb, h⟩ := h
  refine r_getR C fw_RX10_7 rfl ht hb dX10_init_85 ?_
  refine r_iconst C 3 dX10_init_88 (by decide) ?_
  refine r_iconst C 1 dX10_init_89 (by decide) ?_
  obtain ⟨ht, hi, h⟩ := h
  refine r_iastP C ht hi dX10_init_90 ?_
  refine r_nm (fun G21 hG21 => ?_)
  replace h := h G21 hG21
  refine r_aloadR_n C 0 dX10_init_91 rfl rfl ?_
  obtain ⟨ht, h⟩ := h
  obtain ⟨b22, hb, h⟩ := h
  refine r_getR C fw_RX10_7 rfl ht hb dX10_init_92 ?_
  refine r_iconst C 5 dX10_init_95 (by decide) ?_
  refine r_iconst C 1 dX10_init_96 (by decide) ?_
  obtain ⟨ht, hi, h⟩ := h
  refine r_iastP C ht hi dX10_init_97 ?_
  refine r_nm (fun G23 hG23 => ?_)
  replace h := h G23 hG23
  refine r_iconst C 0 dX10_init_98 (by decide) ?_
  refine r_istore_n C 1 (lv' := [some (.ref a0), some (.int 0)]) dX10_init_99 rfl (Nat.le_of_ble_eq_true rfl) rfl rfl ?_
  obtain ⟨I, μ, hI, hS⟩ := h
  exact lX10_init_100 B I μ hS _ _ _ _ (Nat.lt_succ_self _) hI
def wX10_thrown (X : Xt) (G : Gt) (a0 : Nat) (Pr : Int32 → Gt → Prop) : Prop := gT G a0 = (1, 11) ∧ Pr (gI G 354 a0) G
set_option maxRecDepth 20000 in
theorem mX10_thrown {X : Xt} {l : Launch} (hfl : l.stackTraces = false) {G : Gt} {a0 : Nat} {Pr : Int32 → Gt → Prop} (h : wX10_thrown X G a0 Pr) : Mc X l yX10_thrown (.code yX10_thrown cX10_thrown 1 (some (.int))) 0 0 [.ref a0] G (rI Pr) noX := by
  refine Mc.of (by decide +kernel) hfl [some (.ref a0)] rfl (Nat.le_of_ble_eq_true rfl) rfl ?_
  intro K hL C E0 hr hnm hex
  have B : BX X K l cX10_thrown 1 RX10 0 0 G (some (.int)) "thrown" := ⟨hL, C, E0, hr, hnm, hex, hfl⟩
  have C : Cx X K cX10_thrown 1 RX10 0 0 := C
  unfold wX10_thrown at h
  refine r_aloadR_n C 0 dX10_thrown_0 rfl rfl ?_
  obtain ⟨ht, h⟩ := h
  refine r_getI C fw_RX10_36 rfl ht dX10_thrown_1 ?_
  exact r_iret C E0 hr ⟨_, rfl, h⟩ dX10_thrown_4
def wX10_in (X : Xt) (G : Gt) (x0 : Int32) (x1 : Int32) (x2 : Int32) (Pr : Int32 → Gt → Prop) : Prop := (x0 < x1 → Pr 0 G) ∧ (¬ (x0 < x1) → (x2 < x0 → Pr 0 G) ∧ (¬ (x2 < x0) → Pr 1 G))
set_option maxRecDepth 20000 in
theorem mX10_in {X : Xt} {l : Launch} (hfl : l.stackTraces = false) {G : Gt} {x0 : Int32} {x1 : Int32} {x2 : Int32} {Pr : Int32 → Gt → Prop} (h : wX10_in X G x0 x1 x2 Pr) : Mc X l yX10_in (.code yX10_in cX10_in 3 (some (.boolean))) 0 0 [.int x0, .int x1, .int x2] G (rI Pr) noX := by
  refine Mc.of (by decide +kernel) hfl [some (.int x0), some (.int x1), some (.int x2)] rfl (Nat.le_of_ble_eq_true rfl) rfl ?_
  intro K hL C E0 hr hnm hex
  have B : BX X K l cX10_in 3 RX10 0 0 G (some (.boolean)) "in" := ⟨hL, C, E0, hr, hnm, hex, hfl⟩
  have C : Cx X K cX10_in 3 RX10 0 0 := C
  unfold wX10_in at h
  refine r_iload_n C 0 dX10_in_0 rfl rfl ?_
  refine r_iload_n C 1 dX10_in_1 rfl rfl ?_
  refine r_icmp_lt C 14 dX10_in_2 (by decide) (fun c => ?_) (fun c => ?_)
  · replace h := h.1 c
    refine r_iconst C 0 dX10_in_14 (by decide) ?_
    exact r_zret C E0 hr (Or.inl rfl) ⟨_, rfl, h⟩ dX10_in_15
  · replace h := h.2 c
    refine r_iload_n C 0 dX10_in_5 rfl rfl ?_
    refine r_iload_n C 2 dX10_in_6 rfl rfl ?_
    refine r_icmp_gt C 14 dX10_in_7 (by decide) (fun c => ?_) (fun c => ?_)
    · replace h := h.1 c
      refine r_iconst C 0 dX10_in_14 (by decide) ?_
      exact r_zret C E0 hr (Or.inl rfl) ⟨_, rfl, h⟩ dX10_in_15
    · replace h := h.2 c
      refine r_iconst C 1 dX10_in_10 (by decide) ?_
      refine r_goto C 15 dX10_in_11 (by decide) ?_
      exact r_zret C E0 hr (Or.inr rfl) ⟨_, rfl, h⟩ dX10_in_15
def wX10_fails (X : Xt) (G : Gt) (a0 : Nat) (x1 : Int32) (Pr : Int32 → Gt → Prop) : Prop := gT G a0 = (1, 11) ∧ ∀ G1, G1 = sI G 354 a0 x1 → Pr 0 G1
set_option maxRecDepth 20000 in
theorem mX10_fails {X : Xt} {l : Launch} (hfl : l.stackTraces = false) {G : Gt} {a0 : Nat} {x1 : Int32} {Pr : Int32 → Gt → Prop} (h : wX10_fails X G a0 x1 Pr) : Mc X l yX10_fails (.code yX10_fails cX10_fails 2 (some (.int))) 0 0 [.ref a0, .int x1] G (rI Pr) noX := by
  refine Mc.of (by decide +kernel) hfl [some (.ref a0), some (.int x1)] rfl (Nat.le_of_ble_eq_true rfl) rfl ?_
  intro K hL C E0 hr hnm hex
  have B : BX X K l cX10_fails 2 RX10 0 0 G (some (.int)) "fails" := ⟨hL, C, E0, hr, hnm, hex, hfl⟩
  have C : Cx X K cX10_fails 2 RX10 0 0 := C
  unfold wX10_fails at h
  refine r_aloadR_n C 0 dX10_fails_0 rfl rfl ?_
  refine r_iload_n C 1 dX10_fails_1 rfl rfl ?_
  obtain ⟨ht, h⟩ := h
  refine r_putI C cw_11 fp_RX10_36 rfl ht dX10_fails_2 ?_
  refine r_nm (fun G1 hG1 => ?_)
  replace h := h G1 hG1
  refine r_iconst C 0 dX10_fails_5 (by decide) ?_
  exact r_iret C E0 hr ⟨_, rfl, h⟩ dX10_fails_6
def wX10_sets (X : Xt) (G : Gt) (a0 : Nat) (x1 : Int32) (x2 : Int32) (Pr : Int32 → Gt → Prop) : Prop := gT G a0 = (1, 11) ∧ ∃ b1, gR G 352 a0 = some b1 ∧ (gT G b1).1 = 2 ∧ vp_in x1 (gT G b1).2 ∧ gT G a0 = (1, 11) ∧ ∃ b2, gR G 352 a0 = some b2 ∧ (gT G b2).1 = 2 ∧ vp_in x1 (gT G b2).2 ∧ ∀ G3, G3 = sA G b2 (upd (gA G b2) x1.toNatClampNeg x2) → Pr (gA G b1 x1.toNatClampNeg) G3
set_option maxRecDepth 20000 in
theorem mX10_sets {X : Xt} {l : Launch} (hfl : l.stackTraces = false) {G : Gt} {a0 : Nat} {x1 : Int32} {x2 : Int32} {Pr : Int32 → Gt → Prop} (h : wX10_sets X G a0 x1 x2 Pr) : Mc X l yX10_sets (.code yX10_sets cX10_sets 4 (some (.int))) 0 0 [.ref a0, .int x1, .int x2] G (rI Pr) noX := by
  refine Mc.of (by decide +kernel) hfl [some (.ref a0), some (.int x1), some (.int x2), none] rfl (Nat.le_of_ble_eq_true rfl) rfl ?_
  intro K hL C E0 hr hnm hex
  have B : BX X K l cX10_sets 4 RX10 0 0 G (some (.int)) "sets" := ⟨hL, C, E0, hr, hnm, hex, hfl⟩
  have C : Cx X K cX10_sets 4 RX10 0 0 := C
  unfold wX10_sets at h
  refine r_aloadR_n C 0 dX10_sets_0 rfl rfl ?_
  obtain ⟨ht, h⟩ := h
  obtain ⟨b1, hb, h⟩ := h
  refine r_getR C fw_RX10_7 rfl ht hb dX10_sets_1 ?_
  refine r_iload_n C 1 dX10_sets_4 rfl rfl ?_
  obtain ⟨ht, hi, h⟩ := h
  refine r_ialdP C ht hi dX10_sets_5 ?_
  refine r_istore_n C 3 (lv' := [some (.ref a0), some (.int x1), some (.int x2), some (.int (gA G b1 x1.toNatClampNeg))]) dX10_sets_6 rfl (Nat.le_of_ble_eq_true rfl) rfl rfl ?_
  refine r_aloadR_n C 0 dX10_sets_7 rfl rfl ?_
  obtain ⟨ht, h⟩ := h
  obtain ⟨b2, hb, h⟩ := h
  refine r_getR C fw_RX10_7 rfl ht hb dX10_sets_8 ?_
  refine r_iload_n C 1 dX10_sets_11 rfl rfl ?_
  refine r_iload_n C 2 dX10_sets_12 rfl rfl ?_
  obtain ⟨ht, hi, h⟩ := h
  refine r_iastP C ht hi dX10_sets_13 ?_
  refine r_nm (fun G3 hG3 => ?_)
  replace h := h G3 hG3
  refine r_iload_n C 3 dX10_sets_14 rfl rfl ?_
  exact r_iret C E0 hr ⟨_, rfl, h⟩ dX10_sets_15
def wX10_registerAt (X : Xt) (G : Gt) (x0 : Int32) (x1 : Int32) (Pr : Int32 → Gt → Prop) : Prop := Pr ((32 * (x0 - 1)) + x1) G
set_option maxRecDepth 20000 in
theorem mX10_registerAt {X : Xt} {l : Launch} (hfl : l.stackTraces = false) {G : Gt} {x0 : Int32} {x1 : Int32} {Pr : Int32 → Gt → Prop} (h : wX10_registerAt X G x0 x1 Pr) : Mc X l yX10_registerAt (.code yX10_registerAt cX10_registerAt 2 (some (.int))) 0 0 [.int x0, .int x1] G (rI Pr) noX := by
  refine Mc.of (by decide +kernel) hfl [some (.int x0), some (.int x1)] rfl (Nat.le_of_ble_eq_true rfl) rfl ?_
  intro K hL C E0 hr hnm hex
  have B : BX X K l cX10_registerAt 2 RX10 0 0 G (some (.int)) "registerAt" := ⟨hL, C, E0, hr, hnm, hex, hfl⟩
  have C : Cx X K cX10_registerAt 2 RX10 0 0 := C
  unfold wX10_registerAt at h
  refine r_bipush C 32 dX10_registerAt_0 (by decide) ?_
  refine r_iload_n C 0 dX10_registerAt_2 rfl rfl ?_
  refine r_iconst C 1 dX10_registerAt_3 (by decide) ?_
  refine r_isub C dX10_registerAt_4 ?_
  refine r_imul C dX10_registerAt_5 ?_
  refine r_iload_n C 1 dX10_registerAt_6 rfl rfl ?_
  refine r_iadd C dX10_registerAt_7 ?_
  exact r_iret C E0 hr ⟨_, rfl, h⟩ dX10_registerAt_8
def wX10_isRegister (X : Xt) (G : Gt) (x0 : Int32) (x1 : Int32) (Pr : Int32 → Gt → Prop) : Prop := wX10_in X G x0 1 3 (fun r1 G2 => (r1 = 0 → Pr 0 G2) ∧ (¬ (r1 = 0) → wX10_in X G2 x1 0 31 (fun r43 G44 => (r43 = 0 → Pr 0 G44) ∧ (¬ (r43 = 0) → Pr 1 G44))))
set_option maxRecDepth 20000 in
theorem mX10_isRegister {X : Xt} {l : Launch} (hfl : l.stackTraces = false) {G : Gt} {x0 : Int32} {x1 : Int32} {Pr : Int32 → Gt → Prop} (h : wX10_isRegister X G x0 x1 Pr) : Mc X l yX10_isRegister (.code yX10_isRegister cX10_isRegister 2 (some (.boolean))) 1 22 [.int x0, .int x1] G (rI Pr) noX := by
  refine Mc.of (by decide +kernel) hfl [some (.int x0), some (.int x1)] rfl (Nat.le_of_ble_eq_true rfl) rfl ?_
  intro K hL C E0 hr hnm hex
  have B : BX X K l cX10_isRegister 2 RX10 1 22 G (some (.boolean)) "isRegister" := ⟨hL, C, E0, hr, hnm, hex, hfl⟩
  have C : Cx X K cX10_isRegister 2 RX10 1 22 := C
  unfold wX10_isRegister at h
  refine r_iload_n C 0 dX10_isRegister_0 rfl rfl ?_
  refine r_iconst C 1 dX10_isRegister_1 (by decide) ?_
  refine r_iconst C 3 dX10_isRegister_2 (by decide) ?_
  refine r_callS C hL yw_X10_in sw_RX10_39 rfl rfl (Nat.le_of_ble_eq_true rfl) ⟨(Nat.le_of_ble_eq_true rfl), (Nat.le_of_ble_eq_true rfl)⟩ (mX10_in hfl h) rfl dX10_isRegister_3 (kI (fun r1 G2 h => ?_)) kN
  refine r_if_eq C 23 dX10_isRegister_6 (by decide) (fun c => ?_) (fun c => ?_)
  · replace h := h.1 c
    refine r_iconst C 0 dX10_isRegister_23 (by decide) ?_
    exact r_zret C E0 hr (Or.inl rfl) ⟨_, rfl, h⟩ dX10_isRegister_24
  · replace h := h.2 c
    refine r_iload_n C 1 dX10_isRegister_9 rfl rfl ?_
    refine r_iconst C 0 dX10_isRegister_10 (by decide) ?_
    refine r_bipush C 31 dX10_isRegister_11 (by decide) ?_
    refine r_callS C hL yw_X10_in sw_RX10_39 rfl rfl (Nat.le_of_ble_eq_true rfl) ⟨(Nat.le_of_ble_eq_true rfl), (Nat.le_of_ble_eq_true rfl)⟩ (mX10_in hfl h) rfl dX10_isRegister_13 (kI (fun r43 G44 h => ?_)) kN
    refine r_if_eq C 23 dX10_isRegister_16 (by decide) (fun c => ?_) (fun c => ?_)
    · replace h := h.1 c
      refine r_iconst C 0 dX10_isRegister_23 (by decide) ?_
      exact r_zret C E0 hr (Or.inl rfl) ⟨_, rfl, h⟩ dX10_isRegister_24
    · replace h := h.2 c
      refine r_iconst C 1 dX10_isRegister_19 (by decide) ?_
      refine r_goto C 24 dX10_isRegister_20 (by decide) ?_
      exact r_zret C E0 hr (Or.inr rfl) ⟨_, rfl, h⟩ dX10_isRegister_24
def wX10_set_63 (X : Xt) (Pr : Int32 → Gt → Prop) (G : Gt) (a0 : Nat) (x1 : Int32) (x2 : Int32) (x3 : Int32) (sx0 : Int32) (sx1 : Int32) : Prop := wX10_in X G sx0 sx1 x3 (fun r1 G2 => (r1 = 0 → gT G2 a0 = (1, 11) ∧ wX10_fails X G2 a0 2 (fun r23 G24 => Pr r23 G24)) ∧ (¬ (r1 = 0) → gT G2 a0 = (1, 11) ∧ wX10_sets X G2 a0 (1 + x1) x2 (fun r43 G44 => Pr r43 G44)))
set_option maxRecDepth 20000 in
theorem bX10_set_63 {X : Xt} {K : Kt} {l : Launch} {G0 : Gt} {Pr : Int32 → Gt → Prop} (B : BX X K l cX10_set 4 RX10 1 23 G0 (some (.int)) "set") {G : Gt} {a0 : Nat} {x1 : Int32} {x2 : Int32} {x3 : Int32} {sx0 : Int32} {sx1 : Int32} (h : wX10_set_63 X Pr G a0 x1 x2 x3 sx0 sx1) : WM X K (QM X K G0 (rI Pr) noX) G 63 [some (.ref a0), some (.int x1), some (.int x2), some (.int x3)] [.int sx1, .int sx0] := by
  obtain ⟨hL, C, E0, hr, hnm, hex, hfl⟩ := id B
  unfold wX10_set_63 at h
  refine r_iload_n C 3 dX10_set_63 rfl rfl ?_
  refine r_callS C hL yw_X10_in sw_RX10_39 rfl rfl (Nat.le_of_ble_eq_true rfl) ⟨(Nat.le_of_ble_eq_true rfl), (Nat.le_of_ble_eq_true rfl)⟩ (mX10_in hfl h) rfl dX10_set_64 (kI (fun r1 G2 h => ?_)) kN
  refine r_if_eq C 81 dX10_set_67 (by decide) (fun c => ?_) (fun c => ?_)
  · replace h := h.1 c
    refine r_aloadR_n C 0 dX10_set_81 rfl rfl ?_
    refine r_iconst C 2 dX10_set_82 (by decide) ?_
    obtain ⟨ht, h⟩ := h
    refine r_callV C (r := (RX10, TX10, 19)) hL yw_X10_fails vw_RX10_43 rfl rfl ht rfl rfl (Nat.le_of_ble_eq_true rfl) ⟨(Nat.le_of_ble_eq_true rfl), (Nat.le_of_ble_eq_true rfl)⟩ (mX10_fails hfl h) rfl dX10_set_83 (kI (fun r23 G24 h => ?_)) kN
    exact r_iret C E0 hr ⟨_, rfl, h⟩ dX10_set_86
  · replace h := h.2 c
    refine r_aloadR_n C 0 dX10_set_70 rfl rfl ?_
    refine r_iconst C 1 dX10_set_71 (by decide) ?_
    refine r_iload_n C 1 dX10_set_72 rfl rfl ?_
    refine r_iadd C dX10_set_73 ?_
    refine r_iload_n C 2 dX10_set_74 rfl rfl ?_
    obtain ⟨ht, h⟩ := h
    refine r_callV C (r := (RX10, TX10, 19)) hL yw_X10_sets vw_RX10_47 rfl rfl ht rfl rfl (Nat.le_of_ble_eq_true rfl) ⟨(Nat.le_of_ble_eq_true rfl), (Nat.le_of_ble_eq_true rfl)⟩ (mX10_sets hfl h) rfl dX10_set_75 (kI (fun r43 G44 h => ?_)) kN
    refine r_goto C 86 dX10_set_78 (by decide) ?_
    exact r_iret C E0 hr ⟨_, rfl, h⟩ dX10_set_86
def wX10_set_51 (X : Xt) (Pr : Int32 → Gt → Prop) (G : Gt) (a0 : Nat) (x1 : Int32) (x2 : Int32) (sx0 : Int32) : Prop := (¬ x1 = 1 → wX10_set_63 X Pr G a0 x1 x2 sx0 x2 (0 : Int32)) ∧ (x1 = 1 → wX10_set_63 X Pr G a0 x1 x2 sx0 x2 (1 : Int32))
set_option maxRecDepth 20000 in
theorem bX10_set_51 {X : Xt} {K : Kt} {l : Launch} {G0 : Gt} {Pr : Int32 → Gt → Prop} (B : BX X K l cX10_set 4 RX10 1 23 G0 (some (.int)) "set") {G : Gt} {a0 : Nat} {x1 : Int32} {x2 : Int32} {sx0 : Int32} (h : wX10_set_51 X Pr G a0 x1 x2 sx0) : WM X K (QM X K G0 (rI Pr) noX) G 51 [some (.ref a0), some (.int x1), some (.int x2), none] [.int sx0] := by
  obtain ⟨hL, C, E0, hr, hnm, hex, hfl⟩ := id B
  unfold wX10_set_51 at h
  refine r_istore_n C 3 (lv' := [some (.ref a0), some (.int x1), some (.int x2), some (.int sx0)]) dX10_set_51 rfl (Nat.le_of_ble_eq_true rfl) rfl rfl ?_
  refine r_iload_n C 2 dX10_set_52 rfl rfl ?_
  refine r_iload_n C 1 dX10_set_53 rfl rfl ?_
  refine r_iconst C 1 dX10_set_54 (by decide) ?_
  refine r_icmp_ne C 62 dX10_set_55 (by decide) (fun c => ?_) (fun c => ?_)
  · replace h := h.1 c
    refine r_iconst C 0 dX10_set_62 (by decide) ?_
    exact bX10_set_63 B h
  · replace h := h.2 c
    refine r_iconst C 1 dX10_set_58 (by decide) ?_
    refine r_goto C 63 dX10_set_59 (by decide) ?_
    exact bX10_set_63 B h
def wX10_set (X : Xt) (G : Gt) (a0 : Nat) (x1 : Int32) (x2 : Int32) (Pr : Int32 → Gt → Prop) : Prop := gT G a0 = (1, 11) ∧ ∀ G1, G1 = sI G 354 a0 0 → wX10_in X G1 x1 0 4 (fun r2 G3 => (¬ r2 = 0 → (¬ x1 = 0 → (¬ x1 = 2 → (¬ x1 = 4 → wX10_set_51 X Pr G3 a0 x1 x2 (1000 : Int32)) ∧ (x1 = 4 → wX10_set_51 X Pr G3 a0 x1 x2 (1 : Int32))) ∧ (x1 = 2 → wX10_set_51 X Pr G3 a0 x1 x2 (3 : Int32))) ∧ (x1 = 0 → wX10_set_51 X Pr G3 a0 x1 x2 (10000 : Int32))) ∧ (r2 = 0 → gT G3 a0 = (1, 11) ∧ wX10_fails X G3 a0 1 (fun r44 G45 => Pr r44 G45)))
set_option maxRecDepth 20000 in
theorem mX10_set {X : Xt} {l : Launch} (hfl : l.stackTraces = false) {G : Gt} {a0 : Nat} {x1 : Int32} {x2 : Int32} {Pr : Int32 → Gt → Prop} (h : wX10_set X G a0 x1 x2 Pr) : Mc X l yX10_set (.code yX10_set cX10_set 4 (some (.int))) 1 23 [.ref a0, .int x1, .int x2] G (rI Pr) noX := by
  refine Mc.of (by decide +kernel) hfl [some (.ref a0), some (.int x1), some (.int x2), none] rfl (Nat.le_of_ble_eq_true rfl) rfl ?_
  intro K hL C E0 hr hnm hex
  have B : BX X K l cX10_set 4 RX10 1 23 G (some (.int)) "set" := ⟨hL, C, E0, hr, hnm, hex, hfl⟩
  have C : Cx X K cX10_set 4 RX10 1 23 := C
  unfold wX10_set at h
  refine r_aloadR_n C 0 dX10_set_0 rfl rfl ?_
  refine r_iconst C 0 dX10_set_1 (by decide) ?_
  obtain ⟨ht, h⟩ := h
  refine r_putI C cw_11 fp_RX10_36 rfl ht dX10_set_2 ?_
  refine r_nm (fun G1 hG1 => ?_)
  replace h := h G1 hG1
  refine r_iload_n C 1 dX10_set_5 rfl rfl ?_
  refine r_iconst C 0 dX10_set_6 (by decide) ?_
  refine r_iconst C 4 dX10_set_7 (by decide) ?_
  refine r_callS C hL yw_X10_in sw_RX10_39 rfl rfl (Nat.le_of_ble_eq_true rfl) ⟨(Nat.le_of_ble_eq_true rfl), (Nat.le_of_ble_eq_true rfl)⟩ (mX10_in hfl h) rfl dX10_set_8 (kI (fun r2 G3 h => ?_)) kN
  refine r_if_ne C 20 dX10_set_11 (by decide) (fun c => ?_) (fun c => ?_)
  · replace h := h.1 c
    refine r_iload_n C 1 dX10_set_20 rfl rfl ?_
    refine r_if_ne C 30 dX10_set_21 (by decide) (fun c => ?_) (fun c => ?_)
    · replace h := h.1 c
      refine r_iload_n C 1 dX10_set_30 rfl rfl ?_
      refine r_iconst C 2 dX10_set_31 (by decide) ?_
      refine r_icmp_ne C 39 dX10_set_32 (by decide) (fun c => ?_) (fun c => ?_)
      · replace h := h.1 c
        refine r_iload_n C 1 dX10_set_39 rfl rfl ?_
        refine r_iconst C 4 dX10_set_40 (by decide) ?_
        refine r_icmp_ne C 48 dX10_set_41 (by decide) (fun c => ?_) (fun c => ?_)
        · replace h := h.1 c
          refine r_sipush C 1000 dX10_set_48 (by decide) ?_
          exact bX10_set_51 B h
        · replace h := h.2 c
          refine r_iconst C 1 dX10_set_44 (by decide) ?_
          refine r_goto C 51 dX10_set_45 (by decide) ?_
          exact bX10_set_51 B h
      · replace h := h.2 c
        refine r_iconst C 3 dX10_set_35 (by decide) ?_
        refine r_goto C 51 dX10_set_36 (by decide) ?_
        exact bX10_set_51 B h
    · replace h := h.2 c
      refine r_sipush C 10000 dX10_set_24 (by decide) ?_
      refine r_goto C 51 dX10_set_27 (by decide) ?_
      exact bX10_set_51 B h
  · replace h := h.2 c
    refine r_aloadR_n C 0 dX10_set_14 rfl rfl ?_
    refine r_iconst C 1 dX10_set_15 (by decide) ?_
    obtain ⟨ht, h⟩ := h
    refine r_callV C (r := (RX10, TX10, 19)) hL yw_X10_fails vw_RX10_43 rfl rfl ht rfl rfl (Nat.le_of_ble_eq_true rfl) ⟨(Nat.le_of_ble_eq_true rfl), (Nat.le_of_ble_eq_true rfl)⟩ (mX10_fails hfl h) rfl dX10_set_16 (kI (fun r44 G45 h => ?_)) kN
    exact r_iret C E0 hr ⟨_, rfl, h⟩ dX10_set_19
def wX10_setDevice_43 (X : Xt) (Pr : Int32 → Gt → Prop) (G : Gt) (a0 : Nat) (x1 : Int32) (x2 : Int32) (x3 : Int32) (sx0 : Int32) (sx1 : Int32) (sx2 : Int32) : Prop := wX10_in X G sx0 sx1 sx2 (fun r1 G2 => (r1 = 0 → gT G2 a0 = (1, 11) ∧ wX10_fails X G2 a0 2 (fun r23 G24 => Pr r23 G24)) ∧ (¬ (r1 = 0) → (¬ x2 = 0 → gT G2 a0 = (1, 11) ∧ wX10_sets X G2 a0 ((220 + x1) - 1) x3 (fun r63 G64 => Pr r63 G64)) ∧ (x2 = 0 → gT G2 a0 = (1, 11) ∧ wX10_sets X G2 a0 ((224 + x1) - 1) x3 (fun r83 G84 => Pr r83 G84))))
set_option maxRecDepth 20000 in
theorem bX10_setDevice_43 {X : Xt} {K : Kt} {l : Launch} {G0 : Gt} {Pr : Int32 → Gt → Prop} (B : BX X K l cX10_setDevice 4 RX10 1 23 G0 (some (.int)) "setDevice") {G : Gt} {a0 : Nat} {x1 : Int32} {x2 : Int32} {x3 : Int32} {sx0 : Int32} {sx1 : Int32} {sx2 : Int32} (h : wX10_setDevice_43 X Pr G a0 x1 x2 x3 sx0 sx1 sx2) : WM X K (QM X K G0 (rI Pr) noX) G 43 [some (.ref a0), some (.int x1), some (.int x2), some (.int x3)] [.int sx2, .int sx1, .int sx0] := by
  obtain ⟨hL, C, E0, hr, hnm, hex, hfl⟩ := id B
  unfold wX10_setDevice_43 at h
  refine r_callS C hL yw_X10_in sw_RX10_39 rfl rfl (Nat.le_of_ble_eq_true rfl) ⟨(Nat.le_of_ble_eq_true rfl), (Nat.le_of_ble_eq_true rfl)⟩ (mX10_in hfl h) rfl dX10_setDevice_43 (kI (fun r1 G2 h => ?_)) kN
  refine r_if_eq C 74 dX10_setDevice_46 (by decide) (fun c => ?_) (fun c => ?_)
  · replace h := h.1 c
    refine r_aloadR_n C 0 dX10_setDevice_74 rfl rfl ?_
    refine r_iconst C 2 dX10_setDevice_75 (by decide) ?_
    obtain ⟨ht, h⟩ := h
    refine r_callV C (r := (RX10, TX10, 19)) hL yw_X10_fails vw_RX10_43 rfl rfl ht rfl rfl (Nat.le_of_ble_eq_true rfl) ⟨(Nat.le_of_ble_eq_true rfl), (Nat.le_of_ble_eq_true rfl)⟩ (mX10_fails hfl h) rfl dX10_setDevice_76 (kI (fun r23 G24 h => ?_)) kN
    exact r_iret C E0 hr ⟨_, rfl, h⟩ dX10_setDevice_79
  · replace h := h.2 c
    refine r_aloadR_n C 0 dX10_setDevice_49 rfl rfl ?_
    refine r_iload_n C 2 dX10_setDevice_50 rfl rfl ?_
    refine r_if_ne C 60 dX10_setDevice_51 (by decide) (fun c => ?_) (fun c => ?_)
    · replace h := h.1 c
      refine r_sipush C 220 dX10_setDevice_60 (by decide) ?_
      refine r_iload_n C 1 dX10_setDevice_63 rfl rfl ?_
      refine r_iadd C dX10_setDevice_64 ?_
      refine r_iconst C 1 dX10_setDevice_65 (by decide) ?_
      refine r_isub C dX10_setDevice_66 ?_
      refine r_iload_n C 3 dX10_setDevice_67 rfl rfl ?_
      obtain ⟨ht, h⟩ := h
      refine r_callV C (r := (RX10, TX10, 19)) hL yw_X10_sets vw_RX10_47 rfl rfl ht rfl rfl (Nat.le_of_ble_eq_true rfl) ⟨(Nat.le_of_ble_eq_true rfl), (Nat.le_of_ble_eq_true rfl)⟩ (mX10_sets hfl h) rfl dX10_setDevice_68 (kI (fun r63 G64 h => ?_)) kN
      refine r_goto C 79 dX10_setDevice_71 (by decide) ?_
      exact r_iret C E0 hr ⟨_, rfl, h⟩ dX10_setDevice_79
    · replace h := h.2 c
      refine r_sipush C 224 dX10_setDevice_54 (by decide) ?_
      refine r_goto C 63 dX10_setDevice_57 (by decide) ?_
      refine r_iload_n C 1 dX10_setDevice_63 rfl rfl ?_
      refine r_iadd C dX10_setDevice_64 ?_
      refine r_iconst C 1 dX10_setDevice_65 (by decide) ?_
      refine r_isub C dX10_setDevice_66 ?_
      refine r_iload_n C 3 dX10_setDevice_67 rfl rfl ?_
      obtain ⟨ht, h⟩ := h
      refine r_callV C (r := (RX10, TX10, 19)) hL yw_X10_sets vw_RX10_47 rfl rfl ht rfl rfl (Nat.le_of_ble_eq_true rfl) ⟨(Nat.le_of_ble_eq_true rfl), (Nat.le_of_ble_eq_true rfl)⟩ (mX10_sets hfl h) rfl dX10_setDevice_68 (kI (fun r83 G84 h => ?_)) kN
      refine r_goto C 79 dX10_setDevice_71 (by decide) ?_
      exact r_iret C E0 hr ⟨_, rfl, h⟩ dX10_setDevice_79
def wX10_setDevice (X : Xt) (G : Gt) (a0 : Nat) (x1 : Int32) (x2 : Int32) (x3 : Int32) (Pr : Int32 → Gt → Prop) : Prop := gT G a0 = (1, 11) ∧ ∀ G1, G1 = sI G 354 a0 0 → wX10_in X G1 x1 1 3 (fun r2 G3 => (r2 = 0 → gT G3 a0 = (1, 11) ∧ wX10_fails X G3 a0 1 (fun r24 G25 => Pr r24 G25)) ∧ (¬ (r2 = 0) → wX10_in X G3 x2 0 1 (fun r44 G45 => (¬ r44 = 0 → (¬ x2 = 0 → wX10_setDevice_43 X Pr G45 a0 x1 x2 x3 x3 (0 : Int32) (65535 : Int32)) ∧ (x2 = 0 → wX10_setDevice_43 X Pr G45 a0 x1 x2 x3 x3 (0 : Int32) (1000 : Int32))) ∧ (r44 = 0 → gT G45 a0 = (1, 11) ∧ wX10_fails X G45 a0 1 (fun r86 G87 => Pr r86 G87)))))
set_option maxRecDepth 20000 in
theorem mX10_setDevice {X : Xt} {l : Launch} (hfl : l.stackTraces = false) {G : Gt} {a0 : Nat} {x1 : Int32} {x2 : Int32} {x3 : Int32} {Pr : Int32 → Gt → Prop} (h : wX10_setDevice X G a0 x1 x2 x3 Pr) : Mc X l yX10_setDevice (.code yX10_setDevice cX10_setDevice 4 (some (.int))) 1 23 [.ref a0, .int x1, .int x2, .int x3] G (rI Pr) noX := by
  refine Mc.of (by decide +kernel) hfl [some (.ref a0), some (.int x1), some (.int x2), some (.int x3)] rfl (Nat.le_of_ble_eq_true rfl) rfl ?_
  intro K hL C E0 hr hnm hex
  have B : BX X K l cX10_setDevice 4 RX10 1 23 G (some (.int)) "setDevice" := ⟨hL, C, E0, hr, hnm, hex, hfl⟩
  have C : Cx X K cX10_setDevice 4 RX10 1 23 := C
  unfold wX10_setDevice at h
  refine r_aloadR_n C 0 dX10_setDevice_0 rfl rfl ?_
  refine r_iconst C 0 dX10_setDevice_1 (by decide) ?_
  obtain ⟨ht, h⟩ := h
  refine r_putI C cw_11 fp_RX10_36 rfl ht dX10_setDevice_2 ?_
  refine r_nm (fun G1 hG1 => ?_)
  replace h := h G1 hG1
  refine r_iload_n C 1 dX10_setDevice_5 rfl rfl ?_
  refine r_iconst C 1 dX10_setDevice_6 (by decide) ?_
  refine r_iconst C 3 dX10_setDevice_7 (by decide) ?_
  refine r_callS C hL yw_X10_in sw_RX10_39 rfl rfl (Nat.le_of_ble_eq_true rfl) ⟨(Nat.le_of_ble_eq_true rfl), (Nat.le_of_ble_eq_true rfl)⟩ (mX10_in hfl h) rfl dX10_setDevice_8 (kI (fun r2 G3 h => ?_)) kN
  refine r_if_eq C 23 dX10_setDevice_11 (by decide) (fun c => ?_) (fun c => ?_)
  · replace h := h.1 c
    refine r_aloadR_n C 0 dX10_setDevice_23 rfl rfl ?_
    refine r_iconst C 1 dX10_setDevice_24 (by decide) ?_
    obtain ⟨ht, h⟩ := h
    refine r_callV C (r := (RX10, TX10, 19)) hL yw_X10_fails vw_RX10_43 rfl rfl ht rfl rfl (Nat.le_of_ble_eq_true rfl) ⟨(Nat.le_of_ble_eq_true rfl), (Nat.le_of_ble_eq_true rfl)⟩ (mX10_fails hfl h) rfl dX10_setDevice_25 (kI (fun r24 G25 h => ?_)) kN
    exact r_iret C E0 hr ⟨_, rfl, h⟩ dX10_setDevice_28
  · replace h := h.2 c
    refine r_iload_n C 2 dX10_setDevice_14 rfl rfl ?_
    refine r_iconst C 0 dX10_setDevice_15 (by decide) ?_
    refine r_iconst C 1 dX10_setDevice_16 (by decide) ?_
    refine r_callS C hL yw_X10_in sw_RX10_39 rfl rfl (Nat.le_of_ble_eq_true rfl) ⟨(Nat.le_of_ble_eq_true rfl), (Nat.le_of_ble_eq_true rfl)⟩ (mX10_in hfl h) rfl dX10_setDevice_17 (kI (fun r44 G45 h => ?_)) kN
    refine r_if_ne C 29 dX10_setDevice_20 (by decide) (fun c => ?_) (fun c => ?_)
    · replace h := h.1 c
      refine r_iload_n C 3 dX10_setDevice_29 rfl rfl ?_
      refine r_iconst C 0 dX10_setDevice_30 (by decide) ?_
      refine r_iload_n C 2 dX10_setDevice_31 rfl rfl ?_
      refine r_if_ne C 41 dX10_setDevice_32 (by decide) (fun c => ?_) (fun c => ?_)
      · replace h := h.1 c
        refine r_ldc C kc_RX10_25 dX10_setDevice_41 ?_
        exact bX10_setDevice_43 B h
      · replace h := h.2 c
        refine r_sipush C 1000 dX10_setDevice_35 (by decide) ?_
        refine r_goto C 43 dX10_setDevice_38 (by decide) ?_
        exact bX10_setDevice_43 B h
    · replace h := h.2 c
      refine r_aloadR_n C 0 dX10_setDevice_23 rfl rfl ?_
      refine r_iconst C 1 dX10_setDevice_24 (by decide) ?_
      obtain ⟨ht, h⟩ := h
      refine r_callV C (r := (RX10, TX10, 19)) hL yw_X10_fails vw_RX10_43 rfl rfl ht rfl rfl (Nat.le_of_ble_eq_true rfl) ⟨(Nat.le_of_ble_eq_true rfl), (Nat.le_of_ble_eq_true rfl)⟩ (mX10_fails hfl h) rfl dX10_setDevice_25 (kI (fun r86 G87 h => ?_)) kN
      exact r_iret C E0 hr ⟨_, rfl, h⟩ dX10_setDevice_28
def wX10_poke (X : Xt) (G : Gt) (a0 : Nat) (x1 : Int32) (x2 : Int32) (x3 : Int32) (Pr : Int32 → Gt → Prop) : Prop := gT G a0 = (1, 11) ∧ ∀ G1, G1 = sI G 354 a0 0 → wX10_isRegister X G1 x1 x2 (fun r2 G3 => (¬ r2 = 0 → wX10_in X G3 x3 0 65535 (fun r24 G25 => (r24 = 0 → gT G25 a0 = (1, 11) ∧ wX10_fails X G25 a0 2 (fun r46 G47 => Pr r46 G47)) ∧ (¬ (r24 = 0) → wX10_registerAt X G25 x1 x2 (fun r66 G67 => gT G67 a0 = (1, 11) ∧ wX10_sets X G67 a0 (20 + r66) x3 (fun r68 G69 => Pr r68 G69))))) ∧ (r2 = 0 → gT G3 a0 = (1, 11) ∧ wX10_fails X G3 a0 1 (fun r44 G45 => Pr r44 G45)))
set_option maxRecDepth 20000 in
theorem mX10_poke {X : Xt} {l : Launch} (hfl : l.stackTraces = false) {G : Gt} {a0 : Nat} {x1 : Int32} {x2 : Int32} {x3 : Int32} {Pr : Int32 → Gt → Prop} (h : wX10_poke X G a0 x1 x2 x3 Pr) : Mc X l yX10_poke (.code yX10_poke cX10_poke 4 (some (.int))) 2 43 [.ref a0, .int x1, .int x2, .int x3] G (rI Pr) noX := by
  refine Mc.of (by decide +kernel) hfl [some (.ref a0), some (.int x1), some (.int x2), some (.int x3)] rfl (Nat.le_of_ble_eq_true rfl) rfl ?_
  intro K hL C E0 hr hnm hex
  have B : BX X K l cX10_poke 4 RX10 2 43 G (some (.int)) "poke" := ⟨hL, C, E0, hr, hnm, hex, hfl⟩
  have C : Cx X K cX10_poke 4 RX10 2 43 := C
  unfold wX10_poke at h
  refine r_aloadR_n C 0 dX10_poke_0 rfl rfl ?_
  refine r_iconst C 0 dX10_poke_1 (by decide) ?_
  obtain ⟨ht, h⟩ := h
  refine r_putI C cw_11 fp_RX10_36 rfl ht dX10_poke_2 ?_
  refine r_nm (fun G1 hG1 => ?_)
  replace h := h G1 hG1
  refine r_iload_n C 1 dX10_poke_5 rfl rfl ?_
  refine r_iload_n C 2 dX10_poke_6 rfl rfl ?_
  refine r_callS C hL yw_X10_isRegister sw_RX10_51 rfl rfl (Nat.le_of_ble_eq_true rfl) ⟨(Nat.le_of_ble_eq_true rfl), (Nat.le_of_ble_eq_true rfl)⟩ (mX10_isRegister hfl h) rfl dX10_poke_7 (kI (fun r2 G3 h => ?_)) kN
  refine r_if_ne C 19 dX10_poke_10 (by decide) (fun c => ?_) (fun c => ?_)
  · replace h := h.1 c
    refine r_iload_n C 3 dX10_poke_19 rfl rfl ?_
    refine r_iconst C 0 dX10_poke_20 (by decide) ?_
    refine r_ldc C kc_RX10_25 dX10_poke_21 ?_
    refine r_callS C hL yw_X10_in sw_RX10_39 rfl rfl (Nat.le_of_ble_eq_true rfl) ⟨(Nat.le_of_ble_eq_true rfl), (Nat.le_of_ble_eq_true rfl)⟩ (mX10_in hfl h) rfl dX10_poke_23 (kI (fun r24 G25 h => ?_)) kN
    refine r_if_eq C 45 dX10_poke_26 (by decide) (fun c => ?_) (fun c => ?_)
    · replace h := h.1 c
      refine r_aloadR_n C 0 dX10_poke_45 rfl rfl ?_
      refine r_iconst C 2 dX10_poke_46 (by decide) ?_
      obtain ⟨ht, h⟩ := h
      refine r_callV C (r := (RX10, TX10, 19)) hL yw_X10_fails vw_RX10_43 rfl rfl ht rfl rfl (Nat.le_of_ble_eq_true rfl) ⟨(Nat.le_of_ble_eq_true rfl), (Nat.le_of_ble_eq_true rfl)⟩ (mX10_fails hfl h) rfl dX10_poke_47 (kI (fun r46 G47 h => ?_)) kN
      exact r_iret C E0 hr ⟨_, rfl, h⟩ dX10_poke_50
    · replace h := h.2 c
      refine r_aloadR_n C 0 dX10_poke_29 rfl rfl ?_
      refine r_bipush C 20 dX10_poke_30 (by decide) ?_
      refine r_iload_n C 1 dX10_poke_32 rfl rfl ?_
      refine r_iload_n C 2 dX10_poke_33 rfl rfl ?_
      refine r_callS C hL yw_X10_registerAt sw_RX10_55 rfl rfl (Nat.le_of_ble_eq_true rfl) ⟨(Nat.le_of_ble_eq_true rfl), (Nat.le_of_ble_eq_true rfl)⟩ (mX10_registerAt hfl h) rfl dX10_poke_34 (kI (fun r66 G67 h => ?_)) kN
      refine r_iadd C dX10_poke_37 ?_
      refine r_iload_n C 3 dX10_poke_38 rfl rfl ?_
      obtain ⟨ht, h⟩ := h
      refine r_callV C (r := (RX10, TX10, 19)) hL yw_X10_sets vw_RX10_47 rfl rfl ht rfl rfl (Nat.le_of_ble_eq_true rfl) ⟨(Nat.le_of_ble_eq_true rfl), (Nat.le_of_ble_eq_true rfl)⟩ (mX10_sets hfl h) rfl dX10_poke_39 (kI (fun r68 G69 h => ?_)) kN
      refine r_goto C 50 dX10_poke_42 (by decide) ?_
      exact r_iret C E0 hr ⟨_, rfl, h⟩ dX10_poke_50
  · replace h := h.2 c
    refine r_aloadR_n C 0 dX10_poke_13 rfl rfl ?_
    refine r_iconst C 1 dX10_poke_14 (by decide) ?_
    obtain ⟨ht, h⟩ := h
    refine r_callV C (r := (RX10, TX10, 19)) hL yw_X10_fails vw_RX10_43 rfl rfl ht rfl rfl (Nat.le_of_ble_eq_true rfl) ⟨(Nat.le_of_ble_eq_true rfl), (Nat.le_of_ble_eq_true rfl)⟩ (mX10_fails hfl h) rfl dX10_poke_15 (kI (fun r44 G45 h => ?_)) kN
    exact r_iret C E0 hr ⟨_, rfl, h⟩ dX10_poke_18
def wX10_peek (X : Xt) (G : Gt) (a0 : Nat) (x1 : Int32) (x2 : Int32) (Pr : Int32 → Gt → Prop) : Prop := gT G a0 = (1, 11) ∧ ∀ G1, G1 = sI G 354 a0 0 → wX10_isRegister X G1 x1 x2 (fun r2 G3 => (r2 = 0 → gT G3 a0 = (1, 11) ∧ wX10_fails X G3 a0 1 (fun r24 G25 => Pr r24 G25)) ∧ (¬ (r2 = 0) → gT G3 a0 = (1, 11) ∧ ∃ b44, gR G3 352 a0 = some b44 ∧ wX10_registerAt X G3 x1 x2 (fun r45 G46 => (gT G46 b44).1 = 2 ∧ vp_in (20 + r45) (gT G46 b44).2 ∧ Pr (gA G46 b44 (20 + r45).toNatClampNeg) G46)))
set_option maxRecDepth 20000 in
theorem mX10_peek {X : Xt} {l : Launch} (hfl : l.stackTraces = false) {G : Gt} {a0 : Nat} {x1 : Int32} {x2 : Int32} {Pr : Int32 → Gt → Prop} (h : wX10_peek X G a0 x1 x2 Pr) : Mc X l yX10_peek (.code yX10_peek cX10_peek 3 (some (.int))) 2 43 [.ref a0, .int x1, .int x2] G (rI Pr) noX := by
  refine Mc.of (by decide +kernel) hfl [some (.ref a0), some (.int x1), some (.int x2)] rfl (Nat.le_of_ble_eq_true rfl) rfl ?_
  intro K hL C E0 hr hnm hex
  have B : BX X K l cX10_peek 3 RX10 2 43 G (some (.int)) "peek" := ⟨hL, C, E0, hr, hnm, hex, hfl⟩
  have C : Cx X K cX10_peek 3 RX10 2 43 := C
  unfold wX10_peek at h
  refine r_aloadR_n C 0 dX10_peek_0 rfl rfl ?_
  refine r_iconst C 0 dX10_peek_1 (by decide) ?_
  obtain ⟨ht, h⟩ := h
  refine r_putI C cw_11 fp_RX10_36 rfl ht dX10_peek_2 ?_
  refine r_nm (fun G1 hG1 => ?_)
  replace h := h G1 hG1
  refine r_iload_n C 1 dX10_peek_5 rfl rfl ?_
  refine r_iload_n C 2 dX10_peek_6 rfl rfl ?_
  refine r_callS C hL yw_X10_isRegister sw_RX10_51 rfl rfl (Nat.le_of_ble_eq_true rfl) ⟨(Nat.le_of_ble_eq_true rfl), (Nat.le_of_ble_eq_true rfl)⟩ (mX10_isRegister hfl h) rfl dX10_peek_7 (kI (fun r2 G3 h => ?_)) kN
  refine r_if_eq C 29 dX10_peek_10 (by decide) (fun c => ?_) (fun c => ?_)
  · replace h := h.1 c
    refine r_aloadR_n C 0 dX10_peek_29 rfl rfl ?_
    refine r_iconst C 1 dX10_peek_30 (by decide) ?_
    obtain ⟨ht, h⟩ := h
    refine r_callV C (r := (RX10, TX10, 19)) hL yw_X10_fails vw_RX10_43 rfl rfl ht rfl rfl (Nat.le_of_ble_eq_true rfl) ⟨(Nat.le_of_ble_eq_true rfl), (Nat.le_of_ble_eq_true rfl)⟩ (mX10_fails hfl h) rfl dX10_peek_31 (kI (fun r24 G25 h => ?_)) kN
    exact r_iret C E0 hr ⟨_, rfl, h⟩ dX10_peek_34
  · replace h := h.2 c
    refine r_aloadR_n C 0 dX10_peek_13 rfl rfl ?_
    obtain ⟨ht, h⟩ := h
    obtain ⟨b44, hb, h⟩ := h
    refine r_getR C fw_RX10_7 rfl ht hb dX10_peek_14 ?_
    refine r_bipush C 20 dX10_peek_17 (by decide) ?_
    refine r_iload_n C 1 dX10_peek_19 rfl rfl ?_
    refine r_iload_n C 2 dX10_peek_20 rfl rfl ?_
    refine r_callS C hL yw_X10_registerAt sw_RX10_55 rfl rfl (Nat.le_of_ble_eq_true rfl) ⟨(Nat.le_of_ble_eq_true rfl), (Nat.le_of_ble_eq_true rfl)⟩ (mX10_registerAt hfl h) rfl dX10_peek_21 (kI (fun r45 G46 h => ?_)) kN
    refine r_iadd C dX10_peek_24 ?_
    obtain ⟨ht, hi, h⟩ := h
    refine r_ialdP C ht hi dX10_peek_25 ?_
    refine r_goto C 34 dX10_peek_26 (by decide) ?_
    exact r_iret C E0 hr ⟨_, rfl, h⟩ dX10_peek_34
def wX10_protect_42 (X : Xt) (Pr : Int32 → Gt → Prop) (G : Gt) (sa0 : Nat) (sx1 : Int32) (sx2 : Int32) : Prop := gT G sa0 = (1, 11) ∧ wX10_sets X G sa0 sx1 sx2 (fun r1 G2 => (¬ r1 = 1 → Pr 0 G2) ∧ (r1 = 1 → Pr 1 G2))
set_option maxRecDepth 20000 in
theorem bX10_protect_42 {X : Xt} {K : Kt} {l : Launch} {G0 : Gt} {Pr : Int32 → Gt → Prop} (B : BX X K l cX10_protect 4 RX10 2 43 G0 (some (.boolean)) "protect") {G : Gt} {sa0 : Nat} {sx1 : Int32} {sx2 : Int32} (h : wX10_protect_42 X Pr G sa0 sx1 sx2) : WM X K (QM X K G0 (rI Pr) noX) G 42 [none, none, none, none] [.int sx2, .int sx1, .ref sa0] := by
  obtain ⟨hL, C, E0, hr, hnm, hex, hfl⟩ := id B
  unfold wX10_protect_42 at h
  obtain ⟨ht, h⟩ := h
  refine r_callV C (r := (RX10, TX10, 19)) hL yw_X10_sets vw_RX10_47 rfl rfl ht rfl rfl (Nat.le_of_ble_eq_true rfl) ⟨(Nat.le_of_ble_eq_true rfl), (Nat.le_of_ble_eq_true rfl)⟩ (mX10_sets hfl h) rfl dX10_protect_42 (kI (fun r1 G2 h => ?_)) kN
  refine r_iconst C 1 dX10_protect_45 (by decide) ?_
  refine r_icmp_ne C 53 dX10_protect_46 (by decide) (fun c => ?_) (fun c => ?_)
  · replace h := h.1 c
    refine r_iconst C 0 dX10_protect_53 (by decide) ?_
    exact r_zret C E0 hr (Or.inl rfl) ⟨_, rfl, h⟩ dX10_protect_54
  · replace h := h.2 c
    refine r_iconst C 1 dX10_protect_49 (by decide) ?_
    refine r_goto C 54 dX10_protect_50 (by decide) ?_
    exact r_zret C E0 hr (Or.inr rfl) ⟨_, rfl, h⟩ dX10_protect_54
def wX10_protect_14 (X : Xt) (Pr : Int32 → Gt → Prop) (G : Gt) (a0 : Nat) (x1 : Int32) (x2 : Int32) (x3 : Int32) (sa0 : Nat) (sx1 : Int32) : Prop := gT G sa0 = (1, 11) ∧ ∀ G1, G1 = sI G 354 sa0 sx1 → gT G1 a0 = (1, 11) ∧ (¬ (gI G1 354 a0) = 0 → Pr 0 G1) ∧ ((gI G1 354 a0) = 0 → wX10_registerAt X G1 x1 x2 (fun r42 G43 => (x3 = 0 → wX10_protect_42 X Pr G43 a0 (120 + r42) (0 : Int32)) ∧ (¬ (x3 = 0) → wX10_protect_42 X Pr G43 a0 (120 + r42) (1 : Int32))))
set_option maxRecDepth 20000 in
theorem bX10_protect_14 {X : Xt} {K : Kt} {l : Launch} {G0 : Gt} {Pr : Int32 → Gt → Prop} (B : BX X K l cX10_protect 4 RX10 2 43 G0 (some (.boolean)) "protect") {G : Gt} {a0 : Nat} {x1 : Int32} {x2 : Int32} {x3 : Int32} {sa0 : Nat} {sx1 : Int32} (h : wX10_protect_14 X Pr G a0 x1 x2 x3 sa0 sx1) : WM X K (QM X K G0 (rI Pr) noX) G 14 [some (.ref a0), some (.int x1), some (.int x2), some (.int x3)] [.int sx1, .ref sa0] := by
  obtain ⟨hL, C, E0, hr, hnm, hex, hfl⟩ := id B
  unfold wX10_protect_14 at h
  obtain ⟨ht, h⟩ := h
  refine r_putI C cw_11 fp_RX10_36 rfl ht dX10_protect_14 ?_
  refine r_nm (fun G1 hG1 => ?_)
  replace h := h G1 hG1
  refine r_aloadR_n C 0 dX10_protect_17 rfl rfl ?_
  obtain ⟨ht, h⟩ := h
  refine r_getI C fw_RX10_36 rfl ht dX10_protect_18 ?_
  refine r_if_ne C 53 dX10_protect_21 (by decide) (fun c => ?_) (fun c => ?_)
  · replace h := h.1 c
    refine r_iconst C 0 dX10_protect_53 (by decide) ?_
    exact r_zret C E0 hr (Or.inl rfl) ⟨_, rfl, h⟩ dX10_protect_54
  · replace h := h.2 c
    refine r_aloadR_n C 0 dX10_protect_24 rfl rfl ?_
    refine r_bipush C 120 dX10_protect_25 (by decide) ?_
    refine r_iload_n C 1 dX10_protect_27 rfl rfl ?_
    refine r_iload_n C 2 dX10_protect_28 rfl rfl ?_
    refine r_callS C hL yw_X10_registerAt sw_RX10_55 rfl rfl (Nat.le_of_ble_eq_true rfl) ⟨(Nat.le_of_ble_eq_true rfl), (Nat.le_of_ble_eq_true rfl)⟩ (mX10_registerAt hfl h) rfl dX10_protect_29 (kI (fun r42 G43 h => ?_)) kN
    refine r_iadd C dX10_protect_32 ?_
    refine r_iload_n C 3 dX10_protect_33 rfl rfl ?_
    refine r_if_eq C 41 dX10_protect_34 (by decide) (fun c => ?_) (fun c => ?_)
    · replace h := h.1 c
      refine r_iconst C 0 dX10_protect_41 (by decide) ?_
      refine r_fg (lv' := [none, none, none, none]) (show fgt _ _ from trivial) ?_
      exact bX10_protect_42 B h
    · replace h := h.2 c
      refine r_iconst C 1 dX10_protect_37 (by decide) ?_
      refine r_goto C 42 dX10_protect_38 (by decide) ?_
      refine r_fg (lv' := [none, none, none, none]) (show fgt _ _ from trivial) ?_
      exact bX10_protect_42 B h
def wX10_protect (X : Xt) (G : Gt) (a0 : Nat) (x1 : Int32) (x2 : Int32) (x3 : Int32) (Pr : Int32 → Gt → Prop) : Prop := wX10_isRegister X G x1 x2 (fun r1 G2 => (r1 = 0 → wX10_protect_14 X Pr G2 a0 x1 x2 x3 a0 (1 : Int32)) ∧ (¬ (r1 = 0) → wX10_protect_14 X Pr G2 a0 x1 x2 x3 a0 (0 : Int32)))
set_option maxRecDepth 20000 in
theorem mX10_protect {X : Xt} {l : Launch} (hfl : l.stackTraces = false) {G : Gt} {a0 : Nat} {x1 : Int32} {x2 : Int32} {x3 : Int32} {Pr : Int32 → Gt → Prop} (h : wX10_protect X G a0 x1 x2 x3 Pr) : Mc X l yX10_protect (.code yX10_protect cX10_protect 4 (some (.boolean))) 2 43 [.ref a0, .int x1, .int x2, .int x3] G (rI Pr) noX := by
  refine Mc.of (by decide +kernel) hfl [some (.ref a0), some (.int x1), some (.int x2), some (.int x3)] rfl (Nat.le_of_ble_eq_true rfl) rfl ?_
  intro K hL C E0 hr hnm hex
  have B : BX X K l cX10_protect 4 RX10 2 43 G (some (.boolean)) "protect" := ⟨hL, C, E0, hr, hnm, hex, hfl⟩
  have C : Cx X K cX10_protect 4 RX10 2 43 := C
  unfold wX10_protect at h
  refine r_aloadR_n C 0 dX10_protect_0 rfl rfl ?_
  refine r_iload_n C 1 dX10_protect_1 rfl rfl ?_
  refine r_iload_n C 2 dX10_protect_2 rfl rfl ?_
  refine r_callS C hL yw_X10_isRegister sw_RX10_51 rfl rfl (Nat.le_of_ble_eq_true rfl) ⟨(Nat.le_of_ble_eq_true rfl), (Nat.le_of_ble_eq_true rfl)⟩ (mX10_isRegister hfl h) rfl dX10_protect_3 (kI (fun r1 G2 h => ?_)) kN
  refine r_if_eq C 13 dX10_protect_6 (by decide) (fun c => ?_) (fun c => ?_)
  · replace h := h.1 c
    refine r_iconst C 1 dX10_protect_13 (by decide) ?_
    exact bX10_protect_14 B h
  · replace h := h.2 c
    refine r_iconst C 0 dX10_protect_9 (by decide) ?_
    refine r_goto C 14 dX10_protect_10 (by decide) ?_
    exact bX10_protect_14 B h
def wX10_faults (X : Xt) (G : Gt) (x0 : Int32) (Pr : Int32 → Gt → Prop) : Prop := Pr (230 + (13 * (x0 - 1))) G
set_option maxRecDepth 20000 in
theorem mX10_faults {X : Xt} {l : Launch} (hfl : l.stackTraces = false) {G : Gt} {x0 : Int32} {Pr : Int32 → Gt → Prop} (h : wX10_faults X G x0 Pr) : Mc X l yX10_faults (.code yX10_faults cX10_faults 1 (some (.int))) 0 0 [.int x0] G (rI Pr) noX := by
  refine Mc.of (by decide +kernel) hfl [some (.int x0)] rfl (Nat.le_of_ble_eq_true rfl) rfl ?_
  intro K hL C E0 hr hnm hex
  have B : BX X K l cX10_faults 1 RX10 0 0 G (some (.int)) "faults" := ⟨hL, C, E0, hr, hnm, hex, hfl⟩
  have C : Cx X K cX10_faults 1 RX10 0 0 := C
  unfold wX10_faults at h
  refine r_sipush C 230 dX10_faults_0 (by decide) ?_
  refine r_bipush C 13 dX10_faults_3 (by decide) ?_
  refine r_iload_n C 0 dX10_faults_5 rfl rfl ?_
  refine r_iconst C 1 dX10_faults_6 (by decide) ?_
  refine r_isub C dX10_faults_7 ?_
  refine r_imul C dX10_faults_8 ?_
  refine r_iadd C dX10_faults_9 ?_
  exact r_iret C E0 hr ⟨_, rfl, h⟩ dX10_faults_10
def wX10_fault (X : Xt) (G : Gt) (a0 : Nat) (x1 : Int32) (x2 : Int32) (x3 : Int32) (Pr : Int32 → Gt → Prop) : Prop := gT G a0 = (1, 11) ∧ ∀ G1, G1 = sI G 354 a0 0 → wX10_in X G1 x1 1 3 (fun r2 G3 => (¬ r2 = 0 → wX10_in X G3 x2 1 4 (fun r24 G25 => (r24 = 0 → gT G25 a0 = (1, 11) ∧ wX10_fails X G25 a0 2 (fun r46 G47 => Pr r46 G47)) ∧ (¬ (r24 = 0) → wX10_in X G25 x3 0 2000 (fun r66 G67 => (¬ r66 = 0 → wX10_faults X G67 x1 (fun r88 G89 => gT G89 a0 = (1, 11) ∧ ∃ b90, gR G89 352 a0 = some b90 ∧ (gT G89 b90).1 = 2 ∧ vp_in r88 (gT G89 b90).2 ∧ (¬ (gA G89 b90 r88.toNatClampNeg) = 6 → gT G89 a0 = (1, 11) ∧ ∃ b111, gR G89 352 a0 = some b111 ∧ gT G89 a0 = (1, 11) ∧ ∃ b112, gR G89 352 a0 = some b112 ∧ (gT G89 b112).1 = 2 ∧ vp_in r88 (gT G89 b112).2 ∧ (gT G89 b111).1 = 2 ∧ vp_in ((r88 + 1) + (2 * (gA G89 b112 r88.toNatClampNeg))) (gT G89 b111).2 ∧ ∀ G113, G113 = sA G89 b111 (upd (gA G89 b111) ((r88 + 1) + (2 * (gA G89 b112 r88.toNatClampNeg))).toNatClampNeg x2) → gT G113 a0 = (1, 11) ∧ ∃ b114, gR G113 352 a0 = some b114 ∧ gT G113 a0 = (1, 11) ∧ ∃ b115, gR G113 352 a0 = some b115 ∧ (gT G113 b115).1 = 2 ∧ vp_in r88 (gT G113 b115).2 ∧ (gT G113 b114).1 = 2 ∧ vp_in ((r88 + 2) + (2 * (gA G113 b115 r88.toNatClampNeg))) (gT G113 b114).2 ∧ ∀ G116, G116 = sA G113 b114 (upd (gA G113 b114) ((r88 + 2) + (2 * (gA G113 b115 r88.toNatClampNeg))).toNatClampNeg x3) → gT G116 a0 = (1, 11) ∧ ∃ b117, gR G116 352 a0 = some b117 ∧ (gT G116 b117).1 = 2 ∧ vp_in r88 (gT G116 b117).2 ∧ (gT G116 b117).1 = 2 ∧ vp_in r88 (gT G116 b117).2 ∧ ∀ G118, G118 = sA G116 b117 (upd (gA G116 b117) r88.toNatClampNeg ((gA G116 b117 r88.toNatClampNeg) + 1)) → gT G118 a0 = (1, 11) ∧ ∃ b119, gR G118 352 a0 = some b119 ∧ (gT G118 b119).1 = 2 ∧ vp_in r88 (gT G118 b119).2 ∧ Pr (gA G118 b119 r88.toNatClampNeg) G118) ∧ ((gA G89 b90 r88.toNatClampNeg) = 6 → gT G89 a0 = (1, 11) ∧ wX10_fails X G89 a0 3 (fun r131 G132 => Pr r131 G132)))) ∧ (r66 = 0 → gT G67 a0 = (1, 11) ∧ wX10_fails X G67 a0 2 (fun r108 G109 => Pr r108 G109)))))) ∧ (r2 = 0 → gT G3 a0 = (1, 11) ∧ wX10_fails X G3 a0 1 (fun r44 G45 => Pr r44 G45)))
set_option maxRecDepth 20000 in
theorem mX10_fault {X : Xt} {l : Launch} (hfl : l.stackTraces = false) {G : Gt} {a0 : Nat} {x1 : Int32} {x2 : Int32} {x3 : Int32} {Pr : Int32 → Gt → Prop} (h : wX10_fault X G a0 x1 x2 x3 Pr) : Mc X l yX10_fault (.code yX10_fault cX10_fault 5 (some (.int))) 1 22 [.ref a0, .int x1, .int x2, .int x3] G (rI Pr) noX := by
  refine Mc.of (by decide +kernel) hfl [some (.ref a0), some (.int x1), some (.int x2), some (.int x3), none] rfl (Nat.le_of_ble_eq_true rfl) rfl ?_
  intro K hL C E0 hr hnm hex
  have B : BX X K l cX10_fault 5 RX10 1 22 G (some (.int)) "fault" := ⟨hL, C, E0, hr, hnm, hex, hfl⟩
  have C : Cx X K cX10_fault 5 RX10 1 22 := C
  unfold wX10_fault at h
  refine r_aloadR_n C 0 dX10_fault_0 rfl rfl ?_
  refine r_iconst C 0 dX10_fault_1 (by decide) ?_
  obtain ⟨ht, h⟩ := h
  refine r_putI C cw_11 fp_RX10_36 rfl ht dX10_fault_2 ?_
  refine r_nm (fun G1 hG1 => ?_)
  replace h := h G1 hG1
  refine r_iload_n C 1 dX10_fault_5 rfl rfl ?_
  refine r_iconst C 1 dX10_fault_6 (by decide) ?_
  refine r_iconst C 3 dX10_fault_7 (by decide) ?_
  refine r_callS C hL yw_X10_in sw_RX10_39 rfl rfl (Nat.le_of_ble_eq_true rfl) ⟨(Nat.le_of_ble_eq_true rfl), (Nat.le_of_ble_eq_true rfl)⟩ (mX10_in hfl h) rfl dX10_fault_8 (kI (fun r2 G3 h => ?_)) kN
  refine r_if_ne C 20 dX10_fault_11 (by decide) (fun c => ?_) (fun c => ?_)
  · replace h := h.1 c
    refine r_iload_n C 2 dX10_fault_20 rfl rfl ?_
    refine r_iconst C 1 dX10_fault_21 (by decide) ?_
    refine r_iconst C 4 dX10_fault_22 (by decide) ?_
    refine r_callS C hL yw_X10_in sw_RX10_39 rfl rfl (Nat.le_of_ble_eq_true rfl) ⟨(Nat.le_of_ble_eq_true rfl), (Nat.le_of_ble_eq_true rfl)⟩ (mX10_in hfl h) rfl dX10_fault_23 (kI (fun r24 G25 h => ?_)) kN
    refine r_if_eq C 40 dX10_fault_26 (by decide) (fun c => ?_) (fun c => ?_)
    · replace h := h.1 c
      refine r_aloadR_n C 0 dX10_fault_40 rfl rfl ?_
      refine r_iconst C 2 dX10_fault_41 (by decide) ?_
      obtain ⟨ht, h⟩ := h
      refine r_callV C (r := (RX10, TX10, 19)) hL yw_X10_fails vw_RX10_43 rfl rfl ht rfl rfl (Nat.le_of_ble_eq_true rfl) ⟨(Nat.le_of_ble_eq_true rfl), (Nat.le_of_ble_eq_true rfl)⟩ (mX10_fails hfl h) rfl dX10_fault_42 (kI (fun r46 G47 h => ?_)) kN
      exact r_iret C E0 hr ⟨_, rfl, h⟩ dX10_fault_45
    · replace h := h.2 c
      refine r_iload_n C 3 dX10_fault_29 rfl rfl ?_
      refine r_iconst C 0 dX10_fault_30 (by decide) ?_
      refine r_sipush C 2000 dX10_fault_31 (by decide) ?_
      refine r_callS C hL yw_X10_in sw_RX10_39 rfl rfl (Nat.le_of_ble_eq_true rfl) ⟨(Nat.le_of_ble_eq_true rfl), (Nat.le_of_ble_eq_true rfl)⟩ (mX10_in hfl h) rfl dX10_fault_34 (kI (fun r66 G67 h => ?_)) kN
      refine r_if_ne C 46 dX10_fault_37 (by decide) (fun c => ?_) (fun c => ?_)
      · replace h := h.1 c
        refine r_iload_n C 1 dX10_fault_46 rfl rfl ?_
        refine r_callS C hL yw_X10_faults sw_RX10_58 rfl rfl (Nat.le_of_ble_eq_true rfl) ⟨(Nat.le_of_ble_eq_true rfl), (Nat.le_of_ble_eq_true rfl)⟩ (mX10_faults hfl h) rfl dX10_fault_47 (kI (fun r88 G89 h => ?_)) kN
        refine r_istore C (lv' := [some (.ref a0), some (.int x1), some (.int x2), some (.int x3), some (.int r88)]) dX10_fault_50 (Nat.le_of_ble_eq_true rfl) rfl rfl ?_
        refine r_aloadR_n C 0 dX10_fault_52 rfl rfl ?_
        obtain ⟨ht, h⟩ := h
        obtain ⟨b90, hb, h⟩ := h
        refine r_getR C fw_RX10_7 rfl ht hb dX10_fault_53 ?_
        refine r_iload C dX10_fault_56 rfl ?_
        obtain ⟨ht, hi, h⟩ := h
        refine r_ialdP C ht hi dX10_fault_58 ?_
        refine r_bipush C 6 dX10_fault_59 (by decide) ?_
        refine r_icmp_ne C 70 dX10_fault_61 (by decide) (fun c => ?_) (fun c => ?_)
        · replace h := h.1 c
          refine r_aloadR_n C 0 dX10_fault_70 rfl rfl ?_
          obtain ⟨ht, h⟩ := h
          obtain ⟨b111, hb, h⟩ := h
          refine r_getR C fw_RX10_7 rfl ht hb dX10_fault_71 ?_
          refine r_iload C dX10_fault_74 rfl ?_
          refine r_iconst C 1 dX10_fault_76 (by decide) ?_
          refine r_iadd C dX10_fault_77 ?_
          refine r_iconst C 2 dX10_fault_78 (by decide) ?_
          refine r_aloadR_n C 0 dX10_fault_79 rfl rfl ?_
          obtain ⟨ht, h⟩ := h
          obtain ⟨b112, hb, h⟩ := h
          refine r_getR C fw_RX10_7 rfl ht hb dX10_fault_80 ?_
          refine r_iload C dX10_fault_83 rfl ?_
          obtain ⟨ht, hi, h⟩ := h
          refine r_ialdP C ht hi dX10_fault_85 ?_
          refine r_imul C dX10_fault_86 ?_
          refine r_iadd C dX10_fault_87 ?_
          refine r_iload_n C 2 dX10_fault_88 rfl rfl ?_
          obtain ⟨ht, hi, h⟩ := h
          refine r_iastP C ht hi dX10_fault_89 ?_
          refine r_nm (fun G113 hG113 => ?_)
          replace h := h G113 hG113
          refine r_aloadR_n C 0 dX10_fault_90 rfl rfl ?_
          obtain ⟨ht, h⟩ := h
          obtain ⟨b114, hb, h⟩ := h
          refine r_getR C fw_RX10_7 rfl ht hb dX10_fault_91 ?_
          refine r_iload C dX10_fault_94 rfl ?_
          refine r_iconst C 2 dX10_fault_96 (by decide) ?_
          refine r_iadd C dX10_fault_97 ?_
          refine r_iconst C 2 dX10_fault_98 (by decide) ?_
          refine r_aloadR_n C 0 dX10_fault_99 rfl rfl ?_
          obtain ⟨ht, h⟩ := h
          obtain ⟨b115, hb, h⟩ := h
          refine r_getR C fw_RX10_7 rfl ht hb dX10_fault_100 ?_
          refine r_iload C dX10_fault_103 rfl ?_
          obtain ⟨ht, hi, h⟩ := h
          refine r_ialdP C ht hi dX10_fault_105 ?_
          refine r_imul C dX10_fault_106 ?_
          refine r_iadd C dX10_fault_107 ?_
          refine r_iload_n C 3 dX10_fault_108 rfl rfl ?_
          obtain ⟨ht, hi, h⟩ := h
          refine r_iastP C ht hi dX10_fault_109 ?_
          refine r_nm (fun G116 hG116 => ?_)
          replace h := h G116 hG116
          refine r_aloadR_n C 0 dX10_fault_110 rfl rfl ?_
          obtain ⟨ht, h⟩ := h
          obtain ⟨b117, hb, h⟩ := h
          refine r_getR C fw_RX10_7 rfl ht hb dX10_fault_111 ?_
          refine r_iload C dX10_fault_114 rfl ?_
          refine r_dup2 C dX10_fault_116 rfl rfl ?_
          obtain ⟨ht, hi, h⟩ := h
          refine r_ialdP C ht hi dX10_fault_117 ?_
          refine r_iconst C 1 dX10_fault_118 (by decide) ?_
          refine r_iadd C dX10_fault_119 ?_
          obtain ⟨ht, hi, h⟩ := h
          refine r_iastP C ht hi dX10_fault_120 ?_
          refine r_nm (fun G118 hG118 => ?_)
          replace h := h G118 hG118
          refine r_aloadR_n C 0 dX10_fault_121 rfl rfl ?_
          obtain ⟨ht, h⟩ := h
          obtain ⟨b119, hb, h⟩ := h
          refine r_getR C fw_RX10_7 rfl ht hb dX10_fault_122 ?_
          refine r_iload C dX10_fault_125 rfl ?_
          obtain ⟨ht, hi, h⟩ := h
          refine r_ialdP C ht hi dX10_fault_127 ?_
          exact r_iret C E0 hr ⟨_, rfl, h⟩ dX10_fault_128
        · replace h := h.2 c
          refine r_aloadR_n C 0 dX10_fault_64 rfl rfl ?_
          refine r_iconst C 3 dX10_fault_65 (by decide) ?_
          obtain ⟨ht, h⟩ := h
          refine r_callV C (r := (RX10, TX10, 19)) hL yw_X10_fails vw_RX10_43 rfl rfl ht rfl rfl (Nat.le_of_ble_eq_true rfl) ⟨(Nat.le_of_ble_eq_true rfl), (Nat.le_of_ble_eq_true rfl)⟩ (mX10_fails hfl h) rfl dX10_fault_66 (kI (fun r131 G132 h => ?_)) kN
          exact r_iret C E0 hr ⟨_, rfl, h⟩ dX10_fault_69
      · replace h := h.2 c
        refine r_aloadR_n C 0 dX10_fault_40 rfl rfl ?_
        refine r_iconst C 2 dX10_fault_41 (by decide) ?_
        obtain ⟨ht, h⟩ := h
        refine r_callV C (r := (RX10, TX10, 19)) hL yw_X10_fails vw_RX10_43 rfl rfl ht rfl rfl (Nat.le_of_ble_eq_true rfl) ⟨(Nat.le_of_ble_eq_true rfl), (Nat.le_of_ble_eq_true rfl)⟩ (mX10_fails hfl h) rfl dX10_fault_42 (kI (fun r108 G109 h => ?_)) kN
        exact r_iret C E0 hr ⟨_, rfl, h⟩ dX10_fault_45
  · replace h := h.2 c
    refine r_aloadR_n C 0 dX10_fault_14 rfl rfl ?_
    refine r_iconst C 1 dX10_fault_15 (by decide) ?_
    obtain ⟨ht, h⟩ := h
    refine r_callV C (r := (RX10, TX10, 19)) hL yw_X10_fails vw_RX10_43 rfl rfl ht rfl rfl (Nat.le_of_ble_eq_true rfl) ⟨(Nat.le_of_ble_eq_true rfl), (Nat.le_of_ble_eq_true rfl)⟩ (mX10_fails hfl h) rfl dX10_fault_16 (kI (fun r44 G45 h => ?_)) kN
    exact r_iret C E0 hr ⟨_, rfl, h⟩ dX10_fault_19
def wX10_requestAt (X : Xt) (G : Gt) (x0 : Int32) (Pr : Int32 → Gt → Prop) : Prop := Pr (280 + (12 * x0)) G
set_option maxRecDepth 20000 in
theorem mX10_requestAt {X : Xt} {l : Launch} (hfl : l.stackTraces = false) {G : Gt} {x0 : Int32} {Pr : Int32 → Gt → Prop} (h : wX10_requestAt X G x0 Pr) : Mc X l yX10_requestAt (.code yX10_requestAt cX10_requestAt 1 (some (.int))) 0 0 [.int x0] G (rI Pr) noX := by
  refine Mc.of (by decide +kernel) hfl [some (.int x0)] rfl (Nat.le_of_ble_eq_true rfl) rfl ?_
  intro K hL C E0 hr hnm hex
  have B : BX X K l cX10_requestAt 1 RX10 0 0 G (some (.int)) "requestAt" := ⟨hL, C, E0, hr, hnm, hex, hfl⟩
  have C : Cx X K cX10_requestAt 1 RX10 0 0 := C
  unfold wX10_requestAt at h
  refine r_sipush C 280 dX10_requestAt_0 (by decide) ?_
  refine r_bipush C 12 dX10_requestAt_3 (by decide) ?_
  refine r_iload_n C 0 dX10_requestAt_5 rfl rfl ?_
  refine r_imul C dX10_requestAt_6 ?_
  refine r_iadd C dX10_requestAt_7 ?_
  exact r_iret C E0 hr ⟨_, rfl, h⟩ dX10_requestAt_8
def wX10_isRequest (X : Xt) (G : Gt) (a0 : Nat) (x1 : Int32) (Pr : Int32 → Gt → Prop) : Prop := gT G a0 = (1, 11) ∧ ∃ b1, gR G 352 a0 = some b1 ∧ (gT G b1).1 = 2 ∧ vp_in 6 (gT G b1).2 ∧ wX10_in X G x1 0 ((gA G b1 (6 : Int32).toNatClampNeg) - 1) (fun r2 G3 => (r2 = 0 ∨ r2 = 1) ∧ Pr r2 G3)
set_option maxRecDepth 20000 in
theorem mX10_isRequest {X : Xt} {l : Launch} (hfl : l.stackTraces = false) {G : Gt} {a0 : Nat} {x1 : Int32} {Pr : Int32 → Gt → Prop} (h : wX10_isRequest X G a0 x1 Pr) : Mc X l yX10_isRequest (.code yX10_isRequest cX10_isRequest 2 (some (.boolean))) 1 22 [.ref a0, .int x1] G (rI Pr) noX := by
  refine Mc.of (by decide +kernel) hfl [some (.ref a0), some (.int x1)] rfl (Nat.le_of_ble_eq_true rfl) rfl ?_
  intro K hL C E0 hr hnm hex
  have B : BX X K l cX10_isRequest 2 RX10 1 22 G (some (.boolean)) "isRequest" := ⟨hL, C, E0, hr, hnm, hex, hfl⟩
  have C : Cx X K cX10_isRequest 2 RX10 1 22 := C
  unfold wX10_isRequest at h
  refine r_iload_n C 1 dX10_isRequest_0 rfl rfl ?_
  refine r_iconst C 0 dX10_isRequest_1 (by decide) ?_
  refine r_aloadR_n C 0 dX10_isRequest_2 rfl rfl ?_
  obtain ⟨ht, h⟩ := h
  obtain ⟨b1, hb, h⟩ := h
  refine r_getR C fw_RX10_7 rfl ht hb dX10_isRequest_3 ?_
  refine r_bipush C 6 dX10_isRequest_6 (by decide) ?_
  obtain ⟨ht, hi, h⟩ := h
  refine r_ialdP C ht hi dX10_isRequest_8 ?_
  refine r_iconst C 1 dX10_isRequest_9 (by decide) ?_
  refine r_isub C dX10_isRequest_10 ?_
  refine r_callS C hL yw_X10_in sw_RX10_39 rfl rfl (Nat.le_of_ble_eq_true rfl) ⟨(Nat.le_of_ble_eq_true rfl), (Nat.le_of_ble_eq_true rfl)⟩ (mX10_in hfl h) rfl dX10_isRequest_11 (kI (fun r2 G3 h => ?_)) kN
  obtain ⟨hz, h⟩ := h
  exact r_zret C E0 hr hz ⟨_, rfl, h⟩ dX10_isRequest_14
def wX10_makes_69 (X : Xt) (Pr : Int32 → Gt → Prop) (G : Gt) (a0 : Nat) (x6 : Int32) (x7 : Int32) (sa0 : Nat) (sx1 : Int32) (sx2 : Int32) : Prop := (gT G sa0).1 = 2 ∧ vp_in sx1 (gT G sa0).2 ∧ ∀ G1, G1 = sA G sa0 (upd (gA G sa0) sx1.toNatClampNeg sx2) → gT G1 a0 = (1, 11) ∧ ∃ b2, gR G1 352 a0 = some b2 ∧ (gT G1 b2).1 = 2 ∧ vp_in (x7 + 7) (gT G1 b2).2 ∧ ∀ G3, G3 = sA G1 b2 (upd (gA G1 b2) (x7 + 7).toNatClampNeg (-1)) → gT G3 a0 = (1, 11) ∧ ∃ b4, gR G3 352 a0 = some b4 ∧ (gT G3 b4).1 = 2 ∧ vp_in (x7 + 9) (gT G3 b4).2 ∧ ∀ G5, G5 = sA G3 b4 (upd (gA G3 b4) (x7 + 9).toNatClampNeg x6) → gT G5 a0 = (1, 11) ∧ ∃ b6, gR G5 352 a0 = some b6 ∧ (gT G5 b6).1 = 2 ∧ vp_in 6 (gT G5 b6).2 ∧ (gT G5 b6).1 = 2 ∧ vp_in 6 (gT G5 b6).2 ∧ ∀ G7, G7 = sA G5 b6 (upd (gA G5 b6) (6 : Int32).toNatClampNeg ((gA G5 b6 (6 : Int32).toNatClampNeg) + 1)) → gT G7 a0 = (1, 11) ∧ ∃ b8, gR G7 352 a0 = some b8 ∧ (gT G7 b8).1 = 2 ∧ vp_in 6 (gT G7 b8).2 ∧ Pr ((gA G7 b8 (6 : Int32).toNatClampNeg) - 1) G7
set_option maxRecDepth 20000 in
theorem bX10_makes_69 {X : Xt} {K : Kt} {l : Launch} {G0 : Gt} {Pr : Int32 → Gt → Prop} (B : BX X K l cX10_makes 8 RX10 1 20 G0 (some (.int)) "makes") {G : Gt} {a0 : Nat} {x6 : Int32} {x7 : Int32} {sa0 : Nat} {sx1 : Int32} {sx2 : Int32} (h : wX10_makes_69 X Pr G a0 x6 x7 sa0 sx1 sx2) : WM X K (QM X K G0 (rI Pr) noX) G 69 [some (.ref a0), none, none, none, none, none, some (.int x6), some (.int x7)] [.int sx2, .int sx1, .ref sa0] := by
  obtain ⟨hL, C, E0, hr, hnm, hex, hfl⟩ := id B
  unfold wX10_makes_69 at h
  obtain ⟨ht, hi, h⟩ := h
  refine r_iastP C ht hi dX10_makes_69 ?_
  refine r_nm (fun G1 hG1 => ?_)
  replace h := h G1 hG1
  refine r_aloadR_n C 0 dX10_makes_70 rfl rfl ?_
  obtain ⟨ht, h⟩ := h
  obtain ⟨b2, hb, h⟩ := h
  refine r_getR C fw_RX10_7 rfl ht hb dX10_makes_71 ?_
  refine r_iload C dX10_makes_74 rfl ?_
  refine r_bipush C 7 dX10_makes_76 (by decide) ?_
  refine r_iadd C dX10_makes_78 ?_
  refine r_iconst C (-1) dX10_makes_79 (by decide) ?_
  obtain ⟨ht, hi, h⟩ := h
  refine r_iastP C ht hi dX10_makes_80 ?_
  refine r_nm (fun G3 hG3 => ?_)
  replace h := h G3 hG3
  refine r_aloadR_n C 0 dX10_makes_81 rfl rfl ?_
  obtain ⟨ht, h⟩ := h
  obtain ⟨b4, hb, h⟩ := h
  refine r_getR C fw_RX10_7 rfl ht hb dX10_makes_82 ?_
  refine r_iload C dX10_makes_85 rfl ?_
  refine r_bipush C 9 dX10_makes_87 (by decide) ?_
  refine r_iadd C dX10_makes_89 ?_
  refine r_iload C dX10_makes_90 rfl ?_
  obtain ⟨ht, hi, h⟩ := h
  refine r_iastP C ht hi dX10_makes_92 ?_
  refine r_nm (fun G5 hG5 => ?_)
  replace h := h G5 hG5
  refine r_aloadR_n C 0 dX10_makes_93 rfl rfl ?_
  obtain ⟨ht, h⟩ := h
  obtain ⟨b6, hb, h⟩ := h
  refine r_getR C fw_RX10_7 rfl ht hb dX10_makes_94 ?_
  refine r_bipush C 6 dX10_makes_97 (by decide) ?_
  refine r_dup2 C dX10_makes_99 rfl rfl ?_
  obtain ⟨ht, hi, h⟩ := h
  refine r_ialdP C ht hi dX10_makes_100 ?_
  refine r_iconst C 1 dX10_makes_101 (by decide) ?_
  refine r_iadd C dX10_makes_102 ?_
  obtain ⟨ht, hi, h⟩ := h
  refine r_iastP C ht hi dX10_makes_103 ?_
  refine r_nm (fun G7 hG7 => ?_)
  replace h := h G7 hG7
  refine r_aloadR_n C 0 dX10_makes_104 rfl rfl ?_
  obtain ⟨ht, h⟩ := h
  obtain ⟨b8, hb, h⟩ := h
  refine r_getR C fw_RX10_7 rfl ht hb dX10_makes_105 ?_
  refine r_bipush C 6 dX10_makes_108 (by decide) ?_
  obtain ⟨ht, hi, h⟩ := h
  refine r_ialdP C ht hi dX10_makes_110 ?_
  refine r_iconst C 1 dX10_makes_111 (by decide) ?_
  refine r_isub C dX10_makes_112 ?_
  exact r_iret C E0 hr ⟨_, rfl, h⟩ dX10_makes_113
def wX10_makes (X : Xt) (G : Gt) (a0 : Nat) (x1 : Int32) (x2 : Int32) (x3 : Int32) (x4 : Int32) (x5 : Int32) (x6 : Int32) (Pr : Int32 → Gt → Prop) : Prop := gT G a0 = (1, 11) ∧ ∃ b1, gR G 352 a0 = some b1 ∧ (gT G b1).1 = 2 ∧ vp_in 6 (gT G b1).2 ∧ wX10_requestAt X G (gA G b1 (6 : Int32).toNatClampNeg) (fun r2 G3 => gT G3 a0 = (1, 11) ∧ ∃ b4, gR G3 352 a0 = some b4 ∧ (gT G3 b4).1 = 2 ∧ vp_in r2 (gT G3 b4).2 ∧ ∀ G5, G5 = sA G3 b4 (upd (gA G3 b4) r2.toNatClampNeg x1) → gT G5 a0 = (1, 11) ∧ ∃ b6, gR G5 352 a0 = some b6 ∧ (gT G5 b6).1 = 2 ∧ vp_in (r2 + 1) (gT G5 b6).2 ∧ ∀ G7, G7 = sA G5 b6 (upd (gA G5 b6) (r2 + 1).toNatClampNeg x2) → gT G7 a0 = (1, 11) ∧ ∃ b8, gR G7 352 a0 = some b8 ∧ (gT G7 b8).1 = 2 ∧ vp_in (r2 + 2) (gT G7 b8).2 ∧ ∀ G9, G9 = sA G7 b8 (upd (gA G7 b8) (r2 + 2).toNatClampNeg x3) → gT G9 a0 = (1, 11) ∧ ∃ b10, gR G9 352 a0 = some b10 ∧ (gT G9 b10).1 = 2 ∧ vp_in (r2 + 3) (gT G9 b10).2 ∧ ∀ G11, G11 = sA G9 b10 (upd (gA G9 b10) (r2 + 3).toNatClampNeg x4) → gT G11 a0 = (1, 11) ∧ ∃ b12, gR G11 352 a0 = some b12 ∧ (x5 = 0 → wX10_makes_69 X Pr G11 a0 x6 r2 b12 (r2 + 4) (0 : Int32)) ∧ (¬ (x5 = 0) → wX10_makes_69 X Pr G11 a0 x6 r2 b12 (r2 + 4) (1 : Int32)))
set_option maxRecDepth 20000 in
theorem mX10_makes {X : Xt} {l : Launch} (hfl : l.stackTraces = false) {G : Gt} {a0 : Nat} {x1 : Int32} {x2 : Int32} {x3 : Int32} {x4 : Int32} {x5 : Int32} {x6 : Int32} {Pr : Int32 → Gt → Prop} (h : wX10_makes X G a0 x1 x2 x3 x4 x5 x6 Pr) : Mc X l yX10_makes (.code yX10_makes cX10_makes 8 (some (.int))) 1 20 [.ref a0, .int x1, .int x2, .int x3, .int x4, .int x5, .int x6] G (rI Pr) noX := by
  refine Mc.of (by decide +kernel) hfl [some (.ref a0), some (.int x1), some (.int x2), some (.int x3), some (.int x4), some (.int x5), some (.int x6), none] rfl (Nat.le_of_ble_eq_true rfl) rfl ?_
  intro K hL C E0 hr hnm hex
  have B : BX X K l cX10_makes 8 RX10 1 20 G (some (.int)) "makes" := ⟨hL, C, E0, hr, hnm, hex, hfl⟩
  have C : Cx X K cX10_makes 8 RX10 1 20 := C
  unfold wX10_makes at h
  refine r_aloadR_n C 0 dX10_makes_0 rfl rfl ?_
  obtain ⟨ht, h⟩ := h
  obtain ⟨b1, hb, h⟩ := h
  refine r_getR C fw_RX10_7 rfl ht hb dX10_makes_1 ?_
  refine r_bipush C 6 dX10_makes_4 (by decide) ?_
  obtain ⟨ht, hi, h⟩ := h
  refine r_ialdP C ht hi dX10_makes_6 ?_
  refine r_callS C hL yw_X10_requestAt sw_RX10_61 rfl rfl (Nat.le_of_ble_eq_true rfl) ⟨(Nat.le_of_ble_eq_true rfl), (Nat.le_of_ble_eq_true rfl)⟩ (mX10_requestAt hfl h) rfl dX10_makes_7 (kI (fun r2 G3 h => ?_)) kN
  refine r_istore C (lv' := [some (.ref a0), some (.int x1), some (.int x2), some (.int x3), some (.int x4), some (.int x5), some (.int x6), some (.int r2)]) dX10_makes_10 (Nat.le_of_ble_eq_true rfl) rfl rfl ?_
  refine r_aloadR_n C 0 dX10_makes_12 rfl rfl ?_
  obtain ⟨ht, h⟩ := h
  obtain ⟨b4, hb, h⟩ := h
  refine r_getR C fw_RX10_7 rfl ht hb dX10_makes_13 ?_
  refine r_iload C dX10_makes_16 rfl ?_
  refine r_iload_n C 1 dX10_makes_18 rfl rfl ?_
  obtain ⟨ht, hi, h⟩ := h
  refine r_iastP C ht hi dX10_makes_19 ?_
  refine r_nm (fun G5 hG5 => ?_)
  replace h := h G5 hG5
  refine r_aloadR_n C 0 dX10_makes_20 rfl rfl ?_
  obtain ⟨ht, h⟩ := h
  obtain ⟨b6, hb, h⟩ := h
  refine r_getR C fw_RX10_7 rfl ht hb dX10_makes_21 ?_
  refine r_iload C dX10_makes_24 rfl ?_
  refine r_iconst C 1 dX10_makes_26 (by decide) ?_
  refine r_iadd C dX10_makes_27 ?_
  refine r_iload_n C 2 dX10_makes_28 rfl rfl ?_
  obtain ⟨ht, hi, h⟩ := h
  refine r_iastP C ht hi dX10_makes_29 ?_
  refine r_nm (fun G7 hG7 => ?_)
  replace h := h G7 hG7
  refine r_aloadR_n C 0 dX10_makes_30 rfl rfl ?_
  obtain ⟨ht, h⟩ := h
  obtain ⟨b8, hb, h⟩ := h
  refine r_getR C fw_RX10_7 rfl ht hb dX10_makes_31 ?_
  refine r_iload C dX10_makes_34 rfl ?_
  refine r_iconst C 2 dX10_makes_36 (by decide) ?_
  refine r_iadd C dX10_makes_37 ?_
  refine r_iload_n C 3 dX10_makes_38 rfl rfl ?_
  obtain ⟨ht, hi, h⟩ := h
  refine r_iastP C ht hi dX10_makes_39 ?_
  refine r_nm (fun G9 hG9 => ?_)
  replace h := h G9 hG9
  refine r_aloadR_n C 0 dX10_makes_40 rfl rfl ?_
  obtain ⟨ht, h⟩ := h
  obtain ⟨b10, hb, h⟩ := h
  refine r_getR C fw_RX10_7 rfl ht hb dX10_makes_41 ?_
  refine r_iload C dX10_makes_44 rfl ?_
  refine r_iconst C 3 dX10_makes_46 (by decide) ?_
  refine r_iadd C dX10_makes_47 ?_
  refine r_iload C dX10_makes_48 rfl ?_
  obtain ⟨ht, hi, h⟩ := h
  refine r_iastP C ht hi dX10_makes_50 ?_
  refine r_nm (fun G11 hG11 => ?_)
  replace h := h G11 hG11
  refine r_aloadR_n C 0 dX10_makes_51 rfl rfl ?_
  obtain ⟨ht, h⟩ := h
  obtain ⟨b12, hb, h⟩ := h
  refine r_getR C fw_RX10_7 rfl ht hb dX10_makes_52 ?_
  refine r_iload C dX10_makes_55 rfl ?_
  refine r_iconst C 4 dX10_makes_57 (by decide) ?_
  refine r_iadd C dX10_makes_58 ?_
  refine r_iload C dX10_makes_59 rfl ?_
  refine r_if_eq C 68 dX10_makes_61 (by decide) (fun c => ?_) (fun c => ?_)
  · replace h := h.1 c
    refine r_iconst C 0 dX10_makes_68 (by decide) ?_
    refine r_fg (lv' := [some (.ref a0), none, none, none, none, none, some (.int x6), some (.int r2)]) (show fgt _ _ from ⟨rfl, ⟨rfl, ⟨rfl, trivial⟩⟩⟩) ?_
    exact bX10_makes_69 B h
  · replace h := h.2 c
    refine r_iconst C 1 dX10_makes_64 (by decide) ?_
    refine r_goto C 69 dX10_makes_65 (by decide) ?_
    refine r_fg (lv' := [some (.ref a0), none, none, none, none, none, some (.int x6), some (.int r2)]) (show fgt _ _ from ⟨rfl, ⟨rfl, ⟨rfl, trivial⟩⟩⟩) ?_
    exact bX10_makes_69 B h
def wX10_asks (X : Xt) (G : Gt) (a0 : Nat) (x1 : Int32) (x2 : Int32) (x3 : Int32) (Pr : Int32 → Gt → Prop) : Prop := wX10_in X G x1 0 3 (fun r1 G2 => (r1 = 0 → Pr 1 G2) ∧ (¬ (r1 = 0) → wX10_in X G2 x2 1 3 (fun r43 G44 => (¬ r43 = 0 → (¬ x3 = 0 → gT G44 a0 = (1, 11) ∧ ∃ b85, gR G44 352 a0 = some b85 ∧ (gT G44 b85).1 = 2 ∧ vp_in 6 (gT G44 b85).2 ∧ (¬ (gA G44 b85 (6 : Int32).toNatClampNeg) = 40 → Pr 0 G44) ∧ ((gA G44 b85 (6 : Int32).toNatClampNeg) = 40 → Pr 3 G44)) ∧ (x3 = 0 → Pr 2 G44)) ∧ (r43 = 0 → Pr 1 G44))))
set_option maxRecDepth 20000 in
theorem mX10_asks {X : Xt} {l : Launch} (hfl : l.stackTraces = false) {G : Gt} {a0 : Nat} {x1 : Int32} {x2 : Int32} {x3 : Int32} {Pr : Int32 → Gt → Prop} (h : wX10_asks X G a0 x1 x2 x3 Pr) : Mc X l yX10_asks (.code yX10_asks cX10_asks 4 (some (.int))) 1 22 [.ref a0, .int x1, .int x2, .int x3] G (rI Pr) noX := by
  refine Mc.of (by decide +kernel) hfl [some (.ref a0), some (.int x1), some (.int x2), some (.int x3)] rfl (Nat.le_of_ble_eq_true rfl) rfl ?_
  intro K hL C E0 hr hnm hex
  have B : BX X K l cX10_asks 4 RX10 1 22 G (some (.int)) "asks" := ⟨hL, C, E0, hr, hnm, hex, hfl⟩
  have C : Cx X K cX10_asks 4 RX10 1 22 := C
  unfold wX10_asks at h
  refine r_iload_n C 1 dX10_asks_0 rfl rfl ?_
  refine r_iconst C 0 dX10_asks_1 (by decide) ?_
  refine r_iconst C 3 dX10_asks_2 (by decide) ?_
  refine r_callS C hL yw_X10_in sw_RX10_39 rfl rfl (Nat.le_of_ble_eq_true rfl) ⟨(Nat.le_of_ble_eq_true rfl), (Nat.le_of_ble_eq_true rfl)⟩ (mX10_in hfl h) rfl dX10_asks_3 (kI (fun r1 G2 h => ?_)) kN
  refine r_if_eq C 18 dX10_asks_6 (by decide) (fun c => ?_) (fun c => ?_)
  · replace h := h.1 c
    refine r_iconst C 1 dX10_asks_18 (by decide) ?_
    refine r_goto C 47 dX10_asks_19 (by decide) ?_
    exact r_iret C E0 hr ⟨_, rfl, h⟩ dX10_asks_47
  · replace h := h.2 c
    refine r_iload_n C 2 dX10_asks_9 rfl rfl ?_
    refine r_iconst C 1 dX10_asks_10 (by decide) ?_
    refine r_iconst C 3 dX10_asks_11 (by decide) ?_
    refine r_callS C hL yw_X10_in sw_RX10_39 rfl rfl (Nat.le_of_ble_eq_true rfl) ⟨(Nat.le_of_ble_eq_true rfl), (Nat.le_of_ble_eq_true rfl)⟩ (mX10_in hfl h) rfl dX10_asks_12 (kI (fun r43 G44 h => ?_)) kN
    refine r_if_ne C 22 dX10_asks_15 (by decide) (fun c => ?_) (fun c => ?_)
    · replace h := h.1 c
      refine r_iload_n C 3 dX10_asks_22 rfl rfl ?_
      refine r_if_ne C 30 dX10_asks_23 (by decide) (fun c => ?_) (fun c => ?_)
      · replace h := h.1 c
        refine r_aloadR_n C 0 dX10_asks_30 rfl rfl ?_
        obtain ⟨ht, h⟩ := h
        obtain ⟨b85, hb, h⟩ := h
        refine r_getR C fw_RX10_7 rfl ht hb dX10_asks_31 ?_
        refine r_bipush C 6 dX10_asks_34 (by decide) ?_
        obtain ⟨ht, hi, h⟩ := h
        refine r_ialdP C ht hi dX10_asks_36 ?_
        refine r_bipush C 40 dX10_asks_37 (by decide) ?_
        refine r_icmp_ne C 46 dX10_asks_39 (by decide) (fun c => ?_) (fun c => ?_)
        · replace h := h.1 c
          refine r_iconst C 0 dX10_asks_46 (by decide) ?_
          exact r_iret C E0 hr ⟨_, rfl, h⟩ dX10_asks_47
        · replace h := h.2 c
          refine r_iconst C 3 dX10_asks_42 (by decide) ?_
          refine r_goto C 47 dX10_asks_43 (by decide) ?_
          exact r_iret C E0 hr ⟨_, rfl, h⟩ dX10_asks_47
      · replace h := h.2 c
        refine r_iconst C 2 dX10_asks_26 (by decide) ?_
        refine r_goto C 47 dX10_asks_27 (by decide) ?_
        exact r_iret C E0 hr ⟨_, rfl, h⟩ dX10_asks_47
    · replace h := h.2 c
      refine r_iconst C 1 dX10_asks_18 (by decide) ?_
      refine r_goto C 47 dX10_asks_19 (by decide) ?_
      exact r_iret C E0 hr ⟨_, rfl, h⟩ dX10_asks_47
def wX10_read_31 (X : Xt) (Pr : Int32 → Gt → Prop) (G : Gt) (a0 : Nat) (x1 : Int32) (x2 : Int32) (x3 : Int32) (x4 : Int32) (sa0 : Nat) (sa1 : Nat) (sx2 : Int32) (sx3 : Int32) (sx4 : Int32) : Prop := gT G sa1 = (1, 11) ∧ wX10_asks X G sa1 sx2 sx3 sx4 (fun r1 G2 => gT G2 sa0 = (1, 11) ∧ ∀ G3, G3 = sI G2 354 sa0 r1 → gT G3 a0 = (1, 11) ∧ (¬ (gI G3 354 a0) = 0 → Pr 0 G3) ∧ ((gI G3 354 a0) = 0 → gT G3 a0 = (1, 11) ∧ wX10_makes X G3 a0 x1 x2 x3 x4 0 0 (fun r44 G45 => Pr r44 G45)))
set_option maxRecDepth 20000 in
theorem bX10_read_31 {X : Xt} {K : Kt} {l : Launch} {G0 : Gt} {Pr : Int32 → Gt → Prop} (B : BX X K l cX10_read 5 RX10 2 47 G0 (some (.int)) "read") {G : Gt} {a0 : Nat} {x1 : Int32} {x2 : Int32} {x3 : Int32} {x4 : Int32} {sa0 : Nat} {sa1 : Nat} {sx2 : Int32} {sx3 : Int32} {sx4 : Int32} (h : wX10_read_31 X Pr G a0 x1 x2 x3 x4 sa0 sa1 sx2 sx3 sx4) : WM X K (QM X K G0 (rI Pr) noX) G 31 [some (.ref a0), some (.int x1), some (.int x2), some (.int x3), some (.int x4)] [.int sx4, .int sx3, .int sx2, .ref sa1, .ref sa0] := by
  obtain ⟨hL, C, E0, hr, hnm, hex, hfl⟩ := id B
  unfold wX10_read_31 at h
  obtain ⟨ht, h⟩ := h
  refine r_callV C (r := (RX10, TX10, 19)) hL yw_X10_asks vw_RX10_64 rfl rfl ht rfl rfl (Nat.le_of_ble_eq_true rfl) ⟨(Nat.le_of_ble_eq_true rfl), (Nat.le_of_ble_eq_true rfl)⟩ (mX10_asks hfl h) rfl dX10_read_31 (kI (fun r1 G2 h => ?_)) kN
  obtain ⟨ht, h⟩ := h
  refine r_putI C cw_11 fp_RX10_36 rfl ht dX10_read_34 ?_
  refine r_nm (fun G3 hG3 => ?_)
  replace h := h G3 hG3
  refine r_aloadR_n C 0 dX10_read_37 rfl rfl ?_
  obtain ⟨ht, h⟩ := h
  refine r_getI C fw_RX10_36 rfl ht dX10_read_38 ?_
  refine r_if_ne C 58 dX10_read_41 (by decide) (fun c => ?_) (fun c => ?_)
  · replace h := h.1 c
    refine r_iconst C 0 dX10_read_58 (by decide) ?_
    exact r_iret C E0 hr ⟨_, rfl, h⟩ dX10_read_59
  · replace h := h.2 c
    refine r_aloadR_n C 0 dX10_read_44 rfl rfl ?_
    refine r_iload_n C 1 dX10_read_45 rfl rfl ?_
    refine r_iload_n C 2 dX10_read_46 rfl rfl ?_
    refine r_iload_n C 3 dX10_read_47 rfl rfl ?_
    refine r_iload C dX10_read_48 rfl ?_
    refine r_iconst C 0 dX10_read_50 (by decide) ?_
    refine r_iconst C 0 dX10_read_51 (by decide) ?_
    obtain ⟨ht, h⟩ := h
    refine r_callV C (r := (RX10, TX10, 19)) hL yw_X10_makes vw_RX10_68 rfl rfl ht rfl rfl (Nat.le_of_ble_eq_true rfl) ⟨(Nat.le_of_ble_eq_true rfl), (Nat.le_of_ble_eq_true rfl)⟩ (mX10_makes hfl h) rfl dX10_read_52 (kI (fun r44 G45 h => ?_)) kN
    refine r_goto C 59 dX10_read_55 (by decide) ?_
    exact r_iret C E0 hr ⟨_, rfl, h⟩ dX10_read_59
def wX10_read (X : Xt) (G : Gt) (a0 : Nat) (x1 : Int32) (x2 : Int32) (x3 : Int32) (x4 : Int32) (Pr : Int32 → Gt → Prop) : Prop := wX10_in X G x3 0 1000 (fun r1 G2 => (r1 = 0 → wX10_read_31 X Pr G2 a0 x1 x2 x3 x4 a0 a0 x1 x2 (0 : Int32)) ∧ (¬ (r1 = 0) → wX10_in X G2 x4 1 16 (fun r43 G44 => (r43 = 0 → wX10_read_31 X Pr G44 a0 x1 x2 x3 x4 a0 a0 x1 x2 (0 : Int32)) ∧ (¬ (r43 = 0) → wX10_read_31 X Pr G44 a0 x1 x2 x3 x4 a0 a0 x1 x2 (1 : Int32)))))
set_option maxRecDepth 20000 in
theorem mX10_read {X : Xt} {l : Launch} (hfl : l.stackTraces = false) {G : Gt} {a0 : Nat} {x1 : Int32} {x2 : Int32} {x3 : Int32} {x4 : Int32} {Pr : Int32 → Gt → Prop} (h : wX10_read X G a0 x1 x2 x3 x4 Pr) : Mc X l yX10_read (.code yX10_read cX10_read 5 (some (.int))) 2 47 [.ref a0, .int x1, .int x2, .int x3, .int x4] G (rI Pr) noX := by
  refine Mc.of (by decide +kernel) hfl [some (.ref a0), some (.int x1), some (.int x2), some (.int x3), some (.int x4)] rfl (Nat.le_of_ble_eq_true rfl) rfl ?_
  intro K hL C E0 hr hnm hex
  have B : BX X K l cX10_read 5 RX10 2 47 G (some (.int)) "read" := ⟨hL, C, E0, hr, hnm, hex, hfl⟩
  have C : Cx X K cX10_read 5 RX10 2 47 := C
  unfold wX10_read at h
  refine r_aloadR_n C 0 dX10_read_0 rfl rfl ?_
  refine r_aloadR_n C 0 dX10_read_1 rfl rfl ?_
  refine r_iload_n C 1 dX10_read_2 rfl rfl ?_
  refine r_iload_n C 2 dX10_read_3 rfl rfl ?_
  refine r_iload_n C 3 dX10_read_4 rfl rfl ?_
  refine r_iconst C 0 dX10_read_5 (by decide) ?_
  refine r_sipush C 1000 dX10_read_6 (by decide) ?_
  refine r_callS C hL yw_X10_in sw_RX10_39 rfl rfl (Nat.le_of_ble_eq_true rfl) ⟨(Nat.le_of_ble_eq_true rfl), (Nat.le_of_ble_eq_true rfl)⟩ (mX10_in hfl h) rfl dX10_read_9 (kI (fun r1 G2 h => ?_)) kN
  refine r_if_eq C 30 dX10_read_12 (by decide) (fun c => ?_) (fun c => ?_)
  · replace h := h.1 c
    refine r_iconst C 0 dX10_read_30 (by decide) ?_
    exact bX10_read_31 B h
  · replace h := h.2 c
    refine r_iload C dX10_read_15 rfl ?_
    refine r_iconst C 1 dX10_read_17 (by decide) ?_
    refine r_bipush C 16 dX10_read_18 (by decide) ?_
    refine r_callS C hL yw_X10_in sw_RX10_39 rfl rfl (Nat.le_of_ble_eq_true rfl) ⟨(Nat.le_of_ble_eq_true rfl), (Nat.le_of_ble_eq_true rfl)⟩ (mX10_in hfl h) rfl dX10_read_20 (kI (fun r43 G44 h => ?_)) kN
    refine r_if_eq C 30 dX10_read_23 (by decide) (fun c => ?_) (fun c => ?_)
    · replace h := h.1 c
      refine r_iconst C 0 dX10_read_30 (by decide) ?_
      exact bX10_read_31 B h
    · replace h := h.2 c
      refine r_iconst C 1 dX10_read_26 (by decide) ?_
      refine r_goto C 31 dX10_read_27 (by decide) ?_
      exact bX10_read_31 B h
def wX10_write_31 (X : Xt) (Pr : Int32 → Gt → Prop) (G : Gt) (a0 : Nat) (x1 : Int32) (x2 : Int32) (x3 : Int32) (x4 : Int32) (sa0 : Nat) (sa1 : Nat) (sx2 : Int32) (sx3 : Int32) (sx4 : Int32) : Prop := gT G sa1 = (1, 11) ∧ wX10_asks X G sa1 sx2 sx3 sx4 (fun r1 G2 => gT G2 sa0 = (1, 11) ∧ ∀ G3, G3 = sI G2 354 sa0 r1 → gT G3 a0 = (1, 11) ∧ (¬ (gI G3 354 a0) = 0 → Pr 0 G3) ∧ ((gI G3 354 a0) = 0 → gT G3 a0 = (1, 11) ∧ wX10_makes X G3 a0 x1 x2 x3 1 1 x4 (fun r44 G45 => Pr r44 G45)))
set_option maxRecDepth 20000 in
theorem bX10_write_31 {X : Xt} {K : Kt} {l : Launch} {G0 : Gt} {Pr : Int32 → Gt → Prop} (B : BX X K l cX10_write 5 RX10 2 47 G0 (some (.int)) "write") {G : Gt} {a0 : Nat} {x1 : Int32} {x2 : Int32} {x3 : Int32} {x4 : Int32} {sa0 : Nat} {sa1 : Nat} {sx2 : Int32} {sx3 : Int32} {sx4 : Int32} (h : wX10_write_31 X Pr G a0 x1 x2 x3 x4 sa0 sa1 sx2 sx3 sx4) : WM X K (QM X K G0 (rI Pr) noX) G 31 [some (.ref a0), some (.int x1), some (.int x2), some (.int x3), some (.int x4)] [.int sx4, .int sx3, .int sx2, .ref sa1, .ref sa0] := by
  obtain ⟨hL, C, E0, hr, hnm, hex, hfl⟩ := id B
  unfold wX10_write_31 at h
  obtain ⟨ht, h⟩ := h
  refine r_callV C (r := (RX10, TX10, 19)) hL yw_X10_asks vw_RX10_64 rfl rfl ht rfl rfl (Nat.le_of_ble_eq_true rfl) ⟨(Nat.le_of_ble_eq_true rfl), (Nat.le_of_ble_eq_true rfl)⟩ (mX10_asks hfl h) rfl dX10_write_31 (kI (fun r1 G2 h => ?_)) kN
  obtain ⟨ht, h⟩ := h
  refine r_putI C cw_11 fp_RX10_36 rfl ht dX10_write_34 ?_
  refine r_nm (fun G3 hG3 => ?_)
  replace h := h G3 hG3
  refine r_aloadR_n C 0 dX10_write_37 rfl rfl ?_
  obtain ⟨ht, h⟩ := h
  refine r_getI C fw_RX10_36 rfl ht dX10_write_38 ?_
  refine r_if_ne C 58 dX10_write_41 (by decide) (fun c => ?_) (fun c => ?_)
  · replace h := h.1 c
    refine r_iconst C 0 dX10_write_58 (by decide) ?_
    exact r_iret C E0 hr ⟨_, rfl, h⟩ dX10_write_59
  · replace h := h.2 c
    refine r_aloadR_n C 0 dX10_write_44 rfl rfl ?_
    refine r_iload_n C 1 dX10_write_45 rfl rfl ?_
    refine r_iload_n C 2 dX10_write_46 rfl rfl ?_
    refine r_iload_n C 3 dX10_write_47 rfl rfl ?_
    refine r_iconst C 1 dX10_write_48 (by decide) ?_
    refine r_iconst C 1 dX10_write_49 (by decide) ?_
    refine r_iload C dX10_write_50 rfl ?_
    obtain ⟨ht, h⟩ := h
    refine r_callV C (r := (RX10, TX10, 19)) hL yw_X10_makes vw_RX10_68 rfl rfl ht rfl rfl (Nat.le_of_ble_eq_true rfl) ⟨(Nat.le_of_ble_eq_true rfl), (Nat.le_of_ble_eq_true rfl)⟩ (mX10_makes hfl h) rfl dX10_write_52 (kI (fun r44 G45 h => ?_)) kN
    refine r_goto C 59 dX10_write_55 (by decide) ?_
    exact r_iret C E0 hr ⟨_, rfl, h⟩ dX10_write_59
def wX10_write (X : Xt) (G : Gt) (a0 : Nat) (x1 : Int32) (x2 : Int32) (x3 : Int32) (x4 : Int32) (Pr : Int32 → Gt → Prop) : Prop := wX10_in X G x3 0 1000 (fun r1 G2 => (r1 = 0 → wX10_write_31 X Pr G2 a0 x1 x2 x3 x4 a0 a0 x1 x2 (0 : Int32)) ∧ (¬ (r1 = 0) → wX10_in X G2 x4 0 65535 (fun r43 G44 => (r43 = 0 → wX10_write_31 X Pr G44 a0 x1 x2 x3 x4 a0 a0 x1 x2 (0 : Int32)) ∧ (¬ (r43 = 0) → wX10_write_31 X Pr G44 a0 x1 x2 x3 x4 a0 a0 x1 x2 (1 : Int32)))))
set_option maxRecDepth 20000 in
theorem mX10_write {X : Xt} {l : Launch} (hfl : l.stackTraces = false) {G : Gt} {a0 : Nat} {x1 : Int32} {x2 : Int32} {x3 : Int32} {x4 : Int32} {Pr : Int32 → Gt → Prop} (h : wX10_write X G a0 x1 x2 x3 x4 Pr) : Mc X l yX10_write (.code yX10_write cX10_write 5 (some (.int))) 2 47 [.ref a0, .int x1, .int x2, .int x3, .int x4] G (rI Pr) noX := by
  refine Mc.of (by decide +kernel) hfl [some (.ref a0), some (.int x1), some (.int x2), some (.int x3), some (.int x4)] rfl (Nat.le_of_ble_eq_true rfl) rfl ?_
  intro K hL C E0 hr hnm hex
  have B : BX X K l cX10_write 5 RX10 2 47 G (some (.int)) "write" := ⟨hL, C, E0, hr, hnm, hex, hfl⟩
  have C : Cx X K cX10_write 5 RX10 2 47 := C
  unfold wX10_write at h
  refine r_aloadR_n C 0 dX10_write_0 rfl rfl ?_
  refine r_aloadR_n C 0 dX10_write_1 rfl rfl ?_
  refine r_iload_n C 1 dX10_write_2 rfl rfl ?_
  refine r_iload_n C 2 dX10_write_3 rfl rfl ?_
  refine r_iload_n C 3 dX10_write_4 rfl rfl ?_
  refine r_iconst C 0 dX10_write_5 (by decide) ?_
  refine r_sipush C 1000 dX10_write_6 (by decide) ?_
  refine r_callS C hL yw_X10_in sw_RX10_39 rfl rfl (Nat.le_of_ble_eq_true rfl) ⟨(Nat.le_of_ble_eq_true rfl), (Nat.le_of_ble_eq_true rfl)⟩ (mX10_in hfl h) rfl dX10_write_9 (kI (fun r1 G2 h => ?_)) kN
  refine r_if_eq C 30 dX10_write_12 (by decide) (fun c => ?_) (fun c => ?_)
  · replace h := h.1 c
    refine r_iconst C 0 dX10_write_30 (by decide) ?_
    exact bX10_write_31 B h
  · replace h := h.2 c
    refine r_iload C dX10_write_15 rfl ?_
    refine r_iconst C 0 dX10_write_17 (by decide) ?_
    refine r_ldc C kc_RX10_25 dX10_write_18 ?_
    refine r_callS C hL yw_X10_in sw_RX10_39 rfl rfl (Nat.le_of_ble_eq_true rfl) ⟨(Nat.le_of_ble_eq_true rfl), (Nat.le_of_ble_eq_true rfl)⟩ (mX10_in hfl h) rfl dX10_write_20 (kI (fun r43 G44 h => ?_)) kN
    refine r_if_eq C 30 dX10_write_23 (by decide) (fun c => ?_) (fun c => ?_)
    · replace h := h.1 c
      refine r_iconst C 0 dX10_write_30 (by decide) ?_
      exact bX10_write_31 B h
    · replace h := h.2 c
      refine r_iconst C 1 dX10_write_26 (by decide) ?_
      refine r_goto C 31 dX10_write_27 (by decide) ?_
      exact bX10_write_31 B h
def wX10_request_24 (X : Xt) (Pr : Int32 → Gt → Prop) (G : Gt) (a0 : Nat) (x1 : Int32) (x2 : Int32) (sa0 : Nat) (sx1 : Int32) : Prop := gT G sa0 = (1, 11) ∧ ∀ G1, G1 = sI G 354 sa0 sx1 → gT G1 a0 = (1, 11) ∧ (¬ (gI G1 354 a0) = 0 → Pr 0 G1) ∧ ((gI G1 354 a0) = 0 → gT G1 a0 = (1, 11) ∧ ∃ b42, gR G1 352 a0 = some b42 ∧ wX10_requestAt X G1 x1 (fun r43 G44 => (gT G44 b42).1 = 2 ∧ vp_in (r43 + x2) (gT G44 b42).2 ∧ Pr (gA G44 b42 (r43 + x2).toNatClampNeg) G44))
set_option maxRecDepth 20000 in
theorem bX10_request_24 {X : Xt} {K : Kt} {l : Launch} {G0 : Gt} {Pr : Int32 → Gt → Prop} (B : BX X K l cX10_request 3 RX10 2 43 G0 (some (.int)) "request") {G : Gt} {a0 : Nat} {x1 : Int32} {x2 : Int32} {sa0 : Nat} {sx1 : Int32} (h : wX10_request_24 X Pr G a0 x1 x2 sa0 sx1) : WM X K (QM X K G0 (rI Pr) noX) G 24 [some (.ref a0), some (.int x1), some (.int x2)] [.int sx1, .ref sa0] := by
  obtain ⟨hL, C, E0, hr, hnm, hex, hfl⟩ := id B
  unfold wX10_request_24 at h
  obtain ⟨ht, h⟩ := h
  refine r_putI C cw_11 fp_RX10_36 rfl ht dX10_request_24 ?_
  refine r_nm (fun G1 hG1 => ?_)
  replace h := h G1 hG1
  refine r_aloadR_n C 0 dX10_request_27 rfl rfl ?_
  obtain ⟨ht, h⟩ := h
  refine r_getI C fw_RX10_36 rfl ht dX10_request_28 ?_
  refine r_if_ne C 48 dX10_request_31 (by decide) (fun c => ?_) (fun c => ?_)
  · replace h := h.1 c
    refine r_iconst C 0 dX10_request_48 (by decide) ?_
    exact r_iret C E0 hr ⟨_, rfl, h⟩ dX10_request_49
  · replace h := h.2 c
    refine r_aloadR_n C 0 dX10_request_34 rfl rfl ?_
    obtain ⟨ht, h⟩ := h
    obtain ⟨b42, hb, h⟩ := h
    refine r_getR C fw_RX10_7 rfl ht hb dX10_request_35 ?_
    refine r_iload_n C 1 dX10_request_38 rfl rfl ?_
    refine r_callS C hL yw_X10_requestAt sw_RX10_61 rfl rfl (Nat.le_of_ble_eq_true rfl) ⟨(Nat.le_of_ble_eq_true rfl), (Nat.le_of_ble_eq_true rfl)⟩ (mX10_requestAt hfl h) rfl dX10_request_39 (kI (fun r43 G44 h => ?_)) kN
    refine r_iload_n C 2 dX10_request_42 rfl rfl ?_
    refine r_iadd C dX10_request_43 ?_
    obtain ⟨ht, hi, h⟩ := h
    refine r_ialdP C ht hi dX10_request_44 ?_
    refine r_goto C 49 dX10_request_45 (by decide) ?_
    exact r_iret C E0 hr ⟨_, rfl, h⟩ dX10_request_49
def wX10_request (X : Xt) (G : Gt) (a0 : Nat) (x1 : Int32) (x2 : Int32) (Pr : Int32 → Gt → Prop) : Prop := gT G a0 = (1, 11) ∧ wX10_isRequest X G a0 x1 (fun r1 G2 => (r1 = 0 → wX10_request_24 X Pr G2 a0 x1 x2 a0 (1 : Int32)) ∧ (¬ (r1 = 0) → wX10_in X G2 x2 0 8 (fun r43 G44 => (r43 = 0 → wX10_request_24 X Pr G44 a0 x1 x2 a0 (1 : Int32)) ∧ (¬ (r43 = 0) → wX10_request_24 X Pr G44 a0 x1 x2 a0 (0 : Int32)))))
set_option maxRecDepth 20000 in
theorem mX10_request {X : Xt} {l : Launch} (hfl : l.stackTraces = false) {G : Gt} {a0 : Nat} {x1 : Int32} {x2 : Int32} {Pr : Int32 → Gt → Prop} (h : wX10_request X G a0 x1 x2 Pr) : Mc X l yX10_request (.code yX10_request cX10_request 3 (some (.int))) 2 43 [.ref a0, .int x1, .int x2] G (rI Pr) noX := by
  refine Mc.of (by decide +kernel) hfl [some (.ref a0), some (.int x1), some (.int x2)] rfl (Nat.le_of_ble_eq_true rfl) rfl ?_
  intro K hL C E0 hr hnm hex
  have B : BX X K l cX10_request 3 RX10 2 43 G (some (.int)) "request" := ⟨hL, C, E0, hr, hnm, hex, hfl⟩
  have C : Cx X K cX10_request 3 RX10 2 43 := C
  unfold wX10_request at h
  refine r_aloadR_n C 0 dX10_request_0 rfl rfl ?_
  refine r_aloadR_n C 0 dX10_request_1 rfl rfl ?_
  refine r_iload_n C 1 dX10_request_2 rfl rfl ?_
  obtain ⟨ht, h⟩ := h
  refine r_callV C (r := (RX10, TX10, 19)) hL yw_X10_isRequest vw_RX10_72 rfl rfl ht rfl rfl (Nat.le_of_ble_eq_true rfl) ⟨(Nat.le_of_ble_eq_true rfl), (Nat.le_of_ble_eq_true rfl)⟩ (mX10_isRequest hfl h) rfl dX10_request_3 (kI (fun r1 G2 h => ?_)) kN
  refine r_if_eq C 23 dX10_request_6 (by decide) (fun c => ?_) (fun c => ?_)
  · replace h := h.1 c
    refine r_iconst C 1 dX10_request_23 (by decide) ?_
    exact bX10_request_24 B h
  · replace h := h.2 c
    refine r_iload_n C 2 dX10_request_9 rfl rfl ?_
    refine r_iconst C 0 dX10_request_10 (by decide) ?_
    refine r_bipush C 8 dX10_request_11 (by decide) ?_
    refine r_callS C hL yw_X10_in sw_RX10_39 rfl rfl (Nat.le_of_ble_eq_true rfl) ⟨(Nat.le_of_ble_eq_true rfl), (Nat.le_of_ble_eq_true rfl)⟩ (mX10_in hfl h) rfl dX10_request_13 (kI (fun r43 G44 h => ?_)) kN
    refine r_if_eq C 23 dX10_request_16 (by decide) (fun c => ?_) (fun c => ?_)
    · replace h := h.1 c
      refine r_iconst C 1 dX10_request_23 (by decide) ?_
      exact bX10_request_24 B h
    · replace h := h.2 c
      refine r_iconst C 0 dX10_request_19 (by decide) ?_
      refine r_goto C 24 dX10_request_20 (by decide) ?_
      exact bX10_request_24 B h
def wX10_value (X : Xt) (G : Gt) (a0 : Nat) (x1 : Int32) (x2 : Int32) (Pr : Int32 → Gt → Prop) : Prop := gT G a0 = (1, 11) ∧ ∀ G1, G1 = sI G 354 a0 0 → gT G1 a0 = (1, 11) ∧ wX10_isRequest X G1 a0 x1 (fun r2 G3 => (r2 = 0 → gT G3 a0 = (1, 11) ∧ wX10_fails X G3 a0 1 (fun r24 G25 => Pr r24 G25)) ∧ (¬ (r2 = 0) → gT G3 a0 = (1, 11) ∧ ∃ b44, gR G3 352 a0 = some b44 ∧ wX10_requestAt X G3 x1 (fun r45 G46 => (gT G46 b44).1 = 2 ∧ vp_in (r45 + 3) (gT G46 b44).2 ∧ wX10_in X G46 x2 0 ((gA G46 b44 (r45 + 3).toNatClampNeg) - 1) (fun r47 G48 => (¬ r47 = 0 → wX10_requestAt X G48 x1 (fun r69 G70 => gT G70 a0 = (1, 11) ∧ ∃ b71, gR G70 352 a0 = some b71 ∧ (gT G70 b71).1 = 2 ∧ vp_in (r69 + 4) (gT G70 b71).2 ∧ (¬ (gA G70 b71 (r69 + 4).toNatClampNeg) = 0 → gT G70 a0 = (1, 11) ∧ wX10_fails X G70 a0 2 (fun r92 G93 => Pr r92 G93)) ∧ ((gA G70 b71 (r69 + 4).toNatClampNeg) = 0 → gT G70 a0 = (1, 11) ∧ ∃ b112, gR G70 352 a0 = some b112 ∧ (gT G70 b112).1 = 2 ∧ vp_in (r69 + 5) (gT G70 b112).2 ∧ (¬ (gA G70 b112 (r69 + 5).toNatClampNeg) = 1 → gT G70 a0 = (1, 11) ∧ wX10_fails X G70 a0 2 (fun r133 G134 => Pr r133 G134)) ∧ ((gA G70 b112 (r69 + 5).toNatClampNeg) = 1 → gT G70 a0 = (1, 11) ∧ ∃ b153, gR G70 352 a0 = some b153 ∧ (gT G70 b153).1 = 2 ∧ vp_in ((760 + (16 * x1)) + x2) (gT G70 b153).2 ∧ Pr (gA G70 b153 ((760 + (16 * x1)) + x2).toNatClampNeg) G70)))) ∧ (r47 = 0 → gT G48 a0 = (1, 11) ∧ wX10_fails X G48 a0 1 (fun r89 G90 => Pr r89 G90))))))
set_option maxRecDepth 20000 in
theorem mX10_value {X : Xt} {l : Launch} (hfl : l.stackTraces = false) {G : Gt} {a0 : Nat} {x1 : Int32} {x2 : Int32} {Pr : Int32 → Gt → Prop} (h : wX10_value X G a0 x1 x2 Pr) : Mc X l yX10_value (.code yX10_value cX10_value 4 (some (.int))) 2 43 [.ref a0, .int x1, .int x2] G (rI Pr) noX := by
  refine Mc.of (by decide +kernel) hfl [some (.ref a0), some (.int x1), some (.int x2), none] rfl (Nat.le_of_ble_eq_true rfl) rfl ?_
  intro K hL C E0 hr hnm hex
  have B : BX X K l cX10_value 4 RX10 2 43 G (some (.int)) "value" := ⟨hL, C, E0, hr, hnm, hex, hfl⟩
  have C : Cx X K cX10_value 4 RX10 2 43 := C
  unfold wX10_value at h
  refine r_aloadR_n C 0 dX10_value_0 rfl rfl ?_
  refine r_iconst C 0 dX10_value_1 (by decide) ?_
  obtain ⟨ht, h⟩ := h
  refine r_putI C cw_11 fp_RX10_36 rfl ht dX10_value_2 ?_
  refine r_nm (fun G1 hG1 => ?_)
  replace h := h G1 hG1
  refine r_aloadR_n C 0 dX10_value_5 rfl rfl ?_
  refine r_iload_n C 1 dX10_value_6 rfl rfl ?_
  obtain ⟨ht, h⟩ := h
  refine r_callV C (r := (RX10, TX10, 19)) hL yw_X10_isRequest vw_RX10_72 rfl rfl ht rfl rfl (Nat.le_of_ble_eq_true rfl) ⟨(Nat.le_of_ble_eq_true rfl), (Nat.le_of_ble_eq_true rfl)⟩ (mX10_isRequest hfl h) rfl dX10_value_7 (kI (fun r2 G3 h => ?_)) kN
  refine r_if_eq C 34 dX10_value_10 (by decide) (fun c => ?_) (fun c => ?_)
  · replace h := h.1 c
    refine r_aloadR_n C 0 dX10_value_34 rfl rfl ?_
    refine r_iconst C 1 dX10_value_35 (by decide) ?_
    obtain ⟨ht, h⟩ := h
    refine r_callV C (r := (RX10, TX10, 19)) hL yw_X10_fails vw_RX10_43 rfl rfl ht rfl rfl (Nat.le_of_ble_eq_true rfl) ⟨(Nat.le_of_ble_eq_true rfl), (Nat.le_of_ble_eq_true rfl)⟩ (mX10_fails hfl h) rfl dX10_value_36 (kI (fun r24 G25 h => ?_)) kN
    exact r_iret C E0 hr ⟨_, rfl, h⟩ dX10_value_39
  · replace h := h.2 c
    refine r_iload_n C 2 dX10_value_13 rfl rfl ?_
    refine r_iconst C 0 dX10_value_14 (by decide) ?_
    refine r_aloadR_n C 0 dX10_value_15 rfl rfl ?_
    obtain ⟨ht, h⟩ := h
    obtain ⟨b44, hb, h⟩ := h
    refine r_getR C fw_RX10_7 rfl ht hb dX10_value_16 ?_
    refine r_iload_n C 1 dX10_value_19 rfl rfl ?_
    refine r_callS C hL yw_X10_requestAt sw_RX10_61 rfl rfl (Nat.le_of_ble_eq_true rfl) ⟨(Nat.le_of_ble_eq_true rfl), (Nat.le_of_ble_eq_true rfl)⟩ (mX10_requestAt hfl h) rfl dX10_value_20 (kI (fun r45 G46 h => ?_)) kN
    refine r_iconst C 3 dX10_value_23 (by decide) ?_
    refine r_iadd C dX10_value_24 ?_
    obtain ⟨ht, hi, h⟩ := h
    refine r_ialdP C ht hi dX10_value_25 ?_
    refine r_iconst C 1 dX10_value_26 (by decide) ?_
    refine r_isub C dX10_value_27 ?_
    refine r_callS C hL yw_X10_in sw_RX10_39 rfl rfl (Nat.le_of_ble_eq_true rfl) ⟨(Nat.le_of_ble_eq_true rfl), (Nat.le_of_ble_eq_true rfl)⟩ (mX10_in hfl h) rfl dX10_value_28 (kI (fun r47 G48 h => ?_)) kN
    refine r_if_ne C 40 dX10_value_31 (by decide) (fun c => ?_) (fun c => ?_)
    · replace h := h.1 c
      refine r_iload_n C 1 dX10_value_40 rfl rfl ?_
      refine r_callS C hL yw_X10_requestAt sw_RX10_61 rfl rfl (Nat.le_of_ble_eq_true rfl) ⟨(Nat.le_of_ble_eq_true rfl), (Nat.le_of_ble_eq_true rfl)⟩ (mX10_requestAt hfl h) rfl dX10_value_41 (kI (fun r69 G70 h => ?_)) kN
      refine r_istore_n C 3 (lv' := [some (.ref a0), some (.int x1), some (.int x2), some (.int r69)]) dX10_value_44 rfl (Nat.le_of_ble_eq_true rfl) rfl rfl ?_
      refine r_aloadR_n C 0 dX10_value_45 rfl rfl ?_
      obtain ⟨ht, h⟩ := h
      obtain ⟨b71, hb, h⟩ := h
      refine r_getR C fw_RX10_7 rfl ht hb dX10_value_46 ?_
      refine r_iload_n C 3 dX10_value_49 rfl rfl ?_
      refine r_iconst C 4 dX10_value_50 (by decide) ?_
      refine r_iadd C dX10_value_51 ?_
      obtain ⟨ht, hi, h⟩ := h
      refine r_ialdP C ht hi dX10_value_52 ?_
      refine r_if_ne C 86 dX10_value_53 (by decide) (fun c => ?_) (fun c => ?_)
      · replace h := h.1 c
        refine r_aloadR_n C 0 dX10_value_86 rfl rfl ?_
        refine r_iconst C 2 dX10_value_87 (by decide) ?_
        obtain ⟨ht, h⟩ := h
        refine r_callV C (r := (RX10, TX10, 19)) hL yw_X10_fails vw_RX10_43 rfl rfl ht rfl rfl (Nat.le_of_ble_eq_true rfl) ⟨(Nat.le_of_ble_eq_true rfl), (Nat.le_of_ble_eq_true rfl)⟩ (mX10_fails hfl h) rfl dX10_value_88 (kI (fun r92 G93 h => ?_)) kN
        exact r_iret C E0 hr ⟨_, rfl, h⟩ dX10_value_91
      · replace h := h.2 c
        refine r_aloadR_n C 0 dX10_value_56 rfl rfl ?_
        obtain ⟨ht, h⟩ := h
        obtain ⟨b112, hb, h⟩ := h
        refine r_getR C fw_RX10_7 rfl ht hb dX10_value_57 ?_
        refine r_iload_n C 3 dX10_value_60 rfl rfl ?_
        refine r_iconst C 5 dX10_value_61 (by decide) ?_
        refine r_iadd C dX10_value_62 ?_
        obtain ⟨ht, hi, h⟩ := h
        refine r_ialdP C ht hi dX10_value_63 ?_
        refine r_iconst C 1 dX10_value_64 (by decide) ?_
        refine r_icmp_ne C 86 dX10_value_65 (by decide) (fun c => ?_) (fun c => ?_)
        · replace h := h.1 c
          refine r_aloadR_n C 0 dX10_value_86 rfl rfl ?_
          refine r_iconst C 2 dX10_value_87 (by decide) ?_
          obtain ⟨ht, h⟩ := h
          refine r_callV C (r := (RX10, TX10, 19)) hL yw_X10_fails vw_RX10_43 rfl rfl ht rfl rfl (Nat.le_of_ble_eq_true rfl) ⟨(Nat.le_of_ble_eq_true rfl), (Nat.le_of_ble_eq_true rfl)⟩ (mX10_fails hfl h) rfl dX10_value_88 (kI (fun r133 G134 h => ?_)) kN
          exact r_iret C E0 hr ⟨_, rfl, h⟩ dX10_value_91
        · replace h := h.2 c
          refine r_aloadR_n C 0 dX10_value_68 rfl rfl ?_
          obtain ⟨ht, h⟩ := h
          obtain ⟨b153, hb, h⟩ := h
          refine r_getR C fw_RX10_7 rfl ht hb dX10_value_69 ?_
          refine r_sipush C 760 dX10_value_72 (by decide) ?_
          refine r_bipush C 16 dX10_value_75 (by decide) ?_
          refine r_iload_n C 1 dX10_value_77 rfl rfl ?_
          refine r_imul C dX10_value_78 ?_
          refine r_iadd C dX10_value_79 ?_
          refine r_iload_n C 2 dX10_value_80 rfl rfl ?_
          refine r_iadd C dX10_value_81 ?_
          obtain ⟨ht, hi, h⟩ := h
          refine r_ialdP C ht hi dX10_value_82 ?_
          refine r_goto C 91 dX10_value_83 (by decide) ?_
          exact r_iret C E0 hr ⟨_, rfl, h⟩ dX10_value_91
    · replace h := h.2 c
      refine r_aloadR_n C 0 dX10_value_34 rfl rfl ?_
      refine r_iconst C 1 dX10_value_35 (by decide) ?_
      obtain ⟨ht, h⟩ := h
      refine r_callV C (r := (RX10, TX10, 19)) hL yw_X10_fails vw_RX10_43 rfl rfl ht rfl rfl (Nat.le_of_ble_eq_true rfl) ⟨(Nat.le_of_ble_eq_true rfl), (Nat.le_of_ble_eq_true rfl)⟩ (mX10_fails hfl h) rfl dX10_value_36 (kI (fun r89 G90 h => ?_)) kN
      exact r_iret C E0 hr ⟨_, rfl, h⟩ dX10_value_39
def wX10_countIn_5 (X : Xt) (Pr : Int32 → Gt → Prop) (k5 : Gt → Nat → Int32 → Int32 → Int32 → Int32 → Prop) (G : Gt) (a0 : Nat) (x1 : Int32) (x2 : Int32) (x3 : Int32) (x4 : Int32) : Prop := gT G a0 = (1, 11) ∧ ∃ b1, gR G 352 a0 = some b1 ∧ (gT G b1).1 = 2 ∧ vp_in 6 (gT G b1).2 ∧ ((gA G b1 (6 : Int32).toNatClampNeg) ≤ x4 → Pr x3 G) ∧ (¬ ((gA G b1 (6 : Int32).toNatClampNeg) ≤ x4) → gT G a0 = (1, 11) ∧ ∃ b42, gR G 352 a0 = some b42 ∧ wX10_requestAt X G x4 (fun r43 G44 => (gT G44 b42).1 = 2 ∧ vp_in (r43 + 5) (gT G44 b42).2 ∧ (¬ (gA G44 b42 (r43 + 5).toNatClampNeg) = x2 → k5 G44 a0 x1 x2 (x3 + 0) (x4 + 1)) ∧ ((gA G44 b42 (r43 + 5).toNatClampNeg) = x2 → (x1 < 0 → k5 G44 a0 x1 x2 (x3 + 1) (x4 + 1)) ∧ (¬ (x1 < 0) → gT G44 a0 = (1, 11) ∧ ∃ b125, gR G44 352 a0 = some b125 ∧ wX10_requestAt X G44 x4 (fun r126 G127 => (gT G127 b125).1 = 2 ∧ vp_in r126 (gT G127 b125).2 ∧ (¬ (gA G127 b125 r126.toNatClampNeg) = x1 → k5 G127 a0 x1 x2 (x3 + 0) (x4 + 1)) ∧ ((gA G127 b125 r126.toNatClampNeg) = x1 → k5 G127 a0 x1 x2 (x3 + 1) (x4 + 1)))))))
set_option maxRecDepth 20000 in
theorem bX10_countIn_5 {X : Xt} {K : Kt} {l : Launch} {G0 : Gt} {Pr : Int32 → Gt → Prop} (B : BX X K l cX10_countIn 5 RX10 1 20 G0 (some (.int)) "countIn") {k5 : Gt → Nat → Int32 → Int32 → Int32 → Int32 → Prop} (hk5 : ∀ (G : Gt) (a0 : Nat) (x1 : Int32) (x2 : Int32) (x3 : Int32) (x4 : Int32), k5 G a0 x1 x2 x3 x4 → WM X K (QM X K G0 (rI Pr) noX) G 5 [some (.ref a0), some (.int x1), some (.int x2), some (.int x3), some (.int x4)] []) {G : Gt} {a0 : Nat} {x1 : Int32} {x2 : Int32} {x3 : Int32} {x4 : Int32} (h : wX10_countIn_5 X Pr k5 G a0 x1 x2 x3 x4) : WM X K (QM X K G0 (rI Pr) noX) G 5 [some (.ref a0), some (.int x1), some (.int x2), some (.int x3), some (.int x4)] [] := by
  obtain ⟨hL, C, E0, hr, hnm, hex, hfl⟩ := id B
  unfold wX10_countIn_5 at h
  refine r_iload C dX10_countIn_5 rfl ?_
  refine r_aloadR_n C 0 dX10_countIn_7 rfl rfl ?_
  obtain ⟨ht, h⟩ := h
  obtain ⟨b1, hb, h⟩ := h
  refine r_getR C fw_RX10_7 rfl ht hb dX10_countIn_8 ?_
  refine r_bipush C 6 dX10_countIn_11 (by decide) ?_
  obtain ⟨ht, hi, h⟩ := h
  refine r_ialdP C ht hi dX10_countIn_13 ?_
  refine r_icmp_ge C 65 dX10_countIn_14 (by decide) (fun c => ?_) (fun c => ?_)
  · replace h := h.1 c
    refine r_iload_n C 3 dX10_countIn_65 rfl rfl ?_
    exact r_iret C E0 hr ⟨_, rfl, h⟩ dX10_countIn_66
  · replace h := h.2 c
    refine r_iload_n C 3 dX10_countIn_17 rfl rfl ?_
    refine r_aloadR_n C 0 dX10_countIn_18 rfl rfl ?_
    obtain ⟨ht, h⟩ := h
    obtain ⟨b42, hb, h⟩ := h
    refine r_getR C fw_RX10_7 rfl ht hb dX10_countIn_19 ?_
    refine r_iload C dX10_countIn_22 rfl ?_
    refine r_callS C hL yw_X10_requestAt sw_RX10_61 rfl rfl (Nat.le_of_ble_eq_true rfl) ⟨(Nat.le_of_ble_eq_true rfl), (Nat.le_of_ble_eq_true rfl)⟩ (mX10_requestAt hfl h) rfl dX10_countIn_24 (kI (fun r43 G44 h => ?_)) kN
    refine r_iconst C 5 dX10_countIn_27 (by decide) ?_
    refine r_iadd C dX10_countIn_28 ?_
    obtain ⟨ht, hi, h⟩ := h
    refine r_ialdP C ht hi dX10_countIn_29 ?_
    refine r_iload_n C 2 dX10_countIn_30 rfl rfl ?_
    refine r_icmp_ne C 56 dX10_countIn_31 (by decide) (fun c => ?_) (fun c => ?_)
    · replace h := h.1 c
      refine r_iconst C 0 dX10_countIn_56 (by decide) ?_
      refine r_iadd C dX10_countIn_57 ?_
      refine r_istore_n C 3 (lv' := [some (.ref a0), some (.int x1), some (.int x2), some (.int (x3 + 0)), some (.int x4)]) dX10_countIn_58 rfl (Nat.le_of_ble_eq_true rfl) rfl rfl ?_
      refine r_iinc C 1 (lv' := [some (.ref a0), some (.int x1), some (.int x2), some (.int (x3 + 0)), some (.int (x4 + 1))]) dX10_countIn_59 rfl (by decide) rfl rfl ?_
      refine r_goto C 5 dX10_countIn_62 (by decide) ?_
      exact hk5 _ _ _ _ _ _ h
    · replace h := h.2 c
      refine r_iload_n C 1 dX10_countIn_34 rfl rfl ?_
      refine r_if_lt C 52 dX10_countIn_35 (by decide) (fun c => ?_) (fun c => ?_)
      · replace h := h.1 c
        refine r_iconst C 1 dX10_countIn_52 (by decide) ?_
        refine r_goto C 57 dX10_countIn_53 (by decide) ?_
        refine r_iadd C dX10_countIn_57 ?_
        refine r_istore_n C 3 (lv' := [some (.ref a0), some (.int x1), some (.int x2), some (.int (x3 + 1)), some (.int x4)]) dX10_countIn_58 rfl (Nat.le_of_ble_eq_true rfl) rfl rfl ?_
        refine r_iinc C 1 (lv' := [some (.ref a0), some (.int x1), some (.int x2), some (.int (x3 + 1)), some (.int (x4 + 1))]) dX10_countIn_59 rfl (by decide) rfl rfl ?_
        refine r_goto C 5 dX10_countIn_62 (by decide) ?_
        exact hk5 _ _ _ _ _ _ h
      · replace h := h.2 c
        refine r_aloadR_n C 0 dX10_countIn_38 rfl rfl ?_
        obtain ⟨ht, h⟩ := h
        obtain ⟨b125, hb, h⟩ := h
        refine r_getR C fw_RX10_7 rfl ht hb dX10_countIn_39 ?_
        refine r_iload C dX10_countIn_42 rfl ?_
        refine r_callS C hL yw_X10_requestAt sw_RX10_61 rfl rfl (Nat.le_of_ble_eq_true rfl) ⟨(Nat.le_of_ble_eq_true rfl), (Nat.le_of_ble_eq_true rfl)⟩ (mX10_requestAt hfl h) rfl dX10_countIn_44 (kI (fun r126 G127 h => ?_)) kN
        obtain ⟨ht, hi, h⟩ := h
        refine r_ialdP C ht hi dX10_countIn_47 ?_
        refine r_iload_n C 1 dX10_countIn_48 rfl rfl ?_
        refine r_icmp_ne C 56 dX10_countIn_49 (by decide) (fun c => ?_) (fun c => ?_)
        · replace h := h.1 c
          refine r_iconst C 0 dX10_countIn_56 (by decide) ?_
          refine r_iadd C dX10_countIn_57 ?_
          refine r_istore_n C 3 (lv' := [some (.ref a0), some (.int x1), some (.int x2), some (.int (x3 + 0)), some (.int x4)]) dX10_countIn_58 rfl (Nat.le_of_ble_eq_true rfl) rfl rfl ?_
          refine r_iinc C 1 (lv' := [some (.ref a0), some (.int x1), some (.int x2), some (.int (x3 + 0)), some (.int (x4 + 1))]) dX10_countIn_59 rfl (by decide) rfl rfl ?_
          refine r_goto C 5 dX10_countIn_62 (by decide) ?_
          exact hk5 _ _ _ _ _ _ h
        · replace h := h.2 c
          refine r_iconst C 1 dX10_countIn_52 (by decide) ?_
          refine r_goto C 57 dX10_countIn_53 (by decide) ?_
          refine r_iadd C dX10_countIn_57 ?_
          refine r_istore_n C 3 (lv' := [some (.ref a0), some (.int x1), some (.int x2), some (.int (x3 + 1)), some (.int x4)]) dX10_countIn_58 rfl (Nat.le_of_ble_eq_true rfl) rfl rfl ?_
          refine r_iinc C 1 (lv' := [some (.ref a0), some (.int x1), some (.int x2), some (.int (x3 + 1)), some (.int (x4 + 1))]) dX10_countIn_59 rfl (by decide) rfl rfl ?_
          refine r_goto C 5 dX10_countIn_62 (by decide) ?_
          exact hk5 _ _ _ _ _ _ h
theorem lX10_countIn_5 {X : Xt} {K : Kt} {l : Launch} {G0 : Gt} {Pr : Int32 → Gt → Prop} (B : BX X K l cX10_countIn 5 RX10 1 20 G0 (some (.int)) "countIn") (I : Gt → Nat → Int32 → Int32 → Int32 → Int32 → Prop) (μ : Gt → Nat → Int32 → Int32 → Int32 → Int32 → Nat) (hS : ∀ (G : Gt) (a0 : Nat) (x1 : Int32) (x2 : Int32) (x3 : Int32) (x4 : Int32), I G a0 x1 x2 x3 x4 → wX10_countIn_5 X Pr (fun G' a0' x1' x2' x3' x4' => I G' a0' x1' x2' x3' x4' ∧ μ G' a0' x1' x2' x3' x4' < μ G a0 x1 x2 x3 x4) G a0 x1 x2 x3 x4) : ∀ (n : Nat) (G : Gt) (a0 : Nat) (x1 : Int32) (x2 : Int32) (x3 : Int32) (x4 : Int32), μ G a0 x1 x2 x3 x4 < n → I G a0 x1 x2 x3 x4 → WM X K (QM X K G0 (rI Pr) noX) G 5 [some (.ref a0), some (.int x1), some (.int x2), some (.int x3), some (.int x4)] [] := by
  intro n
  induction n with
  | zero => intro G a0 x1 x2 x3 x4 hm; exact absurd hm (Nat.not_lt_zero _)
  | succ n ih =>
    intro G a0 x1 x2 x3 x4 hm hi
    exact bX10_countIn_5 B (fun G' a0' x1' x2' x3' x4' hk => ih G' a0' x1' x2' x3' x4' (Nat.lt_of_lt_of_le hk.2 (Nat.le_of_lt_succ hm)) hk.1) (hS G a0 x1 x2 x3 x4 hi)
def wX10_countIn (X : Xt) (G : Gt) (a0 : Nat) (x1 : Int32) (x2 : Int32) (Pr : Int32 → Gt → Prop) : Prop := ∃ (I : Gt → Nat → Int32 → Int32 → Int32 → Int32 → Prop) (μ : Gt → Nat → Int32 → Int32 → Int32 → Int32 → Nat), I G a0 x1 x2 (0 : Int32) (0 : Int32) ∧ ∀ (G : Gt) (a0 : Nat) (x1 : Int32) (x2 : Int32) (x3 : Int32) (x4 : Int32), I G a0 x1 x2 x3 x4 → wX10_countIn_5 X Pr (fun G' a0' x1' x2' x3' x4' => I G' a0' x1' x2' x3' x4' ∧ μ G' a0' x1' x2' x3' x4' < μ G a0 x1 x2 x3 x4) G a0 x1 x2 x3 x4
set_option maxRecDepth 20000 in
theorem mX10_countIn {X : Xt} {l : Launch} (hfl : l.stackTraces = false) {G : Gt} {a0 : Nat} {x1 : Int32} {x2 : Int32} {Pr : Int32 → Gt → Prop} (h : wX10_countIn X G a0 x1 x2 Pr) : Mc X l yX10_countIn (.code yX10_countIn cX10_countIn 5 (some (.int))) 1 20 [.ref a0, .int x1, .int x2] G (rI Pr) noX := by
  refine Mc.of (by decide +kernel) hfl [some (.ref a0), some (.int x1), some (.int x2), none, none] rfl (Nat.le_of_ble_eq_true rfl) rfl ?_
  intro K hL C E0 hr hnm hex
  have B : BX X K l cX10_countIn 5 RX10 1 20 G (some (.int)) "countIn" := ⟨hL, C, E0, hr, hnm, hex, hfl⟩
  have C : Cx X K cX10_countIn 5 RX10 1 20 := C
  unfold wX10_countIn at h
  refine r_iconst C 0 dX10_countIn_0 (by decide) ?_
  refine r_istore_n C 3 (lv' := [some (.ref a0), some (.int x1), some (.int x2), some (.int 0), none]) dX10_countIn_1 rfl (Nat.le_of_ble_eq_true rfl) rfl rfl ?_
  refine r_iconst C 0 dX10_countIn_2 (by decide) ?_
  refine r_istore C (lv' := [some (.ref a0), some (.int x1), some (.int x2), some (.int 0), some (.int 0)]) dX10_countIn_3 (Nat.le_of_ble_eq_true rfl) rfl rfl ?_
  obtain ⟨I, μ, hI, hS⟩ := h
  exact lX10_countIn_5 B I μ hS _ _ _ _ _ _ _ (Nat.lt_succ_self _) hI
def wX10_requests_15 (X : Xt) (Pr : Int32 → Gt → Prop) (G : Gt) (a0 : Nat) (x1 : Int32) (sa0 : Nat) (sx1 : Int32) : Prop := gT G sa0 = (1, 11) ∧ ∀ G1, G1 = sI G 354 sa0 sx1 → gT G1 a0 = (1, 11) ∧ (¬ (gI G1 354 a0) = 0 → Pr 0 G1) ∧ ((gI G1 354 a0) = 0 → gT G1 a0 = (1, 11) ∧ wX10_countIn X G1 a0 (-1) x1 (fun r42 G43 => Pr r42 G43))
set_option maxRecDepth 20000 in
theorem bX10_requests_15 {X : Xt} {K : Kt} {l : Launch} {G0 : Gt} {Pr : Int32 → Gt → Prop} (B : BX X K l cX10_requests 2 RX10 2 44 G0 (some (.int)) "requests") {G : Gt} {a0 : Nat} {x1 : Int32} {sa0 : Nat} {sx1 : Int32} (h : wX10_requests_15 X Pr G a0 x1 sa0 sx1) : WM X K (QM X K G0 (rI Pr) noX) G 15 [some (.ref a0), some (.int x1)] [.int sx1, .ref sa0] := by
  obtain ⟨hL, C, E0, hr, hnm, hex, hfl⟩ := id B
  unfold wX10_requests_15 at h
  obtain ⟨ht, h⟩ := h
  refine r_putI C cw_11 fp_RX10_36 rfl ht dX10_requests_15 ?_
  refine r_nm (fun G1 hG1 => ?_)
  replace h := h G1 hG1
  refine r_aloadR_n C 0 dX10_requests_18 rfl rfl ?_
  obtain ⟨ht, h⟩ := h
  refine r_getI C fw_RX10_36 rfl ht dX10_requests_19 ?_
  refine r_if_ne C 34 dX10_requests_22 (by decide) (fun c => ?_) (fun c => ?_)
  · replace h := h.1 c
    refine r_iconst C 0 dX10_requests_34 (by decide) ?_
    exact r_iret C E0 hr ⟨_, rfl, h⟩ dX10_requests_35
  · replace h := h.2 c
    refine r_aloadR_n C 0 dX10_requests_25 rfl rfl ?_
    refine r_iconst C (-1) dX10_requests_26 (by decide) ?_
    refine r_iload_n C 1 dX10_requests_27 rfl rfl ?_
    obtain ⟨ht, h⟩ := h
    refine r_callV C (r := (RX10, TX10, 19)) hL yw_X10_countIn vw_RX10_76 rfl rfl ht rfl rfl (Nat.le_of_ble_eq_true rfl) ⟨(Nat.le_of_ble_eq_true rfl), (Nat.le_of_ble_eq_true rfl)⟩ (mX10_countIn hfl h) rfl dX10_requests_28 (kI (fun r42 G43 h => ?_)) kN
    refine r_goto C 35 dX10_requests_31 (by decide) ?_
    exact r_iret C E0 hr ⟨_, rfl, h⟩ dX10_requests_35
def wX10_requests (X : Xt) (G : Gt) (a0 : Nat) (x1 : Int32) (Pr : Int32 → Gt → Prop) : Prop := wX10_in X G x1 0 2 (fun r1 G2 => (r1 = 0 → wX10_requests_15 X Pr G2 a0 x1 a0 (1 : Int32)) ∧ (¬ (r1 = 0) → wX10_requests_15 X Pr G2 a0 x1 a0 (0 : Int32)))
set_option maxRecDepth 20000 in
theorem mX10_requests {X : Xt} {l : Launch} (hfl : l.stackTraces = false) {G : Gt} {a0 : Nat} {x1 : Int32} {Pr : Int32 → Gt → Prop} (h : wX10_requests X G a0 x1 Pr) : Mc X l yX10_requests (.code yX10_requests cX10_requests 2 (some (.int))) 2 44 [.ref a0, .int x1] G (rI Pr) noX := by
  refine Mc.of (by decide +kernel) hfl [some (.ref a0), some (.int x1)] rfl (Nat.le_of_ble_eq_true rfl) rfl ?_
  intro K hL C E0 hr hnm hex
  have B : BX X K l cX10_requests 2 RX10 2 44 G (some (.int)) "requests" := ⟨hL, C, E0, hr, hnm, hex, hfl⟩
  have C : Cx X K cX10_requests 2 RX10 2 44 := C
  unfold wX10_requests at h
  refine r_aloadR_n C 0 dX10_requests_0 rfl rfl ?_
  refine r_iload_n C 1 dX10_requests_1 rfl rfl ?_
  refine r_iconst C 0 dX10_requests_2 (by decide) ?_
  refine r_iconst C 2 dX10_requests_3 (by decide) ?_
  refine r_callS C hL yw_X10_in sw_RX10_39 rfl rfl (Nat.le_of_ble_eq_true rfl) ⟨(Nat.le_of_ble_eq_true rfl), (Nat.le_of_ble_eq_true rfl)⟩ (mX10_in hfl h) rfl dX10_requests_4 (kI (fun r1 G2 h => ?_)) kN
  refine r_if_eq C 14 dX10_requests_7 (by decide) (fun c => ?_) (fun c => ?_)
  · replace h := h.1 c
    refine r_iconst C 1 dX10_requests_14 (by decide) ?_
    exact bX10_requests_15 B h
  · replace h := h.2 c
    refine r_iconst C 0 dX10_requests_10 (by decide) ?_
    refine r_goto C 15 dX10_requests_11 (by decide) ?_
    exact bX10_requests_15 B h
def wX10_requestsOf_24 (X : Xt) (Pr : Int32 → Gt → Prop) (G : Gt) (a0 : Nat) (x1 : Int32) (x2 : Int32) (sa0 : Nat) (sx1 : Int32) : Prop := gT G sa0 = (1, 11) ∧ ∀ G1, G1 = sI G 354 sa0 sx1 → gT G1 a0 = (1, 11) ∧ (¬ (gI G1 354 a0) = 0 → Pr 0 G1) ∧ ((gI G1 354 a0) = 0 → gT G1 a0 = (1, 11) ∧ wX10_countIn X G1 a0 x1 x2 (fun r42 G43 => Pr r42 G43))
set_option maxRecDepth 20000 in
theorem bX10_requestsOf_24 {X : Xt} {K : Kt} {l : Launch} {G0 : Gt} {Pr : Int32 → Gt → Prop} (B : BX X K l cX10_requestsOf 3 RX10 2 44 G0 (some (.int)) "requestsOf") {G : Gt} {a0 : Nat} {x1 : Int32} {x2 : Int32} {sa0 : Nat} {sx1 : Int32} (h : wX10_requestsOf_24 X Pr G a0 x1 x2 sa0 sx1) : WM X K (QM X K G0 (rI Pr) noX) G 24 [some (.ref a0), some (.int x1), some (.int x2)] [.int sx1, .ref sa0] := by
  obtain ⟨hL, C, E0, hr, hnm, hex, hfl⟩ := id B
  unfold wX10_requestsOf_24 at h
  obtain ⟨ht, h⟩ := h
  refine r_putI C cw_11 fp_RX10_36 rfl ht dX10_requestsOf_24 ?_
  refine r_nm (fun G1 hG1 => ?_)
  replace h := h G1 hG1
  refine r_aloadR_n C 0 dX10_requestsOf_27 rfl rfl ?_
  obtain ⟨ht, h⟩ := h
  refine r_getI C fw_RX10_36 rfl ht dX10_requestsOf_28 ?_
  refine r_if_ne C 43 dX10_requestsOf_31 (by decide) (fun c => ?_) (fun c => ?_)
  · replace h := h.1 c
    refine r_iconst C 0 dX10_requestsOf_43 (by decide) ?_
    exact r_iret C E0 hr ⟨_, rfl, h⟩ dX10_requestsOf_44
  · replace h := h.2 c
    refine r_aloadR_n C 0 dX10_requestsOf_34 rfl rfl ?_
    refine r_iload_n C 1 dX10_requestsOf_35 rfl rfl ?_
    refine r_iload_n C 2 dX10_requestsOf_36 rfl rfl ?_
    obtain ⟨ht, h⟩ := h
    refine r_callV C (r := (RX10, TX10, 19)) hL yw_X10_countIn vw_RX10_76 rfl rfl ht rfl rfl (Nat.le_of_ble_eq_true rfl) ⟨(Nat.le_of_ble_eq_true rfl), (Nat.le_of_ble_eq_true rfl)⟩ (mX10_countIn hfl h) rfl dX10_requestsOf_37 (kI (fun r42 G43 h => ?_)) kN
    refine r_goto C 44 dX10_requestsOf_40 (by decide) ?_
    exact r_iret C E0 hr ⟨_, rfl, h⟩ dX10_requestsOf_44
def wX10_requestsOf (X : Xt) (G : Gt) (a0 : Nat) (x1 : Int32) (x2 : Int32) (Pr : Int32 → Gt → Prop) : Prop := wX10_in X G x1 0 3 (fun r1 G2 => (r1 = 0 → wX10_requestsOf_24 X Pr G2 a0 x1 x2 a0 (1 : Int32)) ∧ (¬ (r1 = 0) → wX10_in X G2 x2 0 2 (fun r43 G44 => (r43 = 0 → wX10_requestsOf_24 X Pr G44 a0 x1 x2 a0 (1 : Int32)) ∧ (¬ (r43 = 0) → wX10_requestsOf_24 X Pr G44 a0 x1 x2 a0 (0 : Int32)))))
set_option maxRecDepth 20000 in
theorem mX10_requestsOf {X : Xt} {l : Launch} (hfl : l.stackTraces = false) {G : Gt} {a0 : Nat} {x1 : Int32} {x2 : Int32} {Pr : Int32 → Gt → Prop} (h : wX10_requestsOf X G a0 x1 x2 Pr) : Mc X l yX10_requestsOf (.code yX10_requestsOf cX10_requestsOf 3 (some (.int))) 2 44 [.ref a0, .int x1, .int x2] G (rI Pr) noX := by
  refine Mc.of (by decide +kernel) hfl [some (.ref a0), some (.int x1), some (.int x2)] rfl (Nat.le_of_ble_eq_true rfl) rfl ?_
  intro K hL C E0 hr hnm hex
  have B : BX X K l cX10_requestsOf 3 RX10 2 44 G (some (.int)) "requestsOf" := ⟨hL, C, E0, hr, hnm, hex, hfl⟩
  have C : Cx X K cX10_requestsOf 3 RX10 2 44 := C
  unfold wX10_requestsOf at h
  refine r_aloadR_n C 0 dX10_requestsOf_0 rfl rfl ?_
  refine r_iload_n C 1 dX10_requestsOf_1 rfl rfl ?_
  refine r_iconst C 0 dX10_requestsOf_2 (by decide) ?_
  refine r_iconst C 3 dX10_requestsOf_3 (by decide) ?_
  refine r_callS C hL yw_X10_in sw_RX10_39 rfl rfl (Nat.le_of_ble_eq_true rfl) ⟨(Nat.le_of_ble_eq_true rfl), (Nat.le_of_ble_eq_true rfl)⟩ (mX10_in hfl h) rfl dX10_requestsOf_4 (kI (fun r1 G2 h => ?_)) kN
  refine r_if_eq C 23 dX10_requestsOf_7 (by decide) (fun c => ?_) (fun c => ?_)
  · replace h := h.1 c
    refine r_iconst C 1 dX10_requestsOf_23 (by decide) ?_
    exact bX10_requestsOf_24 B h
  · replace h := h.2 c
    refine r_iload_n C 2 dX10_requestsOf_10 rfl rfl ?_
    refine r_iconst C 0 dX10_requestsOf_11 (by decide) ?_
    refine r_iconst C 2 dX10_requestsOf_12 (by decide) ?_
    refine r_callS C hL yw_X10_in sw_RX10_39 rfl rfl (Nat.le_of_ble_eq_true rfl) ⟨(Nat.le_of_ble_eq_true rfl), (Nat.le_of_ble_eq_true rfl)⟩ (mX10_in hfl h) rfl dX10_requestsOf_13 (kI (fun r43 G44 h => ?_)) kN
    refine r_if_eq C 23 dX10_requestsOf_16 (by decide) (fun c => ?_) (fun c => ?_)
    · replace h := h.1 c
      refine r_iconst C 1 dX10_requestsOf_23 (by decide) ?_
      exact bX10_requestsOf_24 B h
    · replace h := h.2 c
      refine r_iconst C 0 dX10_requestsOf_19 (by decide) ?_
      refine r_goto C 24 dX10_requestsOf_20 (by decide) ?_
      exact bX10_requestsOf_24 B h
def wX10_cacheAt (X : Xt) (G : Gt) (x0 : Int32) (x1 : Int32) (Pr : Int32 → Gt → Prop) : Prop := wX10_registerAt X G x0 x1 (fun r1 G2 => Pr (1400 + (3 * r1)) G2)
set_option maxRecDepth 20000 in
theorem mX10_cacheAt {X : Xt} {l : Launch} (hfl : l.stackTraces = false) {G : Gt} {x0 : Int32} {x1 : Int32} {Pr : Int32 → Gt → Prop} (h : wX10_cacheAt X G x0 x1 Pr) : Mc X l yX10_cacheAt (.code yX10_cacheAt cX10_cacheAt 2 (some (.int))) 1 21 [.int x0, .int x1] G (rI Pr) noX := by
  refine Mc.of (by decide +kernel) hfl [some (.int x0), some (.int x1)] rfl (Nat.le_of_ble_eq_true rfl) rfl ?_
  intro K hL C E0 hr hnm hex
  have B : BX X K l cX10_cacheAt 2 RX10 1 21 G (some (.int)) "cacheAt" := ⟨hL, C, E0, hr, hnm, hex, hfl⟩
  have C : Cx X K cX10_cacheAt 2 RX10 1 21 := C
  unfold wX10_cacheAt at h
  refine r_sipush C 1400 dX10_cacheAt_0 (by decide) ?_
  refine r_iconst C 3 dX10_cacheAt_3 (by decide) ?_
  refine r_iload_n C 0 dX10_cacheAt_4 rfl rfl ?_
  refine r_iload_n C 1 dX10_cacheAt_5 rfl rfl ?_
  refine r_callS C hL yw_X10_registerAt sw_RX10_55 rfl rfl (Nat.le_of_ble_eq_true rfl) ⟨(Nat.le_of_ble_eq_true rfl), (Nat.le_of_ble_eq_true rfl)⟩ (mX10_registerAt hfl h) rfl dX10_cacheAt_6 (kI (fun r1 G2 h => ?_)) kN
  refine r_imul C dX10_cacheAt_9 ?_
  refine r_iadd C dX10_cacheAt_10 ?_
  exact r_iret C E0 hr ⟨_, rfl, h⟩ dX10_cacheAt_11
def wX10_isFresh (X : Xt) (G : Gt) (a0 : Nat) (x1 : Int32) (x2 : Int32) (Pr : Int32 → Gt → Prop) : Prop := wX10_in X G x2 0 31 (fun r1 G2 => (¬ r1 = 0 → wX10_cacheAt X G2 x1 x2 (fun r23 G24 => gT G24 a0 = (1, 11) ∧ ∃ b25, gR G24 352 a0 = some b25 ∧ (gT G24 b25).1 = 2 ∧ vp_in r23 (gT G24 b25).2 ∧ (¬ (gA G24 b25 r23.toNatClampNeg) = 1 → Pr 0 G24) ∧ ((gA G24 b25 r23.toNatClampNeg) = 1 → gT G24 a0 = (1, 11) ∧ ∃ b66, gR G24 352 a0 = some b66 ∧ (gT G24 b66).1 = 2 ∧ vp_in 0 (gT G24 b66).2 ∧ gT G24 a0 = (1, 11) ∧ ∃ b67, gR G24 352 a0 = some b67 ∧ (gT G24 b67).1 = 2 ∧ vp_in (r23 + 2) (gT G24 b67).2 ∧ gT G24 a0 = (1, 11) ∧ ∃ b68, gR G24 352 a0 = some b68 ∧ (gT G24 b68).1 = 2 ∧ vp_in 1 (gT G24 b68).2 ∧ ((gA G24 b68 (1 : Int32).toNatClampNeg) < ((gA G24 b66 (0 : Int32).toNatClampNeg) - (gA G24 b67 (r23 + 2).toNatClampNeg)) → Pr 0 G24) ∧ (¬ ((gA G24 b68 (1 : Int32).toNatClampNeg) < ((gA G24 b66 (0 : Int32).toNatClampNeg) - (gA G24 b67 (r23 + 2).toNatClampNeg))) → Pr 1 G24)))) ∧ (r1 = 0 → Pr 0 G2))
set_option maxRecDepth 20000 in
theorem mX10_isFresh {X : Xt} {l : Launch} (hfl : l.stackTraces = false) {G : Gt} {a0 : Nat} {x1 : Int32} {x2 : Int32} {Pr : Int32 → Gt → Prop} (h : wX10_isFresh X G a0 x1 x2 Pr) : Mc X l yX10_isFresh (.code yX10_isFresh cX10_isFresh 4 (some (.boolean))) 2 42 [.ref a0, .int x1, .int x2] G (rI Pr) noX := by
  refine Mc.of (by decide +kernel) hfl [some (.ref a0), some (.int x1), some (.int x2), none] rfl (Nat.le_of_ble_eq_true rfl) rfl ?_
  intro K hL C E0 hr hnm hex
  have B : BX X K l cX10_isFresh 4 RX10 2 42 G (some (.boolean)) "isFresh" := ⟨hL, C, E0, hr, hnm, hex, hfl⟩
  have C : Cx X K cX10_isFresh 4 RX10 2 42 := C
  unfold wX10_isFresh at h
  refine r_iload_n C 2 dX10_isFresh_0 rfl rfl ?_
  refine r_iconst C 0 dX10_isFresh_1 (by decide) ?_
  refine r_bipush C 31 dX10_isFresh_2 (by decide) ?_
  refine r_callS C hL yw_X10_in sw_RX10_39 rfl rfl (Nat.le_of_ble_eq_true rfl) ⟨(Nat.le_of_ble_eq_true rfl), (Nat.le_of_ble_eq_true rfl)⟩ (mX10_in hfl h) rfl dX10_isFresh_4 (kI (fun r1 G2 h => ?_)) kN
  refine r_if_ne C 12 dX10_isFresh_7 (by decide) (fun c => ?_) (fun c => ?_)
  · replace h := h.1 c
    refine r_iload_n C 1 dX10_isFresh_12 rfl rfl ?_
    refine r_iload_n C 2 dX10_isFresh_13 rfl rfl ?_
    refine r_callS C hL yw_X10_cacheAt sw_RX10_79 rfl rfl (Nat.le_of_ble_eq_true rfl) ⟨(Nat.le_of_ble_eq_true rfl), (Nat.le_of_ble_eq_true rfl)⟩ (mX10_cacheAt hfl h) rfl dX10_isFresh_14 (kI (fun r23 G24 h => ?_)) kN
    refine r_istore_n C 3 (lv' := [some (.ref a0), some (.int x1), some (.int x2), some (.int r23)]) dX10_isFresh_17 rfl (Nat.le_of_ble_eq_true rfl) rfl rfl ?_
    refine r_aloadR_n C 0 dX10_isFresh_18 rfl rfl ?_
    obtain ⟨ht, h⟩ := h
    obtain ⟨b25, hb, h⟩ := h
    refine r_getR C fw_RX10_7 rfl ht hb dX10_isFresh_19 ?_
    refine r_iload_n C 3 dX10_isFresh_22 rfl rfl ?_
    obtain ⟨ht, hi, h⟩ := h
    refine r_ialdP C ht hi dX10_isFresh_23 ?_
    refine r_iconst C 1 dX10_isFresh_24 (by decide) ?_
    refine r_icmp_ne C 56 dX10_isFresh_25 (by decide) (fun c => ?_) (fun c => ?_)
    · replace h := h.1 c
      refine r_iconst C 0 dX10_isFresh_56 (by decide) ?_
      exact r_zret C E0 hr (Or.inl rfl) ⟨_, rfl, h⟩ dX10_isFresh_57
    · replace h := h.2 c
      refine r_aloadR_n C 0 dX10_isFresh_28 rfl rfl ?_
      obtain ⟨ht, h⟩ := h
      obtain ⟨b66, hb, h⟩ := h
      refine r_getR C fw_RX10_7 rfl ht hb dX10_isFresh_29 ?_
      refine r_iconst C 0 dX10_isFresh_32 (by decide) ?_
      obtain ⟨ht, hi, h⟩ := h
      refine r_ialdP C ht hi dX10_isFresh_33 ?_
      refine r_aloadR_n C 0 dX10_isFresh_34 rfl rfl ?_
      obtain ⟨ht, h⟩ := h
      obtain ⟨b67, hb, h⟩ := h
      refine r_getR C fw_RX10_7 rfl ht hb dX10_isFresh_35 ?_
      refine r_iload_n C 3 dX10_isFresh_38 rfl rfl ?_
      refine r_iconst C 2 dX10_isFresh_39 (by decide) ?_
      refine r_iadd C dX10_isFresh_40 ?_
      obtain ⟨ht, hi, h⟩ := h
      refine r_ialdP C ht hi dX10_isFresh_41 ?_
      refine r_isub C dX10_isFresh_42 ?_
      refine r_aloadR_n C 0 dX10_isFresh_43 rfl rfl ?_
      obtain ⟨ht, h⟩ := h
      obtain ⟨b68, hb, h⟩ := h
      refine r_getR C fw_RX10_7 rfl ht hb dX10_isFresh_44 ?_
      refine r_iconst C 1 dX10_isFresh_47 (by decide) ?_
      obtain ⟨ht, hi, h⟩ := h
      refine r_ialdP C ht hi dX10_isFresh_48 ?_
      refine r_icmp_gt C 56 dX10_isFresh_49 (by decide) (fun c => ?_) (fun c => ?_)
      · replace h := h.1 c
        refine r_iconst C 0 dX10_isFresh_56 (by decide) ?_
        exact r_zret C E0 hr (Or.inl rfl) ⟨_, rfl, h⟩ dX10_isFresh_57
      · replace h := h.2 c
        refine r_iconst C 1 dX10_isFresh_52 (by decide) ?_
        refine r_goto C 57 dX10_isFresh_53 (by decide) ?_
        exact r_zret C E0 hr (Or.inr rfl) ⟨_, rfl, h⟩ dX10_isFresh_57
  · replace h := h.2 c
    refine r_iconst C 0 dX10_isFresh_10 (by decide) ?_
    exact r_zret C E0 hr (Or.inl rfl) ⟨_, rfl, h⟩ dX10_isFresh_11
def wX10_isWaiting (X : Xt) (G : Gt) (a0 : Nat) (x1 : Int32) (Pr : Int32 → Gt → Prop) : Prop := gT G a0 = (1, 11) ∧ ∃ b1, gR G 352 a0 = some b1 ∧ wX10_requestAt X G x1 (fun r2 G3 => (gT G3 b1).1 = 2 ∧ vp_in (r2 + 5) (gT G3 b1).2 ∧ (¬ (gA G3 b1 (r2 + 5).toNatClampNeg) = 0 → Pr 0 G3) ∧ ((gA G3 b1 (r2 + 5).toNatClampNeg) = 0 → Pr 1 G3))
set_option maxRecDepth 20000 in
theorem mX10_isWaiting {X : Xt} {l : Launch} (hfl : l.stackTraces = false) {G : Gt} {a0 : Nat} {x1 : Int32} {Pr : Int32 → Gt → Prop} (h : wX10_isWaiting X G a0 x1 Pr) : Mc X l yX10_isWaiting (.code yX10_isWaiting cX10_isWaiting 2 (some (.boolean))) 1 20 [.ref a0, .int x1] G (rI Pr) noX := by
  refine Mc.of (by decide +kernel) hfl [some (.ref a0), some (.int x1)] rfl (Nat.le_of_ble_eq_true rfl) rfl ?_
  intro K hL C E0 hr hnm hex
  have B : BX X K l cX10_isWaiting 2 RX10 1 20 G (some (.boolean)) "isWaiting" := ⟨hL, C, E0, hr, hnm, hex, hfl⟩
  have C : Cx X K cX10_isWaiting 2 RX10 1 20 := C
  unfold wX10_isWaiting at h
  refine r_aloadR_n C 0 dX10_isWaiting_0 rfl rfl ?_
  obtain ⟨ht, h⟩ := h
  obtain ⟨b1, hb, h⟩ := h
  refine r_getR C fw_RX10_7 rfl ht hb dX10_isWaiting_1 ?_
  refine r_iload_n C 1 dX10_isWaiting_4 rfl rfl ?_
  refine r_callS C hL yw_X10_requestAt sw_RX10_61 rfl rfl (Nat.le_of_ble_eq_true rfl) ⟨(Nat.le_of_ble_eq_true rfl), (Nat.le_of_ble_eq_true rfl)⟩ (mX10_requestAt hfl h) rfl dX10_isWaiting_5 (kI (fun r2 G3 h => ?_)) kN
  refine r_iconst C 5 dX10_isWaiting_8 (by decide) ?_
  refine r_iadd C dX10_isWaiting_9 ?_
  obtain ⟨ht, hi, h⟩ := h
  refine r_ialdP C ht hi dX10_isWaiting_10 ?_
  refine r_if_ne C 18 dX10_isWaiting_11 (by decide) (fun c => ?_) (fun c => ?_)
  · replace h := h.1 c
    refine r_iconst C 0 dX10_isWaiting_18 (by decide) ?_
    exact r_zret C E0 hr (Or.inl rfl) ⟨_, rfl, h⟩ dX10_isWaiting_19
  · replace h := h.2 c
    refine r_iconst C 1 dX10_isWaiting_14 (by decide) ?_
    refine r_goto C 19 dX10_isWaiting_15 (by decide) ?_
    exact r_zret C E0 hr (Or.inr rfl) ⟨_, rfl, h⟩ dX10_isWaiting_19
def wX10_end (X : Xt) (G : Gt) (a0 : Nat) (x1 : Int32) (Pr : Int32 → Gt → Prop) : Prop := gT G a0 = (1, 11) ∧ ∃ b1, gR G 352 a0 = some b1 ∧ wX10_requestAt X G x1 (fun r2 G3 => (gT G3 b1).1 = 2 ∧ vp_in (r2 + 2) (gT G3 b1).2 ∧ gT G3 a0 = (1, 11) ∧ ∃ b4, gR G3 352 a0 = some b4 ∧ wX10_requestAt X G3 x1 (fun r5 G6 => (gT G6 b4).1 = 2 ∧ vp_in (r5 + 3) (gT G6 b4).2 ∧ Pr ((gA G3 b1 (r2 + 2).toNatClampNeg) + (gA G6 b4 (r5 + 3).toNatClampNeg)) G6))
set_option maxRecDepth 20000 in
theorem mX10_end {X : Xt} {l : Launch} (hfl : l.stackTraces = false) {G : Gt} {a0 : Nat} {x1 : Int32} {Pr : Int32 → Gt → Prop} (h : wX10_end X G a0 x1 Pr) : Mc X l yX10_end (.code yX10_end cX10_end 2 (some (.int))) 1 20 [.ref a0, .int x1] G (rI Pr) noX := by
  refine Mc.of (by decide +kernel) hfl [some (.ref a0), some (.int x1)] rfl (Nat.le_of_ble_eq_true rfl) rfl ?_
  intro K hL C E0 hr hnm hex
  have B : BX X K l cX10_end 2 RX10 1 20 G (some (.int)) "end" := ⟨hL, C, E0, hr, hnm, hex, hfl⟩
  have C : Cx X K cX10_end 2 RX10 1 20 := C
  unfold wX10_end at h
  refine r_aloadR_n C 0 dX10_end_0 rfl rfl ?_
  obtain ⟨ht, h⟩ := h
  obtain ⟨b1, hb, h⟩ := h
  refine r_getR C fw_RX10_7 rfl ht hb dX10_end_1 ?_
  refine r_iload_n C 1 dX10_end_4 rfl rfl ?_
  refine r_callS C hL yw_X10_requestAt sw_RX10_61 rfl rfl (Nat.le_of_ble_eq_true rfl) ⟨(Nat.le_of_ble_eq_true rfl), (Nat.le_of_ble_eq_true rfl)⟩ (mX10_requestAt hfl h) rfl dX10_end_5 (kI (fun r2 G3 h => ?_)) kN
  refine r_iconst C 2 dX10_end_8 (by decide) ?_
  refine r_iadd C dX10_end_9 ?_
  obtain ⟨ht, hi, h⟩ := h
  refine r_ialdP C ht hi dX10_end_10 ?_
  refine r_aloadR_n C 0 dX10_end_11 rfl rfl ?_
  obtain ⟨ht, h⟩ := h
  obtain ⟨b4, hb, h⟩ := h
  refine r_getR C fw_RX10_7 rfl ht hb dX10_end_12 ?_
  refine r_iload_n C 1 dX10_end_15 rfl rfl ?_
  refine r_callS C hL yw_X10_requestAt sw_RX10_61 rfl rfl (Nat.le_of_ble_eq_true rfl) ⟨(Nat.le_of_ble_eq_true rfl), (Nat.le_of_ble_eq_true rfl)⟩ (mX10_requestAt hfl h) rfl dX10_end_16 (kI (fun r5 G6 h => ?_)) kN
  refine r_iconst C 3 dX10_end_19 (by decide) ?_
  refine r_iadd C dX10_end_20 ?_
  obtain ⟨ht, hi, h⟩ := h
  refine r_ialdP C ht hi dX10_end_21 ?_
  refine r_iadd C dX10_end_22 ?_
  exact r_iret C E0 hr ⟨_, rfl, h⟩ dX10_end_23
def wX10_overlap (X : Xt) (G : Gt) (a0 : Nat) (x1 : Int32) (x2 : Int32) (Pr : Int32 → Gt → Prop) : Prop := gT G a0 = (1, 11) ∧ ∃ b1, gR G 352 a0 = some b1 ∧ wX10_requestAt X G x1 (fun r2 G3 => (gT G3 b1).1 = 2 ∧ vp_in (r2 + 2) (gT G3 b1).2 ∧ gT G3 a0 = (1, 11) ∧ wX10_end X G3 a0 x2 (fun r4 G5 => (r4 ≤ (gA G3 b1 (r2 + 2).toNatClampNeg) → Pr 0 G5) ∧ (¬ (r4 ≤ (gA G3 b1 (r2 + 2).toNatClampNeg)) → gT G5 a0 = (1, 11) ∧ ∃ b46, gR G5 352 a0 = some b46 ∧ wX10_requestAt X G5 x2 (fun r47 G48 => (gT G48 b46).1 = 2 ∧ vp_in (r47 + 2) (gT G48 b46).2 ∧ gT G48 a0 = (1, 11) ∧ wX10_end X G48 a0 x1 (fun r49 G50 => (r49 ≤ (gA G48 b46 (r47 + 2).toNatClampNeg) → Pr 0 G50) ∧ (¬ (r49 ≤ (gA G48 b46 (r47 + 2).toNatClampNeg)) → Pr 1 G50))))))
set_option maxRecDepth 20000 in
theorem mX10_overlap {X : Xt} {l : Launch} (hfl : l.stackTraces = false) {G : Gt} {a0 : Nat} {x1 : Int32} {x2 : Int32} {Pr : Int32 → Gt → Prop} (h : wX10_overlap X G a0 x1 x2 Pr) : Mc X l yX10_overlap (.code yX10_overlap cX10_overlap 3 (some (.boolean))) 2 41 [.ref a0, .int x1, .int x2] G (rI Pr) noX := by
  refine Mc.of (by decide +kernel) hfl [some (.ref a0), some (.int x1), some (.int x2)] rfl (Nat.le_of_ble_eq_true rfl) rfl ?_
  intro K hL C E0 hr hnm hex
  have B : BX X K l cX10_overlap 3 RX10 2 41 G (some (.boolean)) "overlap" := ⟨hL, C, E0, hr, hnm, hex, hfl⟩
  have C : Cx X K cX10_overlap 3 RX10 2 41 := C
  unfold wX10_overlap at h
  refine r_aloadR_n C 0 dX10_overlap_0 rfl rfl ?_
  obtain ⟨ht, h⟩ := h
  obtain ⟨b1, hb, h⟩ := h
  refine r_getR C fw_RX10_7 rfl ht hb dX10_overlap_1 ?_
  refine r_iload_n C 1 dX10_overlap_4 rfl rfl ?_
  refine r_callS C hL yw_X10_requestAt sw_RX10_61 rfl rfl (Nat.le_of_ble_eq_true rfl) ⟨(Nat.le_of_ble_eq_true rfl), (Nat.le_of_ble_eq_true rfl)⟩ (mX10_requestAt hfl h) rfl dX10_overlap_5 (kI (fun r2 G3 h => ?_)) kN
  refine r_iconst C 2 dX10_overlap_8 (by decide) ?_
  refine r_iadd C dX10_overlap_9 ?_
  obtain ⟨ht, hi, h⟩ := h
  refine r_ialdP C ht hi dX10_overlap_10 ?_
  refine r_aloadR_n C 0 dX10_overlap_11 rfl rfl ?_
  refine r_iload_n C 2 dX10_overlap_12 rfl rfl ?_
  obtain ⟨ht, h⟩ := h
  refine r_callV C (r := (RX10, TX10, 19)) hL yw_X10_end vw_RX10_82 rfl rfl ht rfl rfl (Nat.le_of_ble_eq_true rfl) ⟨(Nat.le_of_ble_eq_true rfl), (Nat.le_of_ble_eq_true rfl)⟩ (mX10_end hfl h) rfl dX10_overlap_13 (kI (fun r4 G5 h => ?_)) kN
  refine r_icmp_ge C 42 dX10_overlap_16 (by decide) (fun c => ?_) (fun c => ?_)
  · replace h := h.1 c
    refine r_iconst C 0 dX10_overlap_42 (by decide) ?_
    exact r_zret C E0 hr (Or.inl rfl) ⟨_, rfl, h⟩ dX10_overlap_43
  · replace h := h.2 c
    refine r_aloadR_n C 0 dX10_overlap_19 rfl rfl ?_
    obtain ⟨ht, h⟩ := h
    obtain ⟨b46, hb, h⟩ := h
    refine r_getR C fw_RX10_7 rfl ht hb dX10_overlap_20 ?_
    refine r_iload_n C 2 dX10_overlap_23 rfl rfl ?_
    refine r_callS C hL yw_X10_requestAt sw_RX10_61 rfl rfl (Nat.le_of_ble_eq_true rfl) ⟨(Nat.le_of_ble_eq_true rfl), (Nat.le_of_ble_eq_true rfl)⟩ (mX10_requestAt hfl h) rfl dX10_overlap_24 (kI (fun r47 G48 h => ?_)) kN
    refine r_iconst C 2 dX10_overlap_27 (by decide) ?_
    refine r_iadd C dX10_overlap_28 ?_
    obtain ⟨ht, hi, h⟩ := h
    refine r_ialdP C ht hi dX10_overlap_29 ?_
    refine r_aloadR_n C 0 dX10_overlap_30 rfl rfl ?_
    refine r_iload_n C 1 dX10_overlap_31 rfl rfl ?_
    obtain ⟨ht, h⟩ := h
    refine r_callV C (r := (RX10, TX10, 19)) hL yw_X10_end vw_RX10_82 rfl rfl ht rfl rfl (Nat.le_of_ble_eq_true rfl) ⟨(Nat.le_of_ble_eq_true rfl), (Nat.le_of_ble_eq_true rfl)⟩ (mX10_end hfl h) rfl dX10_overlap_32 (kI (fun r49 G50 h => ?_)) kN
    refine r_icmp_ge C 42 dX10_overlap_35 (by decide) (fun c => ?_) (fun c => ?_)
    · replace h := h.1 c
      refine r_iconst C 0 dX10_overlap_42 (by decide) ?_
      exact r_zret C E0 hr (Or.inl rfl) ⟨_, rfl, h⟩ dX10_overlap_43
    · replace h := h.2 c
      refine r_iconst C 1 dX10_overlap_38 (by decide) ?_
      refine r_goto C 43 dX10_overlap_39 (by decide) ?_
      exact r_zret C E0 hr (Or.inr rfl) ⟨_, rfl, h⟩ dX10_overlap_43
def wX10_firstWaiting_2 (X : Xt) (Pr : Int32 → Gt → Prop) (k2 : Gt → Nat → Int32 → Prop) (G : Gt) (a0 : Nat) (x1 : Int32) : Prop := gT G a0 = (1, 11) ∧ ∃ b1, gR G 352 a0 = some b1 ∧ (gT G b1).1 = 2 ∧ vp_in 6 (gT G b1).2 ∧ ((gA G b1 (6 : Int32).toNatClampNeg) ≤ x1 → Pr (-1) G) ∧ (¬ ((gA G b1 (6 : Int32).toNatClampNeg) ≤ x1) → gT G a0 = (1, 11) ∧ wX10_isWaiting X G a0 x1 (fun r42 G43 => (r42 = 0 → k2 G43 a0 (x1 + 1)) ∧ (¬ (r42 = 0) → Pr x1 G43)))
set_option maxRecDepth 20000 in
theorem bX10_firstWaiting_2 {X : Xt} {K : Kt} {l : Launch} {G0 : Gt} {Pr : Int32 → Gt → Prop} (B : BX X K l cX10_firstWaiting 2 RX10 2 41 G0 (some (.int)) "firstWaiting") {k2 : Gt → Nat → Int32 → Prop} (hk2 : ∀ (G : Gt) (a0 : Nat) (x1 : Int32), k2 G a0 x1 → WM X K (QM X K G0 (rI Pr) noX) G 2 [some (.ref a0), some (.int x1)] []) {G : Gt} {a0 : Nat} {x1 : Int32} (h : wX10_firstWaiting_2 X Pr k2 G a0 x1) : WM X K (QM X K G0 (rI Pr) noX) G 2 [some (.ref a0), some (.int x1)] [] := by
  obtain ⟨hL, C, E0, hr, hnm, hex, hfl⟩ := id B
  unfold wX10_firstWaiting_2 at h
  refine r_iload_n C 1 dX10_firstWaiting_2 rfl rfl ?_
  refine r_aloadR_n C 0 dX10_firstWaiting_3 rfl rfl ?_
  obtain ⟨ht, h⟩ := h
  obtain ⟨b1, hb, h⟩ := h
  refine r_getR C fw_RX10_7 rfl ht hb dX10_firstWaiting_4 ?_
  refine r_bipush C 6 dX10_firstWaiting_7 (by decide) ?_
  obtain ⟨ht, hi, h⟩ := h
  refine r_ialdP C ht hi dX10_firstWaiting_9 ?_
  refine r_icmp_ge C 29 dX10_firstWaiting_10 (by decide) (fun c => ?_) (fun c => ?_)
  · replace h := h.1 c
    refine r_iconst C (-1) dX10_firstWaiting_29 (by decide) ?_
    exact r_iret C E0 hr ⟨_, rfl, h⟩ dX10_firstWaiting_30
  · replace h := h.2 c
    refine r_aloadR_n C 0 dX10_firstWaiting_13 rfl rfl ?_
    refine r_iload_n C 1 dX10_firstWaiting_14 rfl rfl ?_
    obtain ⟨ht, h⟩ := h
    refine r_callV C (r := (RX10, TX10, 19)) hL yw_X10_isWaiting vw_RX10_85 rfl rfl ht rfl rfl (Nat.le_of_ble_eq_true rfl) ⟨(Nat.le_of_ble_eq_true rfl), (Nat.le_of_ble_eq_true rfl)⟩ (mX10_isWaiting hfl h) rfl dX10_firstWaiting_15 (kI (fun r42 G43 h => ?_)) kN
    refine r_if_eq C 23 dX10_firstWaiting_18 (by decide) (fun c => ?_) (fun c => ?_)
    · replace h := h.1 c
      refine r_iinc C 1 (lv' := [some (.ref a0), some (.int (x1 + 1))]) dX10_firstWaiting_23 rfl (by decide) rfl rfl ?_
      refine r_goto C 2 dX10_firstWaiting_26 (by decide) ?_
      exact hk2 _ _ _ h
    · replace h := h.2 c
      refine r_iload_n C 1 dX10_firstWaiting_21 rfl rfl ?_
      exact r_iret C E0 hr ⟨_, rfl, h⟩ dX10_firstWaiting_22
theorem lX10_firstWaiting_2 {X : Xt} {K : Kt} {l : Launch} {G0 : Gt} {Pr : Int32 → Gt → Prop} (B : BX X K l cX10_firstWaiting 2 RX10 2 41 G0 (some (.int)) "firstWaiting") (I : Gt → Nat → Int32 → Prop) (μ : Gt → Nat → Int32 → Nat) (hS : ∀ (G : Gt) (a0 : Nat) (x1 : Int32), I G a0 x1 → wX10_firstWaiting_2 X Pr (fun G' a0' x1' => I G' a0' x1' ∧ μ G' a0' x1' < μ G a0 x1) G a0 x1) : ∀ (n : Nat) (G : Gt) (a0 : Nat) (x1 : Int32), μ G a0 x1 < n → I G a0 x1 → WM X K (QM X K G0 (rI Pr) noX) G 2 [some (.ref a0), some (.int x1)] [] := by
  intro n
  induction n with
  | zero => intro G a0 x1 hm; exact absurd hm (Nat.not_lt_zero _)
  | succ n ih =>
    intro G a0 x1 hm hi
    exact bX10_firstWaiting_2 B (fun G' a0' x1' hk => ih G' a0' x1' (Nat.lt_of_lt_of_le hk.2 (Nat.le_of_lt_succ hm)) hk.1) (hS G a0 x1 hi)
def wX10_firstWaiting (X : Xt) (G : Gt) (a0 : Nat) (Pr : Int32 → Gt → Prop) : Prop := ∃ (I : Gt → Nat → Int32 → Prop) (μ : Gt → Nat → Int32 → Nat), I G a0 (0 : Int32) ∧ ∀ (G : Gt) (a0 : Nat) (x1 : Int32), I G a0 x1 → wX10_firstWaiting_2 X Pr (fun G' a0' x1' => I G' a0' x1' ∧ μ G' a0' x1' < μ G a0 x1) G a0 x1
set_option maxRecDepth 20000 in
theorem mX10_firstWaiting {X : Xt} {l : Launch} (hfl : l.stackTraces = false) {G : Gt} {a0 : Nat} {Pr : Int32 → Gt → Prop} (h : wX10_firstWaiting X G a0 Pr) : Mc X l yX10_firstWaiting (.code yX10_firstWaiting cX10_firstWaiting 2 (some (.int))) 2 41 [.ref a0] G (rI Pr) noX := by
  refine Mc.of (by decide +kernel) hfl [some (.ref a0), none] rfl (Nat.le_of_ble_eq_true rfl) rfl ?_
  intro K hL C E0 hr hnm hex
  have B : BX X K l cX10_firstWaiting 2 RX10 2 41 G (some (.int)) "firstWaiting" := ⟨hL, C, E0, hr, hnm, hex, hfl⟩
  have C : Cx X K cX10_firstWaiting 2 RX10 2 41 := C
  unfold wX10_firstWaiting at h
  refine r_iconst C 0 dX10_firstWaiting_0 (by decide) ?_
  refine r_istore_n C 1 (lv' := [some (.ref a0), some (.int 0)]) dX10_firstWaiting_1 rfl (Nat.le_of_ble_eq_true rfl) rfl rfl ?_
  obtain ⟨I, μ, hI, hS⟩ := h
  exact lX10_firstWaiting_2 B I μ hS _ _ _ _ (Nat.lt_succ_self _) hI
def wX10_isCached_25 (X : Xt) (Pr : Int32 → Gt → Prop) (k25 : Gt → Nat → Int32 → Int32 → Int32 → Prop) (G : Gt) (a0 : Nat) (x2 : Int32) (x3 : Int32) (x4 : Int32) : Prop := gT G a0 = (1, 11) ∧ ∃ b1, gR G 352 a0 = some b1 ∧ (gT G b1).1 = 2 ∧ vp_in (x2 + 3) (gT G b1).2 ∧ ((gA G b1 (x2 + 3).toNatClampNeg) ≤ x4 → (x3 = 0 ∨ x3 = 1) ∧ Pr x3 G) ∧ (¬ ((gA G b1 (x2 + 3).toNatClampNeg) ≤ x4) → (x3 = 0 → k25 G a0 x2 (0 : Int32) (x4 + 1)) ∧ (¬ (x3 = 0) → gT G a0 = (1, 11) ∧ ∃ b82, gR G 352 a0 = some b82 ∧ (gT G b82).1 = 2 ∧ vp_in (x2 + 1) (gT G b82).2 ∧ gT G a0 = (1, 11) ∧ ∃ b83, gR G 352 a0 = some b83 ∧ (gT G b83).1 = 2 ∧ vp_in (x2 + 2) (gT G b83).2 ∧ gT G a0 = (1, 11) ∧ wX10_isFresh X G a0 (gA G b82 (x2 + 1).toNatClampNeg) ((gA G b83 (x2 + 2).toNatClampNeg) + x4) (fun r84 G85 => (r84 = 0 → k25 G85 a0 x2 (0 : Int32) (x4 + 1)) ∧ (¬ (r84 = 0) → k25 G85 a0 x2 (1 : Int32) (x4 + 1)))))
set_option maxRecDepth 20000 in
theorem bX10_isCached_25 {X : Xt} {K : Kt} {l : Launch} {G0 : Gt} {Pr : Int32 → Gt → Prop} (B : BX X K l cX10_isCached 5 RX10 3 65 G0 (some (.boolean)) "isCached") {k25 : Gt → Nat → Int32 → Int32 → Int32 → Prop} (hk25 : ∀ (G : Gt) (a0 : Nat) (x2 : Int32) (x3 : Int32) (x4 : Int32), k25 G a0 x2 x3 x4 → WM X K (QM X K G0 (rI Pr) noX) G 25 [some (.ref a0), none, some (.int x2), some (.int x3), some (.int x4)] []) {G : Gt} {a0 : Nat} {x2 : Int32} {x3 : Int32} {x4 : Int32} (h : wX10_isCached_25 X Pr k25 G a0 x2 x3 x4) : WM X K (QM X K G0 (rI Pr) noX) G 25 [some (.ref a0), none, some (.int x2), some (.int x3), some (.int x4)] [] := by
  obtain ⟨hL, C, E0, hr, hnm, hex, hfl⟩ := id B
  unfold wX10_isCached_25 at h
  refine r_iload C dX10_isCached_25 rfl ?_
  refine r_aloadR_n C 0 dX10_isCached_27 rfl rfl ?_
  obtain ⟨ht, h⟩ := h
  obtain ⟨b1, hb, h⟩ := h
  refine r_getR C fw_RX10_7 rfl ht hb dX10_isCached_28 ?_
  refine r_iload_n C 2 dX10_isCached_31 rfl rfl ?_
  refine r_iconst C 3 dX10_isCached_32 (by decide) ?_
  refine r_iadd C dX10_isCached_33 ?_
  obtain ⟨ht, hi, h⟩ := h
  refine r_ialdP C ht hi dX10_isCached_34 ?_
  refine r_icmp_ge C 80 dX10_isCached_35 (by decide) (fun c => ?_) (fun c => ?_)
  · replace h := h.1 c
    refine r_iload_n C 3 dX10_isCached_80 rfl rfl ?_
    obtain ⟨hz, h⟩ := h
    exact r_zret C E0 hr hz ⟨_, rfl, h⟩ dX10_isCached_81
  · replace h := h.2 c
    refine r_iload_n C 3 dX10_isCached_38 rfl rfl ?_
    refine r_if_eq C 72 dX10_isCached_39 (by decide) (fun c => ?_) (fun c => ?_)
    · replace h := h.1 c
      refine r_iconst C 0 dX10_isCached_72 (by decide) ?_
      refine r_istore_n C 3 (lv' := [some (.ref a0), none, some (.int x2), some (.int 0), some (.int x4)]) dX10_isCached_73 rfl (Nat.le_of_ble_eq_true rfl) rfl rfl ?_
      refine r_iinc C 1 (lv' := [some (.ref a0), none, some (.int x2), some (.int 0), some (.int (x4 + 1))]) dX10_isCached_74 rfl (by decide) rfl rfl ?_
      refine r_goto C 25 dX10_isCached_77 (by decide) ?_
      exact hk25 _ _ _ _ _ h
    · replace h := h.2 c
      refine r_aloadR_n C 0 dX10_isCached_42 rfl rfl ?_
      refine r_aloadR_n C 0 dX10_isCached_43 rfl rfl ?_
      obtain ⟨ht, h⟩ := h
      obtain ⟨b82, hb, h⟩ := h
      refine r_getR C fw_RX10_7 rfl ht hb dX10_isCached_44 ?_
      refine r_iload_n C 2 dX10_isCached_47 rfl rfl ?_
      refine r_iconst C 1 dX10_isCached_48 (by decide) ?_
      refine r_iadd C dX10_isCached_49 ?_
      obtain ⟨ht, hi, h⟩ := h
      refine r_ialdP C ht hi dX10_isCached_50 ?_
      refine r_aloadR_n C 0 dX10_isCached_51 rfl rfl ?_
      obtain ⟨ht, h⟩ := h
      obtain ⟨b83, hb, h⟩ := h
      refine r_getR C fw_RX10_7 rfl ht hb dX10_isCached_52 ?_
      refine r_iload_n C 2 dX10_isCached_55 rfl rfl ?_
      refine r_iconst C 2 dX10_isCached_56 (by decide) ?_
      refine r_iadd C dX10_isCached_57 ?_
      obtain ⟨ht, hi, h⟩ := h
      refine r_ialdP C ht hi dX10_isCached_58 ?_
      refine r_iload C dX10_isCached_59 rfl ?_
      refine r_iadd C dX10_isCached_61 ?_
      obtain ⟨ht, h⟩ := h
      refine r_callV C (r := (RX10, TX10, 19)) hL yw_X10_isFresh vw_RX10_88 rfl rfl ht rfl rfl (Nat.le_of_ble_eq_true rfl) ⟨(Nat.le_of_ble_eq_true rfl), (Nat.le_of_ble_eq_true rfl)⟩ (mX10_isFresh hfl h) rfl dX10_isCached_62 (kI (fun r84 G85 h => ?_)) kN
      refine r_if_eq C 72 dX10_isCached_65 (by decide) (fun c => ?_) (fun c => ?_)
      · replace h := h.1 c
        refine r_iconst C 0 dX10_isCached_72 (by decide) ?_
        refine r_istore_n C 3 (lv' := [some (.ref a0), none, some (.int x2), some (.int 0), some (.int x4)]) dX10_isCached_73 rfl (Nat.le_of_ble_eq_true rfl) rfl rfl ?_
        refine r_iinc C 1 (lv' := [some (.ref a0), none, some (.int x2), some (.int 0), some (.int (x4 + 1))]) dX10_isCached_74 rfl (by decide) rfl rfl ?_
        refine r_goto C 25 dX10_isCached_77 (by decide) ?_
        exact hk25 _ _ _ _ _ h
      · replace h := h.2 c
        refine r_iconst C 1 dX10_isCached_68 (by decide) ?_
        refine r_goto C 73 dX10_isCached_69 (by decide) ?_
        refine r_istore_n C 3 (lv' := [some (.ref a0), none, some (.int x2), some (.int 1), some (.int x4)]) dX10_isCached_73 rfl (Nat.le_of_ble_eq_true rfl) rfl rfl ?_
        refine r_iinc C 1 (lv' := [some (.ref a0), none, some (.int x2), some (.int 1), some (.int (x4 + 1))]) dX10_isCached_74 rfl (by decide) rfl rfl ?_
        refine r_goto C 25 dX10_isCached_77 (by decide) ?_
        exact hk25 _ _ _ _ _ h
theorem lX10_isCached_25 {X : Xt} {K : Kt} {l : Launch} {G0 : Gt} {Pr : Int32 → Gt → Prop} (B : BX X K l cX10_isCached 5 RX10 3 65 G0 (some (.boolean)) "isCached") (I : Gt → Nat → Int32 → Int32 → Int32 → Prop) (μ : Gt → Nat → Int32 → Int32 → Int32 → Nat) (hS : ∀ (G : Gt) (a0 : Nat) (x2 : Int32) (x3 : Int32) (x4 : Int32), I G a0 x2 x3 x4 → wX10_isCached_25 X Pr (fun G' a0' x2' x3' x4' => I G' a0' x2' x3' x4' ∧ μ G' a0' x2' x3' x4' < μ G a0 x2 x3 x4) G a0 x2 x3 x4) : ∀ (n : Nat) (G : Gt) (a0 : Nat) (x2 : Int32) (x3 : Int32) (x4 : Int32), μ G a0 x2 x3 x4 < n → I G a0 x2 x3 x4 → WM X K (QM X K G0 (rI Pr) noX) G 25 [some (.ref a0), none, some (.int x2), some (.int x3), some (.int x4)] [] := by
  intro n
  induction n with
  | zero => intro G a0 x2 x3 x4 hm; exact absurd hm (Nat.not_lt_zero _)
  | succ n ih =>
    intro G a0 x2 x3 x4 hm hi
    exact bX10_isCached_25 B (fun G' a0' x2' x3' x4' hk => ih G' a0' x2' x3' x4' (Nat.lt_of_lt_of_le hk.2 (Nat.le_of_lt_succ hm)) hk.1) (hS G a0 x2 x3 x4 hi)
def wX10_isCached (X : Xt) (G : Gt) (a0 : Nat) (x1 : Int32) (Pr : Int32 → Gt → Prop) : Prop := wX10_requestAt X G x1 (fun r1 G2 => gT G2 a0 = (1, 11) ∧ ∃ b3, gR G2 352 a0 = some b3 ∧ (gT G2 b3).1 = 2 ∧ vp_in (r1 + 4) (gT G2 b3).2 ∧ (¬ (gA G2 b3 (r1 + 4).toNatClampNeg) = 0 → ∃ (I : Gt → Nat → Int32 → Int32 → Int32 → Prop) (μ : Gt → Nat → Int32 → Int32 → Int32 → Nat), I G2 a0 r1 (0 : Int32) (0 : Int32) ∧ ∀ (G : Gt) (a0 : Nat) (x2 : Int32) (x3 : Int32) (x4 : Int32), I G a0 x2 x3 x4 → wX10_isCached_25 X Pr (fun G' a0' x2' x3' x4' => I G' a0' x2' x3' x4' ∧ μ G' a0' x2' x3' x4' < μ G a0 x2 x3 x4) G a0 x2 x3 x4) ∧ ((gA G2 b3 (r1 + 4).toNatClampNeg) = 0 → ∃ (I : Gt → Nat → Int32 → Int32 → Int32 → Prop) (μ : Gt → Nat → Int32 → Int32 → Int32 → Nat), I G2 a0 r1 (1 : Int32) (0 : Int32) ∧ ∀ (G : Gt) (a0 : Nat) (x2 : Int32) (x3 : Int32) (x4 : Int32), I G a0 x2 x3 x4 → wX10_isCached_25 X Pr (fun G' a0' x2' x3' x4' => I G' a0' x2' x3' x4' ∧ μ G' a0' x2' x3' x4' < μ G a0 x2 x3 x4) G a0 x2 x3 x4))
set_option maxRecDepth 20000 in
theorem mX10_isCached {X : Xt} {l : Launch} (hfl : l.stackTraces = false) {G : Gt} {a0 : Nat} {x1 : Int32} {Pr : Int32 → Gt → Prop} (h : wX10_isCached X G a0 x1 Pr) : Mc X l yX10_isCached (.code yX10_isCached cX10_isCached 5 (some (.boolean))) 3 65 [.ref a0, .int x1] G (rI Pr) noX := by
  refine Mc.of (by decide +kernel) hfl [some (.ref a0), some (.int x1), none, none, none] rfl (Nat.le_of_ble_eq_true rfl) rfl ?_
  intro K hL C E0 hr hnm hex
  have B : BX X K l cX10_isCached 5 RX10 3 65 G (some (.boolean)) "isCached" := ⟨hL, C, E0, hr, hnm, hex, hfl⟩
  have C : Cx X K cX10_isCached 5 RX10 3 65 := C
  unfold wX10_isCached at h
  refine r_iload_n C 1 dX10_isCached_0 rfl rfl ?_
  refine r_callS C hL yw_X10_requestAt sw_RX10_61 rfl rfl (Nat.le_of_ble_eq_true rfl) ⟨(Nat.le_of_ble_eq_true rfl), (Nat.le_of_ble_eq_true rfl)⟩ (mX10_requestAt hfl h) rfl dX10_isCached_1 (kI (fun r1 G2 h => ?_)) kN
  refine r_istore_n C 2 (lv' := [some (.ref a0), some (.int x1), some (.int r1), none, none]) dX10_isCached_4 rfl (Nat.le_of_ble_eq_true rfl) rfl rfl ?_
  refine r_aloadR_n C 0 dX10_isCached_5 rfl rfl ?_
  obtain ⟨ht, h⟩ := h
  obtain ⟨b3, hb, h⟩ := h
  refine r_getR C fw_RX10_7 rfl ht hb dX10_isCached_6 ?_
  refine r_iload_n C 2 dX10_isCached_9 rfl rfl ?_
  refine r_iconst C 4 dX10_isCached_10 (by decide) ?_
  refine r_iadd C dX10_isCached_11 ?_
  obtain ⟨ht, hi, h⟩ := h
  refine r_ialdP C ht hi dX10_isCached_12 ?_
  refine r_if_ne C 20 dX10_isCached_13 (by decide) (fun c => ?_) (fun c => ?_)
  · replace h := h.1 c
    refine r_iconst C 0 dX10_isCached_20 (by decide) ?_
    refine r_istore_n C 3 (lv' := [some (.ref a0), some (.int x1), some (.int r1), some (.int 0), none]) dX10_isCached_21 rfl (Nat.le_of_ble_eq_true rfl) rfl rfl ?_
    refine r_iconst C 0 dX10_isCached_22 (by decide) ?_
    refine r_istore C (lv' := [some (.ref a0), some (.int x1), some (.int r1), some (.int 0), some (.int 0)]) dX10_isCached_23 (Nat.le_of_ble_eq_true rfl) rfl rfl ?_
    refine r_fg (lv' := [some (.ref a0), none, some (.int r1), some (.int 0), some (.int 0)]) (show fgt _ _ from ⟨rfl, ⟨rfl, ⟨rfl, ⟨rfl, trivial⟩⟩⟩⟩) ?_
    obtain ⟨I, μ, hI, hS⟩ := h
    exact lX10_isCached_25 B I μ hS _ _ _ _ _ _ (Nat.lt_succ_self _) hI
  · replace h := h.2 c
    refine r_iconst C 1 dX10_isCached_16 (by decide) ?_
    refine r_goto C 21 dX10_isCached_17 (by decide) ?_
    refine r_istore_n C 3 (lv' := [some (.ref a0), some (.int x1), some (.int r1), some (.int 1), none]) dX10_isCached_21 rfl (Nat.le_of_ble_eq_true rfl) rfl rfl ?_
    refine r_iconst C 0 dX10_isCached_22 (by decide) ?_
    refine r_istore C (lv' := [some (.ref a0), some (.int x1), some (.int r1), some (.int 1), some (.int 0)]) dX10_isCached_23 (Nat.le_of_ble_eq_true rfl) rfl rfl ?_
    refine r_fg (lv' := [some (.ref a0), none, some (.int r1), some (.int 1), some (.int 0)]) (show fgt _ _ from ⟨rfl, ⟨rfl, ⟨rfl, ⟨rfl, trivial⟩⟩⟩⟩) ?_
    obtain ⟨I, μ, hI, hS⟩ := h
    exact lX10_isCached_25 B I μ hS _ _ _ _ _ _ (Nat.lt_succ_self _) hI
def wX10_isHeldBack_62 (X : Xt) (Pr : Int32 → Gt → Prop) (k4 : Gt → Nat → Int32 → Int32 → Int32 → Prop) (G : Gt) (a0 : Nat) (x1 : Int32) (x2 : Int32) (x3 : Int32) (sx0 : Int32) : Prop := (¬ x2 = 0 → k4 G a0 x1 (1 : Int32) (x3 + 1)) ∧ (x2 = 0 → (sx0 = 0 → k4 G a0 x1 (0 : Int32) (x3 + 1)) ∧ (¬ (sx0 = 0) → gT G a0 = (1, 11) ∧ ∃ b81, gR G 352 a0 = some b81 ∧ wX10_requestAt X G x3 (fun r82 G83 => (gT G83 b81).1 = 2 ∧ vp_in (r82 + 4) (gT G83 b81).2 ∧ ((gA G83 b81 (r82 + 4).toNatClampNeg) = 1 → k4 G83 a0 x1 (1 : Int32) (x3 + 1)) ∧ (¬ ((gA G83 b81 (r82 + 4).toNatClampNeg) = 1) → gT G83 a0 = (1, 11) ∧ ((gI G83 359 a0) = 0 → k4 G83 a0 x1 (0 : Int32) (x3 + 1)) ∧ (¬ ((gI G83 359 a0) = 0) → k4 G83 a0 x1 (1 : Int32) (x3 + 1))))))
set_option maxRecDepth 20000 in
theorem bX10_isHeldBack_62 {X : Xt} {K : Kt} {l : Launch} {G0 : Gt} {Pr : Int32 → Gt → Prop} (B : BX X K l cX10_isHeldBack 5 RX10 3 63 G0 (some (.boolean)) "isHeldBack") {k4 : Gt → Nat → Int32 → Int32 → Int32 → Prop} (hk4 : ∀ (G : Gt) (a0 : Nat) (x1 : Int32) (x2 : Int32) (x3 : Int32), k4 G a0 x1 x2 x3 → WM X K (QM X K G0 (rI Pr) noX) G 4 [some (.ref a0), some (.int x1), some (.int x2), some (.int x3), none] []) {G : Gt} {a0 : Nat} {x1 : Int32} {x2 : Int32} {x3 : Int32} {sx0 : Int32} (h : wX10_isHeldBack_62 X Pr k4 G a0 x1 x2 x3 sx0) : WM X K (QM X K G0 (rI Pr) noX) G 62 [some (.ref a0), some (.int x1), some (.int x2), some (.int x3), none] [.int sx0] := by
  obtain ⟨hL, C, E0, hr, hnm, hex, hfl⟩ := id B
  unfold wX10_isHeldBack_62 at h
  refine r_istore C (lv' := [some (.ref a0), some (.int x1), some (.int x2), some (.int x3), some (.int sx0)]) dX10_isHeldBack_62 (Nat.le_of_ble_eq_true rfl) rfl rfl ?_
  refine r_iload_n C 2 dX10_isHeldBack_64 rfl rfl ?_
  refine r_if_ne C 95 dX10_isHeldBack_65 (by decide) (fun c => ?_) (fun c => ?_)
  · replace h := h.1 c
    refine r_iconst C 1 dX10_isHeldBack_95 (by decide) ?_
    refine r_goto C 100 dX10_isHeldBack_96 (by decide) ?_
    refine r_istore_n C 2 (lv' := [some (.ref a0), some (.int x1), some (.int 1), some (.int x3), some (.int sx0)]) dX10_isHeldBack_100 rfl (Nat.le_of_ble_eq_true rfl) rfl rfl ?_
    refine r_iinc C 1 (lv' := [some (.ref a0), some (.int x1), some (.int 1), some (.int (x3 + 1)), some (.int sx0)]) dX10_isHeldBack_101 rfl (by decide) rfl rfl ?_
    refine r_goto C 4 dX10_isHeldBack_104 (by decide) ?_
    refine r_fg (lv' := [some (.ref a0), some (.int x1), some (.int 1), some (.int (x3 + 1)), none]) (show fgt _ _ from ⟨rfl, ⟨rfl, ⟨rfl, ⟨rfl, trivial⟩⟩⟩⟩) ?_
    exact hk4 _ _ _ _ _ h
  · replace h := h.2 c
    refine r_iload C dX10_isHeldBack_68 rfl ?_
    refine r_if_eq C 99 dX10_isHeldBack_70 (by decide) (fun c => ?_) (fun c => ?_)
    · replace h := h.1 c
      refine r_iconst C 0 dX10_isHeldBack_99 (by decide) ?_
      refine r_istore_n C 2 (lv' := [some (.ref a0), some (.int x1), some (.int 0), some (.int x3), some (.int sx0)]) dX10_isHeldBack_100 rfl (Nat.le_of_ble_eq_true rfl) rfl rfl ?_
      refine r_iinc C 1 (lv' := [some (.ref a0), some (.int x1), some (.int 0), some (.int (x3 + 1)), some (.int sx0)]) dX10_isHeldBack_101 rfl (by decide) rfl rfl ?_
      refine r_goto C 4 dX10_isHeldBack_104 (by decide) ?_
      refine r_fg (lv' := [some (.ref a0), some (.int x1), some (.int 0), some (.int (x3 + 1)), none]) (show fgt _ _ from ⟨rfl, ⟨rfl, ⟨rfl, ⟨rfl, trivial⟩⟩⟩⟩) ?_
      exact hk4 _ _ _ _ _ h
    · replace h := h.2 c
      refine r_aloadR_n C 0 dX10_isHeldBack_73 rfl rfl ?_
      obtain ⟨ht, h⟩ := h
      obtain ⟨b81, hb, h⟩ := h
      refine r_getR C fw_RX10_7 rfl ht hb dX10_isHeldBack_74 ?_
      refine r_iload_n C 3 dX10_isHeldBack_77 rfl rfl ?_
      refine r_callS C hL yw_X10_requestAt sw_RX10_61 rfl rfl (Nat.le_of_ble_eq_true rfl) ⟨(Nat.le_of_ble_eq_true rfl), (Nat.le_of_ble_eq_true rfl)⟩ (mX10_requestAt hfl h) rfl dX10_isHeldBack_78 (kI (fun r82 G83 h => ?_)) kN
      refine r_iconst C 4 dX10_isHeldBack_81 (by decide) ?_
      refine r_iadd C dX10_isHeldBack_82 ?_
      obtain ⟨ht, hi, h⟩ := h
      refine r_ialdP C ht hi dX10_isHeldBack_83 ?_
      refine r_iconst C 1 dX10_isHeldBack_84 (by decide) ?_
      refine r_icmp_eq C 95 dX10_isHeldBack_85 (by decide) (fun c => ?_) (fun c => ?_)
      · replace h := h.1 c
        refine r_iconst C 1 dX10_isHeldBack_95 (by decide) ?_
        refine r_goto C 100 dX10_isHeldBack_96 (by decide) ?_
        refine r_istore_n C 2 (lv' := [some (.ref a0), some (.int x1), some (.int 1), some (.int x3), some (.int sx0)]) dX10_isHeldBack_100 rfl (Nat.le_of_ble_eq_true rfl) rfl rfl ?_
        refine r_iinc C 1 (lv' := [some (.ref a0), some (.int x1), some (.int 1), some (.int (x3 + 1)), some (.int sx0)]) dX10_isHeldBack_101 rfl (by decide) rfl rfl ?_
        refine r_goto C 4 dX10_isHeldBack_104 (by decide) ?_
        refine r_fg (lv' := [some (.ref a0), some (.int x1), some (.int 1), some (.int (x3 + 1)), none]) (show fgt _ _ from ⟨rfl, ⟨rfl, ⟨rfl, ⟨rfl, trivial⟩⟩⟩⟩) ?_
        exact hk4 _ _ _ _ _ h
      · replace h := h.2 c
        refine r_aloadR_n C 0 dX10_isHeldBack_88 rfl rfl ?_
        obtain ⟨ht, h⟩ := h
        refine r_getI C fw_RX10_101 rfl ht dX10_isHeldBack_89 ?_
        refine r_if_eq C 99 dX10_isHeldBack_92 (by decide) (fun c => ?_) (fun c => ?_)
        · replace h := h.1 c
          refine r_iconst C 0 dX10_isHeldBack_99 (by decide) ?_
          refine r_istore_n C 2 (lv' := [some (.ref a0), some (.int x1), some (.int 0), some (.int x3), some (.int sx0)]) dX10_isHeldBack_100 rfl (Nat.le_of_ble_eq_true rfl) rfl rfl ?_
          refine r_iinc C 1 (lv' := [some (.ref a0), some (.int x1), some (.int 0), some (.int (x3 + 1)), some (.int sx0)]) dX10_isHeldBack_101 rfl (by decide) rfl rfl ?_
          refine r_goto C 4 dX10_isHeldBack_104 (by decide) ?_
          refine r_fg (lv' := [some (.ref a0), some (.int x1), some (.int 0), some (.int (x3 + 1)), none]) (show fgt _ _ from ⟨rfl, ⟨rfl, ⟨rfl, ⟨rfl, trivial⟩⟩⟩⟩) ?_
          exact hk4 _ _ _ _ _ h
        · replace h := h.2 c
          refine r_iconst C 1 dX10_isHeldBack_95 (by decide) ?_
          refine r_goto C 100 dX10_isHeldBack_96 (by decide) ?_
          refine r_istore_n C 2 (lv' := [some (.ref a0), some (.int x1), some (.int 1), some (.int x3), some (.int sx0)]) dX10_isHeldBack_100 rfl (Nat.le_of_ble_eq_true rfl) rfl rfl ?_
          refine r_iinc C 1 (lv' := [some (.ref a0), some (.int x1), some (.int 1), some (.int (x3 + 1)), some (.int sx0)]) dX10_isHeldBack_101 rfl (by decide) rfl rfl ?_
          refine r_goto C 4 dX10_isHeldBack_104 (by decide) ?_
          refine r_fg (lv' := [some (.ref a0), some (.int x1), some (.int 1), some (.int (x3 + 1)), none]) (show fgt _ _ from ⟨rfl, ⟨rfl, ⟨rfl, ⟨rfl, trivial⟩⟩⟩⟩) ?_
          exact hk4 _ _ _ _ _ h
def wX10_isHeldBack_4 (X : Xt) (Pr : Int32 → Gt → Prop) (k4 : Gt → Nat → Int32 → Int32 → Int32 → Prop) (G : Gt) (a0 : Nat) (x1 : Int32) (x2 : Int32) (x3 : Int32) : Prop := (x1 ≤ x3 → (x2 = 0 ∨ x2 = 1) ∧ Pr x2 G) ∧ (¬ (x1 ≤ x3) → gT G a0 = (1, 11) ∧ wX10_isWaiting X G a0 x3 (fun r41 G42 => (r41 = 0 → wX10_isHeldBack_62 X Pr k4 G42 a0 x1 x2 x3 (0 : Int32)) ∧ (¬ (r41 = 0) → gT G42 a0 = (1, 11) ∧ ∃ b83, gR G42 352 a0 = some b83 ∧ wX10_requestAt X G42 x3 (fun r84 G85 => (gT G85 b83).1 = 2 ∧ vp_in (r84 + 1) (gT G85 b83).2 ∧ gT G85 a0 = (1, 11) ∧ (¬ (gA G85 b83 (r84 + 1).toNatClampNeg) = (gI G85 360 a0) → wX10_isHeldBack_62 X Pr k4 G85 a0 x1 x2 x3 (0 : Int32)) ∧ ((gA G85 b83 (r84 + 1).toNatClampNeg) = (gI G85 360 a0) → gT G85 a0 = (1, 11) ∧ (¬ (lg_cmp (((gJ G85 355 a0) >>> ((x3 : Int32).toInt64 &&& 63)) &&& (1 : Int64)) (0 : Int64)) = 0 → wX10_isHeldBack_62 X Pr k4 G85 a0 x1 x2 x3 (0 : Int32)) ∧ ((lg_cmp (((gJ G85 355 a0) >>> ((x3 : Int32).toInt64 &&& 63)) &&& (1 : Int64)) (0 : Int64)) = 0 → gT G85 a0 = (1, 11) ∧ wX10_overlap X G85 a0 x3 x1 (fun r166 G167 => (r166 = 0 → wX10_isHeldBack_62 X Pr k4 G167 a0 x1 x2 x3 (0 : Int32)) ∧ (¬ (r166 = 0) → wX10_isHeldBack_62 X Pr k4 G167 a0 x1 x2 x3 (1 : Int32)))))))))
set_option maxRecDepth 20000 in
theorem bX10_isHeldBack_4 {X : Xt} {K : Kt} {l : Launch} {G0 : Gt} {Pr : Int32 → Gt → Prop} (B : BX X K l cX10_isHeldBack 5 RX10 3 63 G0 (some (.boolean)) "isHeldBack") {k4 : Gt → Nat → Int32 → Int32 → Int32 → Prop} (hk4 : ∀ (G : Gt) (a0 : Nat) (x1 : Int32) (x2 : Int32) (x3 : Int32), k4 G a0 x1 x2 x3 → WM X K (QM X K G0 (rI Pr) noX) G 4 [some (.ref a0), some (.int x1), some (.int x2), some (.int x3), none] []) {G : Gt} {a0 : Nat} {x1 : Int32} {x2 : Int32} {x3 : Int32} (h : wX10_isHeldBack_4 X Pr k4 G a0 x1 x2 x3) : WM X K (QM X K G0 (rI Pr) noX) G 4 [some (.ref a0), some (.int x1), some (.int x2), some (.int x3), none] [] := by
  obtain ⟨hL, C, E0, hr, hnm, hex, hfl⟩ := id B
  unfold wX10_isHeldBack_4 at h
  refine r_iload_n C 3 dX10_isHeldBack_4 rfl rfl ?_
  refine r_iload_n C 1 dX10_isHeldBack_5 rfl rfl ?_
  refine r_icmp_ge C 107 dX10_isHeldBack_6 (by decide) (fun c => ?_) (fun c => ?_)
  · replace h := h.1 c
    refine r_iload_n C 2 dX10_isHeldBack_107 rfl rfl ?_
    obtain ⟨hz, h⟩ := h
    exact r_zret C E0 hr hz ⟨_, rfl, h⟩ dX10_isHeldBack_108
  · replace h := h.2 c
    refine r_aloadR_n C 0 dX10_isHeldBack_9 rfl rfl ?_
    refine r_iload_n C 3 dX10_isHeldBack_10 rfl rfl ?_
    obtain ⟨ht, h⟩ := h
    refine r_callV C (r := (RX10, TX10, 19)) hL yw_X10_isWaiting vw_RX10_85 rfl rfl ht rfl rfl (Nat.le_of_ble_eq_true rfl) ⟨(Nat.le_of_ble_eq_true rfl), (Nat.le_of_ble_eq_true rfl)⟩ (mX10_isWaiting hfl h) rfl dX10_isHeldBack_11 (kI (fun r41 G42 h => ?_)) kN
    refine r_if_eq C 61 dX10_isHeldBack_14 (by decide) (fun c => ?_) (fun c => ?_)
    · replace h := h.1 c
      refine r_iconst C 0 dX10_isHeldBack_61 (by decide) ?_
      exact bX10_isHeldBack_62 B hk4 h
    · replace h := h.2 c
      refine r_aloadR_n C 0 dX10_isHeldBack_17 rfl rfl ?_
      obtain ⟨ht, h⟩ := h
      obtain ⟨b83, hb, h⟩ := h
      refine r_getR C fw_RX10_7 rfl ht hb dX10_isHeldBack_18 ?_
      refine r_iload_n C 3 dX10_isHeldBack_21 rfl rfl ?_
      refine r_callS C hL yw_X10_requestAt sw_RX10_61 rfl rfl (Nat.le_of_ble_eq_true rfl) ⟨(Nat.le_of_ble_eq_true rfl), (Nat.le_of_ble_eq_true rfl)⟩ (mX10_requestAt hfl h) rfl dX10_isHeldBack_22 (kI (fun r84 G85 h => ?_)) kN
      refine r_iconst C 1 dX10_isHeldBack_25 (by decide) ?_
      refine r_iadd C dX10_isHeldBack_26 ?_
      obtain ⟨ht, hi, h⟩ := h
      refine r_ialdP C ht hi dX10_isHeldBack_27 ?_
      refine r_aloadR_n C 0 dX10_isHeldBack_28 rfl rfl ?_
      obtain ⟨ht, h⟩ := h
      refine r_getI C fw_RX10_91 rfl ht dX10_isHeldBack_29 ?_
      refine r_icmp_ne C 61 dX10_isHeldBack_32 (by decide) (fun c => ?_) (fun c => ?_)
      · replace h := h.1 c
        refine r_iconst C 0 dX10_isHeldBack_61 (by decide) ?_
        exact bX10_isHeldBack_62 B hk4 h
      · replace h := h.2 c
        refine r_aloadR_n C 0 dX10_isHeldBack_35 rfl rfl ?_
        obtain ⟨ht, h⟩ := h
        refine r_getJ C fw_RX10_94 rfl ht dX10_isHeldBack_36 ?_
        refine r_iload_n C 3 dX10_isHeldBack_39 rfl rfl ?_
        refine r_lshr C dX10_isHeldBack_40 ?_
        refine r_lconst C 1 dX10_isHeldBack_41 (by decide) ?_
        refine r_land C dX10_isHeldBack_42 ?_
        refine r_lconst C 0 dX10_isHeldBack_43 (by decide) ?_
        refine r_lcmp C dX10_isHeldBack_44 ?_
        refine r_if_ne C 61 dX10_isHeldBack_45 (by decide) (fun c => ?_) (fun c => ?_)
        · replace h := h.1 c
          refine r_iconst C 0 dX10_isHeldBack_61 (by decide) ?_
          exact bX10_isHeldBack_62 B hk4 h
        · replace h := h.2 c
          refine r_aloadR_n C 0 dX10_isHeldBack_48 rfl rfl ?_
          refine r_iload_n C 3 dX10_isHeldBack_49 rfl rfl ?_
          refine r_iload_n C 1 dX10_isHeldBack_50 rfl rfl ?_
          obtain ⟨ht, h⟩ := h
          refine r_callV C (r := (RX10, TX10, 19)) hL yw_X10_overlap vw_RX10_98 rfl rfl ht rfl rfl (Nat.le_of_ble_eq_true rfl) ⟨(Nat.le_of_ble_eq_true rfl), (Nat.le_of_ble_eq_true rfl)⟩ (mX10_overlap hfl h) rfl dX10_isHeldBack_51 (kI (fun r166 G167 h => ?_)) kN
          refine r_if_eq C 61 dX10_isHeldBack_54 (by decide) (fun c => ?_) (fun c => ?_)
          · replace h := h.1 c
            refine r_iconst C 0 dX10_isHeldBack_61 (by decide) ?_
            exact bX10_isHeldBack_62 B hk4 h
          · replace h := h.2 c
            refine r_iconst C 1 dX10_isHeldBack_57 (by decide) ?_
            refine r_goto C 62 dX10_isHeldBack_58 (by decide) ?_
            exact bX10_isHeldBack_62 B hk4 h
theorem lX10_isHeldBack_4 {X : Xt} {K : Kt} {l : Launch} {G0 : Gt} {Pr : Int32 → Gt → Prop} (B : BX X K l cX10_isHeldBack 5 RX10 3 63 G0 (some (.boolean)) "isHeldBack") (I : Gt → Nat → Int32 → Int32 → Int32 → Prop) (μ : Gt → Nat → Int32 → Int32 → Int32 → Nat) (hS : ∀ (G : Gt) (a0 : Nat) (x1 : Int32) (x2 : Int32) (x3 : Int32), I G a0 x1 x2 x3 → wX10_isHeldBack_4 X Pr (fun G' a0' x1' x2' x3' => I G' a0' x1' x2' x3' ∧ μ G' a0' x1' x2' x3' < μ G a0 x1 x2 x3) G a0 x1 x2 x3) : ∀ (n : Nat) (G : Gt) (a0 : Nat) (x1 : Int32) (x2 : Int32) (x3 : Int32), μ G a0 x1 x2 x3 < n → I G a0 x1 x2 x3 → WM X K (QM X K G0 (rI Pr) noX) G 4 [some (.ref a0), some (.int x1), some (.int x2), some (.int x3), none] [] := by
  intro n
  induction n with
  | zero => intro G a0 x1 x2 x3 hm; exact absurd hm (Nat.not_lt_zero _)
  | succ n ih =>
    intro G a0 x1 x2 x3 hm hi
    exact bX10_isHeldBack_4 B (fun G' a0' x1' x2' x3' hk => ih G' a0' x1' x2' x3' (Nat.lt_of_lt_of_le hk.2 (Nat.le_of_lt_succ hm)) hk.1) (hS G a0 x1 x2 x3 hi)
def wX10_isHeldBack (X : Xt) (G : Gt) (a0 : Nat) (x1 : Int32) (Pr : Int32 → Gt → Prop) : Prop := ∃ (I : Gt → Nat → Int32 → Int32 → Int32 → Prop) (μ : Gt → Nat → Int32 → Int32 → Int32 → Nat), I G a0 x1 (0 : Int32) (0 : Int32) ∧ ∀ (G : Gt) (a0 : Nat) (x1 : Int32) (x2 : Int32) (x3 : Int32), I G a0 x1 x2 x3 → wX10_isHeldBack_4 X Pr (fun G' a0' x1' x2' x3' => I G' a0' x1' x2' x3' ∧ μ G' a0' x1' x2' x3' < μ G a0 x1 x2 x3) G a0 x1 x2 x3
set_option maxRecDepth 20000 in
theorem mX10_isHeldBack {X : Xt} {l : Launch} (hfl : l.stackTraces = false) {G : Gt} {a0 : Nat} {x1 : Int32} {Pr : Int32 → Gt → Prop} (h : wX10_isHeldBack X G a0 x1 Pr) : Mc X l yX10_isHeldBack (.code yX10_isHeldBack cX10_isHeldBack 5 (some (.boolean))) 3 63 [.ref a0, .int x1] G (rI Pr) noX := by
  refine Mc.of (by decide +kernel) hfl [some (.ref a0), some (.int x1), none, none, none] rfl (Nat.le_of_ble_eq_true rfl) rfl ?_
  intro K hL C E0 hr hnm hex
  have B : BX X K l cX10_isHeldBack 5 RX10 3 63 G (some (.boolean)) "isHeldBack" := ⟨hL, C, E0, hr, hnm, hex, hfl⟩
  have C : Cx X K cX10_isHeldBack 5 RX10 3 63 := C
  unfold wX10_isHeldBack at h
  refine r_iconst C 0 dX10_isHeldBack_0 (by decide) ?_
  refine r_istore_n C 2 (lv' := [some (.ref a0), some (.int x1), some (.int 0), none, none]) dX10_isHeldBack_1 rfl (Nat.le_of_ble_eq_true rfl) rfl rfl ?_
  refine r_iconst C 0 dX10_isHeldBack_2 (by decide) ?_
  refine r_istore_n C 3 (lv' := [some (.ref a0), some (.int x1), some (.int 0), some (.int 0), none]) dX10_isHeldBack_3 rfl (Nat.le_of_ble_eq_true rfl) rfl rfl ?_
  obtain ⟨I, μ, hI, hS⟩ := h
  exact lX10_isHeldBack_4 B I μ hS _ _ _ _ _ _ (Nat.lt_succ_self _) hI
def wX10_gathers_269 (X : Xt) (Pr : Gt → Prop) (k75 : Gt → Nat → Int32 → Prop) (G : Gt) (a0 : Nat) (x3 : Int32) (x6 : Int32) (x7 : Int32) (sx0 : Int32) (sx1 : Int32) : Prop := (sx1 < sx0 → k75 G a0 (x3 + 1)) ∧ (¬ (sx1 < sx0) → gT G a0 = (1, 11) ∧ wX10_isHeldBack X G a0 x3 (fun r41 G42 => (¬ r41 = 0 → k75 G42 a0 (x3 + 1)) ∧ (r41 = 0 → gT G42 a0 = (1, 11) ∧ gT G42 a0 = (1, 11) ∧ ∀ G83, G83 = sJ G42 355 a0 ((gJ G42 355 a0) ||| ((1 : Int64) <<< ((x3 : Int32).toInt64 &&& 63))) → gT G83 a0 = (1, 11) ∧ ∀ G84, G84 = sI G83 357 a0 x6 → gT G84 a0 = (1, 11) ∧ ∀ G85, G85 = sI G84 358 a0 x7 → k75 G85 a0 (x3 + 1))))
set_option maxRecDepth 20000 in
theorem bX10_gathers_269 {X : Xt} {K : Kt} {l : Launch} {G0 : Gt} {Pr : Gt → Prop} (B : BX X K l cX10_gathers 8 RX10 4 87 G0 none "gathers") {k75 : Gt → Nat → Int32 → Prop} (hk75 : ∀ (G : Gt) (a0 : Nat) (x3 : Int32), k75 G a0 x3 → WM X K (QM X K G0 (rV Pr) noX) G 75 [some (.ref a0), none, none, some (.int x3), none, none, none, none] []) {G : Gt} {a0 : Nat} {x3 : Int32} {x6 : Int32} {x7 : Int32} {sx0 : Int32} {sx1 : Int32} (h : wX10_gathers_269 X Pr k75 G a0 x3 x6 x7 sx0 sx1) : WM X K (QM X K G0 (rV Pr) noX) G 269 [some (.ref a0), none, none, some (.int x3), none, none, some (.int x6), some (.int x7)] [.int sx1, .int sx0] := by
  obtain ⟨hL, C, E0, hr, hnm, hex, hfl⟩ := id B
  unfold wX10_gathers_269 at h
  refine r_icmp_gt C 304 dX10_gathers_269 (by decide) (fun c => ?_) (fun c => ?_)
  · replace h := h.1 c
    refine r_iinc C 1 (lv' := [some (.ref a0), none, none, some (.int (x3 + 1)), none, none, some (.int x6), some (.int x7)]) dX10_gathers_304 rfl (by decide) rfl rfl ?_
    refine r_goto C 75 dX10_gathers_307 (by decide) ?_
    refine r_fg (lv' := [some (.ref a0), none, none, some (.int (x3 + 1)), none, none, none, none]) (show fgt _ _ from ⟨rfl, ⟨rfl, trivial⟩⟩) ?_
    exact hk75 _ _ _ h
  · replace h := h.2 c
    refine r_aloadR_n C 0 dX10_gathers_272 rfl rfl ?_
    refine r_iload_n C 3 dX10_gathers_273 rfl rfl ?_
    obtain ⟨ht, h⟩ := h
    refine r_callV C (r := (RX10, TX10, 19)) hL yw_X10_isHeldBack vw_RX10_114 rfl rfl ht rfl rfl (Nat.le_of_ble_eq_true rfl) ⟨(Nat.le_of_ble_eq_true rfl), (Nat.le_of_ble_eq_true rfl)⟩ (mX10_isHeldBack hfl h) rfl dX10_gathers_274 (kI (fun r41 G42 h => ?_)) kN
    refine r_if_ne C 304 dX10_gathers_277 (by decide) (fun c => ?_) (fun c => ?_)
    · replace h := h.1 c
      refine r_iinc C 1 (lv' := [some (.ref a0), none, none, some (.int (x3 + 1)), none, none, some (.int x6), some (.int x7)]) dX10_gathers_304 rfl (by decide) rfl rfl ?_
      refine r_goto C 75 dX10_gathers_307 (by decide) ?_
      refine r_fg (lv' := [some (.ref a0), none, none, some (.int (x3 + 1)), none, none, none, none]) (show fgt _ _ from ⟨rfl, ⟨rfl, trivial⟩⟩) ?_
      exact hk75 _ _ _ h
    · replace h := h.2 c
      refine r_aloadR_n C 0 dX10_gathers_280 rfl rfl ?_
      refine r_dup C dX10_gathers_281 rfl ?_
      obtain ⟨ht, h⟩ := h
      refine r_getJ C fw_RX10_94 rfl ht dX10_gathers_282 ?_
      refine r_lconst C 1 dX10_gathers_285 (by decide) ?_
      refine r_iload_n C 3 dX10_gathers_286 rfl rfl ?_
      refine r_lshl C dX10_gathers_287 ?_
      refine r_lor C dX10_gathers_288 ?_
      obtain ⟨ht, h⟩ := h
      refine r_putJ C cw_11 fp_RX10_94 rfl ht dX10_gathers_289 ?_
      refine r_nm (fun G83 hG83 => ?_)
      replace h := h G83 hG83
      refine r_aloadR_n C 0 dX10_gathers_292 rfl rfl ?_
      refine r_iload C dX10_gathers_293 rfl ?_
      obtain ⟨ht, h⟩ := h
      refine r_putI C cw_11 fp_RX10_108 rfl ht dX10_gathers_295 ?_
      refine r_nm (fun G84 hG84 => ?_)
      replace h := h G84 hG84
      refine r_aloadR_n C 0 dX10_gathers_298 rfl rfl ?_
      refine r_iload C dX10_gathers_299 rfl ?_
      obtain ⟨ht, h⟩ := h
      refine r_putI C cw_11 fp_RX10_111 rfl ht dX10_gathers_301 ?_
      refine r_nm (fun G85 hG85 => ?_)
      replace h := h G85 hG85
      refine r_iinc C 1 (lv' := [some (.ref a0), none, none, some (.int (x3 + 1)), none, none, some (.int x6), some (.int x7)]) dX10_gathers_304 rfl (by decide) rfl rfl ?_
      refine r_goto C 75 dX10_gathers_307 (by decide) ?_
      refine r_fg (lv' := [some (.ref a0), none, none, some (.int (x3 + 1)), none, none, none, none]) (show fgt _ _ from ⟨rfl, ⟨rfl, trivial⟩⟩) ?_
      exact hk75 _ _ _ h
def wX10_gathers_243 (X : Xt) (Pr : Gt → Prop) (k75 : Gt → Nat → Int32 → Prop) (G : Gt) (a0 : Nat) (x3 : Int32) (x5 : Int32) (x6 : Int32) (sx0 : Int32) : Prop := (x5 = 0 → k75 G a0 (x3 + 1)) ∧ (¬ (x5 = 0) → gT G a0 = (1, 11) ∧ ((gI G 359 a0) = 0 → wX10_gathers_269 X Pr k75 G a0 x3 x6 sx0 (sx0 - x6) (16 : Int32)) ∧ (¬ ((gI G 359 a0) = 0) → wX10_gathers_269 X Pr k75 G a0 x3 x6 sx0 (sx0 - x6) (8 : Int32)))
set_option maxRecDepth 20000 in
theorem bX10_gathers_243 {X : Xt} {K : Kt} {l : Launch} {G0 : Gt} {Pr : Gt → Prop} (B : BX X K l cX10_gathers 8 RX10 4 87 G0 none "gathers") {k75 : Gt → Nat → Int32 → Prop} (hk75 : ∀ (G : Gt) (a0 : Nat) (x3 : Int32), k75 G a0 x3 → WM X K (QM X K G0 (rV Pr) noX) G 75 [some (.ref a0), none, none, some (.int x3), none, none, none, none] []) {G : Gt} {a0 : Nat} {x3 : Int32} {x5 : Int32} {x6 : Int32} {sx0 : Int32} (h : wX10_gathers_243 X Pr k75 G a0 x3 x5 x6 sx0) : WM X K (QM X K G0 (rV Pr) noX) G 243 [some (.ref a0), none, none, some (.int x3), none, some (.int x5), some (.int x6), none] [.int sx0] := by
  obtain ⟨hL, C, E0, hr, hnm, hex, hfl⟩ := id B
  unfold wX10_gathers_243 at h
  refine r_istore C (lv' := [some (.ref a0), none, none, some (.int x3), none, some (.int x5), some (.int x6), some (.int sx0)]) dX10_gathers_243 (Nat.le_of_ble_eq_true rfl) rfl rfl ?_
  refine r_iload C dX10_gathers_245 rfl ?_
  refine r_if_eq C 304 dX10_gathers_247 (by decide) (fun c => ?_) (fun c => ?_)
  · replace h := h.1 c
    refine r_iinc C 1 (lv' := [some (.ref a0), none, none, some (.int (x3 + 1)), none, some (.int x5), some (.int x6), some (.int sx0)]) dX10_gathers_304 rfl (by decide) rfl rfl ?_
    refine r_goto C 75 dX10_gathers_307 (by decide) ?_
    refine r_fg (lv' := [some (.ref a0), none, none, some (.int (x3 + 1)), none, none, none, none]) (show fgt _ _ from ⟨rfl, ⟨rfl, trivial⟩⟩) ?_
    exact hk75 _ _ _ h
  · replace h := h.2 c
    refine r_iload C dX10_gathers_250 rfl ?_
    refine r_iload C dX10_gathers_252 rfl ?_
    refine r_isub C dX10_gathers_254 ?_
    refine r_aloadR_n C 0 dX10_gathers_255 rfl rfl ?_
    obtain ⟨ht, h⟩ := h
    refine r_getI C fw_RX10_101 rfl ht dX10_gathers_256 ?_
    refine r_if_eq C 267 dX10_gathers_259 (by decide) (fun c => ?_) (fun c => ?_)
    · replace h := h.1 c
      refine r_bipush C 16 dX10_gathers_267 (by decide) ?_
      refine r_fg (lv' := [some (.ref a0), none, none, some (.int x3), none, none, some (.int x6), some (.int sx0)]) (show fgt _ _ from ⟨rfl, ⟨rfl, ⟨rfl, ⟨rfl, trivial⟩⟩⟩⟩) ?_
      exact bX10_gathers_269 B hk75 h
    · replace h := h.2 c
      refine r_bipush C 8 dX10_gathers_262 (by decide) ?_
      refine r_goto C 269 dX10_gathers_264 (by decide) ?_
      refine r_fg (lv' := [some (.ref a0), none, none, some (.int x3), none, none, some (.int x6), some (.int sx0)]) (show fgt _ _ from ⟨rfl, ⟨rfl, ⟨rfl, ⟨rfl, trivial⟩⟩⟩⟩) ?_
      exact bX10_gathers_269 B hk75 h
def wX10_gathers_217 (X : Xt) (Pr : Gt → Prop) (k75 : Gt → Nat → Int32 → Prop) (G : Gt) (a0 : Nat) (x3 : Int32) (x5 : Int32) (sx0 : Int32) : Prop := gT G a0 = (1, 11) ∧ wX10_end X G a0 x3 (fun r1 G2 => gT G2 a0 = (1, 11) ∧ (r1 ≤ (gI G2 358 a0) → gT G2 a0 = (1, 11) ∧ wX10_gathers_243 X Pr k75 G2 a0 x3 x5 sx0 (gI G2 358 a0)) ∧ (¬ (r1 ≤ (gI G2 358 a0)) → gT G2 a0 = (1, 11) ∧ wX10_end X G2 a0 x3 (fun r43 G44 => wX10_gathers_243 X Pr k75 G44 a0 x3 x5 sx0 r43)))
set_option maxRecDepth 20000 in
theorem bX10_gathers_217 {X : Xt} {K : Kt} {l : Launch} {G0 : Gt} {Pr : Gt → Prop} (B : BX X K l cX10_gathers 8 RX10 4 87 G0 none "gathers") {k75 : Gt → Nat → Int32 → Prop} (hk75 : ∀ (G : Gt) (a0 : Nat) (x3 : Int32), k75 G a0 x3 → WM X K (QM X K G0 (rV Pr) noX) G 75 [some (.ref a0), none, none, some (.int x3), none, none, none, none] []) {G : Gt} {a0 : Nat} {x3 : Int32} {x5 : Int32} {sx0 : Int32} (h : wX10_gathers_217 X Pr k75 G a0 x3 x5 sx0) : WM X K (QM X K G0 (rV Pr) noX) G 217 [some (.ref a0), none, none, some (.int x3), none, some (.int x5), none, none] [.int sx0] := by
  obtain ⟨hL, C, E0, hr, hnm, hex, hfl⟩ := id B
  unfold wX10_gathers_217 at h
  refine r_istore C (lv' := [some (.ref a0), none, none, some (.int x3), none, some (.int x5), some (.int sx0), none]) dX10_gathers_217 (Nat.le_of_ble_eq_true rfl) rfl rfl ?_
  refine r_aloadR_n C 0 dX10_gathers_219 rfl rfl ?_
  refine r_iload_n C 3 dX10_gathers_220 rfl rfl ?_
  obtain ⟨ht, h⟩ := h
  refine r_callV C (r := (RX10, TX10, 19)) hL yw_X10_end vw_RX10_82 rfl rfl ht rfl rfl (Nat.le_of_ble_eq_true rfl) ⟨(Nat.le_of_ble_eq_true rfl), (Nat.le_of_ble_eq_true rfl)⟩ (mX10_end hfl h) rfl dX10_gathers_221 (kI (fun r1 G2 h => ?_)) kN
  refine r_aloadR_n C 0 dX10_gathers_224 rfl rfl ?_
  obtain ⟨ht, h⟩ := h
  refine r_getI C fw_RX10_111 rfl ht dX10_gathers_225 ?_
  refine r_icmp_le C 239 dX10_gathers_228 (by decide) (fun c => ?_) (fun c => ?_)
  · replace h := h.1 c
    refine r_aloadR_n C 0 dX10_gathers_239 rfl rfl ?_
    obtain ⟨ht, h⟩ := h
    refine r_getI C fw_RX10_111 rfl ht dX10_gathers_240 ?_
    exact bX10_gathers_243 B hk75 h
  · replace h := h.2 c
    refine r_aloadR_n C 0 dX10_gathers_231 rfl rfl ?_
    refine r_iload_n C 3 dX10_gathers_232 rfl rfl ?_
    obtain ⟨ht, h⟩ := h
    refine r_callV C (r := (RX10, TX10, 19)) hL yw_X10_end vw_RX10_82 rfl rfl ht rfl rfl (Nat.le_of_ble_eq_true rfl) ⟨(Nat.le_of_ble_eq_true rfl), (Nat.le_of_ble_eq_true rfl)⟩ (mX10_end hfl h) rfl dX10_gathers_233 (kI (fun r43 G44 h => ?_)) kN
    refine r_goto C 243 dX10_gathers_236 (by decide) ?_
    exact bX10_gathers_243 B hk75 h
def wX10_gathers_183 (X : Xt) (Pr : Gt → Prop) (k75 : Gt → Nat → Int32 → Prop) (G : Gt) (a0 : Nat) (x3 : Int32) (x4 : Int32) (sx0 : Int32) : Prop := gT G a0 = (1, 11) ∧ ∃ b1, gR G 352 a0 = some b1 ∧ (gT G b1).1 = 2 ∧ vp_in (x4 + 2) (gT G b1).2 ∧ gT G a0 = (1, 11) ∧ ((gI G 357 a0) ≤ (gA G b1 (x4 + 2).toNatClampNeg) → gT G a0 = (1, 11) ∧ wX10_gathers_217 X Pr k75 G a0 x3 sx0 (gI G 357 a0)) ∧ (¬ ((gI G 357 a0) ≤ (gA G b1 (x4 + 2).toNatClampNeg)) → gT G a0 = (1, 11) ∧ ∃ b42, gR G 352 a0 = some b42 ∧ (gT G b42).1 = 2 ∧ vp_in (x4 + 2) (gT G b42).2 ∧ wX10_gathers_217 X Pr k75 G a0 x3 sx0 (gA G b42 (x4 + 2).toNatClampNeg))
set_option maxRecDepth 20000 in
theorem bX10_gathers_183 {X : Xt} {K : Kt} {l : Launch} {G0 : Gt} {Pr : Gt → Prop} (B : BX X K l cX10_gathers 8 RX10 4 87 G0 none "gathers") {k75 : Gt → Nat → Int32 → Prop} (hk75 : ∀ (G : Gt) (a0 : Nat) (x3 : Int32), k75 G a0 x3 → WM X K (QM X K G0 (rV Pr) noX) G 75 [some (.ref a0), none, none, some (.int x3), none, none, none, none] []) {G : Gt} {a0 : Nat} {x3 : Int32} {x4 : Int32} {sx0 : Int32} (h : wX10_gathers_183 X Pr k75 G a0 x3 x4 sx0) : WM X K (QM X K G0 (rV Pr) noX) G 183 [some (.ref a0), none, none, some (.int x3), some (.int x4), none, none, none] [.int sx0] := by
  obtain ⟨hL, C, E0, hr, hnm, hex, hfl⟩ := id B
  unfold wX10_gathers_183 at h
  refine r_istore C (lv' := [some (.ref a0), none, none, some (.int x3), some (.int x4), some (.int sx0), none, none]) dX10_gathers_183 (Nat.le_of_ble_eq_true rfl) rfl rfl ?_
  refine r_aloadR_n C 0 dX10_gathers_185 rfl rfl ?_
  obtain ⟨ht, h⟩ := h
  obtain ⟨b1, hb, h⟩ := h
  refine r_getR C fw_RX10_7 rfl ht hb dX10_gathers_186 ?_
  refine r_iload C dX10_gathers_189 rfl ?_
  refine r_iconst C 2 dX10_gathers_191 (by decide) ?_
  refine r_iadd C dX10_gathers_192 ?_
  obtain ⟨ht, hi, h⟩ := h
  refine r_ialdP C ht hi dX10_gathers_193 ?_
  refine r_aloadR_n C 0 dX10_gathers_194 rfl rfl ?_
  obtain ⟨ht, h⟩ := h
  refine r_getI C fw_RX10_108 rfl ht dX10_gathers_195 ?_
  refine r_icmp_ge C 213 dX10_gathers_198 (by decide) (fun c => ?_) (fun c => ?_)
  · replace h := h.1 c
    refine r_aloadR_n C 0 dX10_gathers_213 rfl rfl ?_
    obtain ⟨ht, h⟩ := h
    refine r_getI C fw_RX10_108 rfl ht dX10_gathers_214 ?_
    refine r_fg (lv' := [some (.ref a0), none, none, some (.int x3), none, some (.int sx0), none, none]) (show fgt _ _ from ⟨rfl, ⟨rfl, ⟨rfl, trivial⟩⟩⟩) ?_
    exact bX10_gathers_217 B hk75 h
  · replace h := h.2 c
    refine r_aloadR_n C 0 dX10_gathers_201 rfl rfl ?_
    obtain ⟨ht, h⟩ := h
    obtain ⟨b42, hb, h⟩ := h
    refine r_getR C fw_RX10_7 rfl ht hb dX10_gathers_202 ?_
    refine r_iload C dX10_gathers_205 rfl ?_
    refine r_iconst C 2 dX10_gathers_207 (by decide) ?_
    refine r_iadd C dX10_gathers_208 ?_
    obtain ⟨ht, hi, h⟩ := h
    refine r_ialdP C ht hi dX10_gathers_209 ?_
    refine r_goto C 217 dX10_gathers_210 (by decide) ?_
    refine r_fg (lv' := [some (.ref a0), none, none, some (.int x3), none, some (.int sx0), none, none]) (show fgt _ _ from ⟨rfl, ⟨rfl, ⟨rfl, trivial⟩⟩⟩) ?_
    exact bX10_gathers_217 B hk75 h
def wX10_gathers_147 (X : Xt) (Pr : Gt → Prop) (k75 : Gt → Nat → Int32 → Prop) (G : Gt) (a0 : Nat) (x3 : Int32) (x4 : Int32) (sx0 : Int32) (sx1 : Int32) : Prop := (¬ sx0 = sx1 → wX10_gathers_183 X Pr k75 G a0 x3 x4 (0 : Int32)) ∧ (sx0 = sx1 → gT G a0 = (1, 11) ∧ ∃ b41, gR G 352 a0 = some b41 ∧ (gT G b41).1 = 2 ∧ vp_in (x4 + 2) (gT G b41).2 ∧ gT G a0 = (1, 11) ∧ ((gI G 358 a0) < (gA G b41 (x4 + 2).toNatClampNeg) → wX10_gathers_183 X Pr k75 G a0 x3 x4 (0 : Int32)) ∧ (¬ ((gI G 358 a0) < (gA G b41 (x4 + 2).toNatClampNeg)) → gT G a0 = (1, 11) ∧ wX10_end X G a0 x3 (fun r82 G83 => gT G83 a0 = (1, 11) ∧ (r82 < (gI G83 357 a0) → wX10_gathers_183 X Pr k75 G83 a0 x3 x4 (0 : Int32)) ∧ (¬ (r82 < (gI G83 357 a0)) → wX10_gathers_183 X Pr k75 G83 a0 x3 x4 (1 : Int32)))))
set_option maxRecDepth 20000 in
theorem bX10_gathers_147 {X : Xt} {K : Kt} {l : Launch} {G0 : Gt} {Pr : Gt → Prop} (B : BX X K l cX10_gathers 8 RX10 4 87 G0 none "gathers") {k75 : Gt → Nat → Int32 → Prop} (hk75 : ∀ (G : Gt) (a0 : Nat) (x3 : Int32), k75 G a0 x3 → WM X K (QM X K G0 (rV Pr) noX) G 75 [some (.ref a0), none, none, some (.int x3), none, none, none, none] []) {G : Gt} {a0 : Nat} {x3 : Int32} {x4 : Int32} {sx0 : Int32} {sx1 : Int32} (h : wX10_gathers_147 X Pr k75 G a0 x3 x4 sx0 sx1) : WM X K (QM X K G0 (rV Pr) noX) G 147 [some (.ref a0), none, none, some (.int x3), some (.int x4), none, none, none] [.int sx1, .int sx0] := by
  obtain ⟨hL, C, E0, hr, hnm, hex, hfl⟩ := id B
  unfold wX10_gathers_147 at h
  refine r_icmp_ne C 182 dX10_gathers_147 (by decide) (fun c => ?_) (fun c => ?_)
  · replace h := h.1 c
    refine r_iconst C 0 dX10_gathers_182 (by decide) ?_
    exact bX10_gathers_183 B hk75 h
  · replace h := h.2 c
    refine r_aloadR_n C 0 dX10_gathers_150 rfl rfl ?_
    obtain ⟨ht, h⟩ := h
    obtain ⟨b41, hb, h⟩ := h
    refine r_getR C fw_RX10_7 rfl ht hb dX10_gathers_151 ?_
    refine r_iload C dX10_gathers_154 rfl ?_
    refine r_iconst C 2 dX10_gathers_156 (by decide) ?_
    refine r_iadd C dX10_gathers_157 ?_
    obtain ⟨ht, hi, h⟩ := h
    refine r_ialdP C ht hi dX10_gathers_158 ?_
    refine r_aloadR_n C 0 dX10_gathers_159 rfl rfl ?_
    obtain ⟨ht, h⟩ := h
    refine r_getI C fw_RX10_111 rfl ht dX10_gathers_160 ?_
    refine r_icmp_gt C 182 dX10_gathers_163 (by decide) (fun c => ?_) (fun c => ?_)
    · replace h := h.1 c
      refine r_iconst C 0 dX10_gathers_182 (by decide) ?_
      exact bX10_gathers_183 B hk75 h
    · replace h := h.2 c
      refine r_aloadR_n C 0 dX10_gathers_166 rfl rfl ?_
      refine r_iload_n C 3 dX10_gathers_167 rfl rfl ?_
      obtain ⟨ht, h⟩ := h
      refine r_callV C (r := (RX10, TX10, 19)) hL yw_X10_end vw_RX10_82 rfl rfl ht rfl rfl (Nat.le_of_ble_eq_true rfl) ⟨(Nat.le_of_ble_eq_true rfl), (Nat.le_of_ble_eq_true rfl)⟩ (mX10_end hfl h) rfl dX10_gathers_168 (kI (fun r82 G83 h => ?_)) kN
      refine r_aloadR_n C 0 dX10_gathers_171 rfl rfl ?_
      obtain ⟨ht, h⟩ := h
      refine r_getI C fw_RX10_108 rfl ht dX10_gathers_172 ?_
      refine r_icmp_lt C 182 dX10_gathers_175 (by decide) (fun c => ?_) (fun c => ?_)
      · replace h := h.1 c
        refine r_iconst C 0 dX10_gathers_182 (by decide) ?_
        exact bX10_gathers_183 B hk75 h
      · replace h := h.2 c
        refine r_iconst C 1 dX10_gathers_178 (by decide) ?_
        refine r_goto C 183 dX10_gathers_179 (by decide) ?_
        exact bX10_gathers_183 B hk75 h
def wX10_gathers_75 (X : Xt) (Pr : Gt → Prop) (k75 : Gt → Nat → Int32 → Prop) (G : Gt) (a0 : Nat) (x3 : Int32) : Prop := gT G a0 = (1, 11) ∧ ∃ b1, gR G 352 a0 = some b1 ∧ (gT G b1).1 = 2 ∧ vp_in 6 (gT G b1).2 ∧ ((gA G b1 (6 : Int32).toNatClampNeg) ≤ x3 → Pr G) ∧ (¬ ((gA G b1 (6 : Int32).toNatClampNeg) ≤ x3) → gT G a0 = (1, 11) ∧ ∃ b42, gR G 352 a0 = some b42 ∧ (gT G b42).1 = 2 ∧ vp_in 5 (gT G b42).2 ∧ (¬ (gA G b42 (5 : Int32).toNatClampNeg) = 1 → Pr G) ∧ ((gA G b42 (5 : Int32).toNatClampNeg) = 1 → wX10_requestAt X G x3 (fun r83 G84 => gT G84 a0 = (1, 11) ∧ wX10_isWaiting X G84 a0 x3 (fun r85 G86 => (r85 = 0 → wX10_gathers_183 X Pr k75 G86 a0 x3 r83 (0 : Int32)) ∧ (¬ (r85 = 0) → gT G86 a0 = (1, 11) ∧ ∃ b127, gR G86 352 a0 = some b127 ∧ (gT G86 b127).1 = 2 ∧ vp_in (r83 + 1) (gT G86 b127).2 ∧ gT G86 a0 = (1, 11) ∧ (¬ (gA G86 b127 (r83 + 1).toNatClampNeg) = (gI G86 360 a0) → wX10_gathers_183 X Pr k75 G86 a0 x3 r83 (0 : Int32)) ∧ ((gA G86 b127 (r83 + 1).toNatClampNeg) = (gI G86 360 a0) → gT G86 a0 = (1, 11) ∧ ∃ b168, gR G86 352 a0 = some b168 ∧ (gT G86 b168).1 = 2 ∧ vp_in (r83 + 4) (gT G86 b168).2 ∧ gT G86 a0 = (1, 11) ∧ ((gI G86 359 a0) = 0 → wX10_gathers_147 X Pr k75 G86 a0 x3 r83 (gA G86 b168 (r83 + 4).toNatClampNeg) (0 : Int32)) ∧ (¬ ((gI G86 359 a0) = 0) → wX10_gathers_147 X Pr k75 G86 a0 x3 r83 (gA G86 b168 (r83 + 4).toNatClampNeg) (1 : Int32))))))))
set_option maxRecDepth 20000 in
theorem bX10_gathers_75 {X : Xt} {K : Kt} {l : Launch} {G0 : Gt} {Pr : Gt → Prop} (B : BX X K l cX10_gathers 8 RX10 4 87 G0 none "gathers") {k75 : Gt → Nat → Int32 → Prop} (hk75 : ∀ (G : Gt) (a0 : Nat) (x3 : Int32), k75 G a0 x3 → WM X K (QM X K G0 (rV Pr) noX) G 75 [some (.ref a0), none, none, some (.int x3), none, none, none, none] []) {G : Gt} {a0 : Nat} {x3 : Int32} (h : wX10_gathers_75 X Pr k75 G a0 x3) : WM X K (QM X K G0 (rV Pr) noX) G 75 [some (.ref a0), none, none, some (.int x3), none, none, none, none] [] := by
  obtain ⟨hL, C, E0, hr, hnm, hex, hfl⟩ := id B
  unfold wX10_gathers_75 at h
  refine r_iload_n C 3 dX10_gathers_75 rfl rfl ?_
  refine r_aloadR_n C 0 dX10_gathers_76 rfl rfl ?_
  obtain ⟨ht, h⟩ := h
  obtain ⟨b1, hb, h⟩ := h
  refine r_getR C fw_RX10_7 rfl ht hb dX10_gathers_77 ?_
  refine r_bipush C 6 dX10_gathers_80 (by decide) ?_
  obtain ⟨ht, hi, h⟩ := h
  refine r_ialdP C ht hi dX10_gathers_82 ?_
  refine r_icmp_ge C 310 dX10_gathers_83 (by decide) (fun c => ?_) (fun c => ?_)
  · replace h := h.1 c
    exact r_vret C E0 hr ⟨rfl, h⟩ dX10_gathers_310
  · replace h := h.2 c
    refine r_aloadR_n C 0 dX10_gathers_86 rfl rfl ?_
    obtain ⟨ht, h⟩ := h
    obtain ⟨b42, hb, h⟩ := h
    refine r_getR C fw_RX10_7 rfl ht hb dX10_gathers_87 ?_
    refine r_iconst C 5 dX10_gathers_90 (by decide) ?_
    obtain ⟨ht, hi, h⟩ := h
    refine r_ialdP C ht hi dX10_gathers_91 ?_
    refine r_iconst C 1 dX10_gathers_92 (by decide) ?_
    refine r_icmp_ne C 310 dX10_gathers_93 (by decide) (fun c => ?_) (fun c => ?_)
    · replace h := h.1 c
      exact r_vret C E0 hr ⟨rfl, h⟩ dX10_gathers_310
    · replace h := h.2 c
      refine r_iload_n C 3 dX10_gathers_96 rfl rfl ?_
      refine r_callS C hL yw_X10_requestAt sw_RX10_61 rfl rfl (Nat.le_of_ble_eq_true rfl) ⟨(Nat.le_of_ble_eq_true rfl), (Nat.le_of_ble_eq_true rfl)⟩ (mX10_requestAt hfl h) rfl dX10_gathers_97 (kI (fun r83 G84 h => ?_)) kN
      refine r_istore C (lv' := [some (.ref a0), none, none, some (.int x3), some (.int r83), none, none, none]) dX10_gathers_100 (Nat.le_of_ble_eq_true rfl) rfl rfl ?_
      refine r_aloadR_n C 0 dX10_gathers_102 rfl rfl ?_
      refine r_iload_n C 3 dX10_gathers_103 rfl rfl ?_
      obtain ⟨ht, h⟩ := h
      refine r_callV C (r := (RX10, TX10, 19)) hL yw_X10_isWaiting vw_RX10_85 rfl rfl ht rfl rfl (Nat.le_of_ble_eq_true rfl) ⟨(Nat.le_of_ble_eq_true rfl), (Nat.le_of_ble_eq_true rfl)⟩ (mX10_isWaiting hfl h) rfl dX10_gathers_104 (kI (fun r85 G86 h => ?_)) kN
      refine r_if_eq C 182 dX10_gathers_107 (by decide) (fun c => ?_) (fun c => ?_)
      · replace h := h.1 c
        refine r_iconst C 0 dX10_gathers_182 (by decide) ?_
        exact bX10_gathers_183 B hk75 h
      · replace h := h.2 c
        refine r_aloadR_n C 0 dX10_gathers_110 rfl rfl ?_
        obtain ⟨ht, h⟩ := h
        obtain ⟨b127, hb, h⟩ := h
        refine r_getR C fw_RX10_7 rfl ht hb dX10_gathers_111 ?_
        refine r_iload C dX10_gathers_114 rfl ?_
        refine r_iconst C 1 dX10_gathers_116 (by decide) ?_
        refine r_iadd C dX10_gathers_117 ?_
        obtain ⟨ht, hi, h⟩ := h
        refine r_ialdP C ht hi dX10_gathers_118 ?_
        refine r_aloadR_n C 0 dX10_gathers_119 rfl rfl ?_
        obtain ⟨ht, h⟩ := h
        refine r_getI C fw_RX10_91 rfl ht dX10_gathers_120 ?_
        refine r_icmp_ne C 182 dX10_gathers_123 (by decide) (fun c => ?_) (fun c => ?_)
        · replace h := h.1 c
          refine r_iconst C 0 dX10_gathers_182 (by decide) ?_
          exact bX10_gathers_183 B hk75 h
        · replace h := h.2 c
          refine r_aloadR_n C 0 dX10_gathers_126 rfl rfl ?_
          obtain ⟨ht, h⟩ := h
          obtain ⟨b168, hb, h⟩ := h
          refine r_getR C fw_RX10_7 rfl ht hb dX10_gathers_127 ?_
          refine r_iload C dX10_gathers_130 rfl ?_
          refine r_iconst C 4 dX10_gathers_132 (by decide) ?_
          refine r_iadd C dX10_gathers_133 ?_
          obtain ⟨ht, hi, h⟩ := h
          refine r_ialdP C ht hi dX10_gathers_134 ?_
          refine r_aloadR_n C 0 dX10_gathers_135 rfl rfl ?_
          obtain ⟨ht, h⟩ := h
          refine r_getI C fw_RX10_101 rfl ht dX10_gathers_136 ?_
          refine r_if_eq C 146 dX10_gathers_139 (by decide) (fun c => ?_) (fun c => ?_)
          · replace h := h.1 c
            refine r_iconst C 0 dX10_gathers_146 (by decide) ?_
            exact bX10_gathers_147 B hk75 h
          · replace h := h.2 c
            refine r_iconst C 1 dX10_gathers_142 (by decide) ?_
            refine r_goto C 147 dX10_gathers_143 (by decide) ?_
            exact bX10_gathers_147 B hk75 h
theorem lX10_gathers_75 {X : Xt} {K : Kt} {l : Launch} {G0 : Gt} {Pr : Gt → Prop} (B : BX X K l cX10_gathers 8 RX10 4 87 G0 none "gathers") (I : Gt → Nat → Int32 → Prop) (μ : Gt → Nat → Int32 → Nat) (hS : ∀ (G : Gt) (a0 : Nat) (x3 : Int32), I G a0 x3 → wX10_gathers_75 X Pr (fun G' a0' x3' => I G' a0' x3' ∧ μ G' a0' x3' < μ G a0 x3) G a0 x3) : ∀ (n : Nat) (G : Gt) (a0 : Nat) (x3 : Int32), μ G a0 x3 < n → I G a0 x3 → WM X K (QM X K G0 (rV Pr) noX) G 75 [some (.ref a0), none, none, some (.int x3), none, none, none, none] [] := by
  intro n
  induction n with
  | zero => intro G a0 x3 hm; exact absurd hm (Nat.not_lt_zero _)
  | succ n ih =>
    intro G a0 x3 hm hi
    exact bX10_gathers_75 B (fun G' a0' x3' hk => ih G' a0' x3' (Nat.lt_of_lt_of_le hk.2 (Nat.le_of_lt_succ hm)) hk.1) (hS G a0 x3 hi)
def wX10_gathers (X : Xt) (G : Gt) (a0 : Nat) (x1 : Int32) (Pr : Gt → Prop) : Prop := wX10_requestAt X G x1 (fun r1 G2 => gT G2 a0 = (1, 11) ∧ ∀ G3, G3 = sI G2 356 a0 x1 → gT G3 a0 = (1, 11) ∧ ∀ G4, G4 = sJ G3 355 a0 ((1 : Int64) <<< ((x1 : Int32).toInt64 &&& 63)) → gT G4 a0 = (1, 11) ∧ ∃ b5, gR G4 352 a0 = some b5 ∧ (gT G4 b5).1 = 2 ∧ vp_in (r1 + 1) (gT G4 b5).2 ∧ gT G4 a0 = (1, 11) ∧ ∀ G6, G6 = sI G4 360 a0 (gA G4 b5 (r1 + 1).toNatClampNeg) → gT G6 a0 = (1, 11) ∧ ∃ b7, gR G6 352 a0 = some b7 ∧ (gT G6 b7).1 = 2 ∧ vp_in (r1 + 2) (gT G6 b7).2 ∧ gT G6 a0 = (1, 11) ∧ ∀ G8, G8 = sI G6 357 a0 (gA G6 b7 (r1 + 2).toNatClampNeg) → gT G8 a0 = (1, 11) ∧ wX10_end X G8 a0 x1 (fun r9 G10 => gT G10 a0 = (1, 11) ∧ ∀ G11, G11 = sI G10 358 a0 r9 → gT G11 a0 = (1, 11) ∧ ∃ b12, gR G11 352 a0 = some b12 ∧ (gT G11 b12).1 = 2 ∧ vp_in (r1 + 4) (gT G11 b12).2 ∧ (¬ (gA G11 b12 (r1 + 4).toNatClampNeg) = 1 → gT G11 a0 = (1, 11) ∧ ∀ G33, G33 = sI G11 359 a0 0 → ∃ (I : Gt → Nat → Int32 → Prop) (μ : Gt → Nat → Int32 → Nat), I G33 a0 (x1 + 1) ∧ ∀ (G : Gt) (a0 : Nat) (x3 : Int32), I G a0 x3 → wX10_gathers_75 X Pr (fun G' a0' x3' => I G' a0' x3' ∧ μ G' a0' x3' < μ G a0 x3) G a0 x3) ∧ ((gA G11 b12 (r1 + 4).toNatClampNeg) = 1 → gT G11 a0 = (1, 11) ∧ ∀ G53, G53 = sI G11 359 a0 1 → ∃ (I : Gt → Nat → Int32 → Prop) (μ : Gt → Nat → Int32 → Nat), I G53 a0 (x1 + 1) ∧ ∀ (G : Gt) (a0 : Nat) (x3 : Int32), I G a0 x3 → wX10_gathers_75 X Pr (fun G' a0' x3' => I G' a0' x3' ∧ μ G' a0' x3' < μ G a0 x3) G a0 x3)))
set_option maxRecDepth 20000 in
theorem mX10_gathers {X : Xt} {l : Launch} (hfl : l.stackTraces = false) {G : Gt} {a0 : Nat} {x1 : Int32} {Pr : Gt → Prop} (h : wX10_gathers X G a0 x1 Pr) : Mc X l yX10_gathers (.code yX10_gathers cX10_gathers 8 none) 4 87 [.ref a0, .int x1] G (rV Pr) noX := by
  refine Mc.of (by decide +kernel) hfl [some (.ref a0), some (.int x1), none, none, none, none, none, none] rfl (Nat.le_of_ble_eq_true rfl) rfl ?_
  intro K hL C E0 hr hnm hex
  have B : BX X K l cX10_gathers 8 RX10 4 87 G none "gathers" := ⟨hL, C, E0, hr, hnm, hex, hfl⟩
  have C : Cx X K cX10_gathers 8 RX10 4 87 := C
  unfold wX10_gathers at h
  refine r_iload_n C 1 dX10_gathers_0 rfl rfl ?_
  refine r_callS C hL yw_X10_requestAt sw_RX10_61 rfl rfl (Nat.le_of_ble_eq_true rfl) ⟨(Nat.le_of_ble_eq_true rfl), (Nat.le_of_ble_eq_true rfl)⟩ (mX10_requestAt hfl h) rfl dX10_gathers_1 (kI (fun r1 G2 h => ?_)) kN
  refine r_istore_n C 2 (lv' := [some (.ref a0), some (.int x1), some (.int r1), none, none, none, none, none]) dX10_gathers_4 rfl (Nat.le_of_ble_eq_true rfl) rfl rfl ?_
  refine r_aloadR_n C 0 dX10_gathers_5 rfl rfl ?_
  refine r_iload_n C 1 dX10_gathers_6 rfl rfl ?_
  obtain ⟨ht, h⟩ := h
  refine r_putI C cw_11 fp_RX10_105 rfl ht dX10_gathers_7 ?_
  refine r_nm (fun G3 hG3 => ?_)
  replace h := h G3 hG3
  refine r_aloadR_n C 0 dX10_gathers_10 rfl rfl ?_
  refine r_lconst C 1 dX10_gathers_11 (by decide) ?_
  refine r_iload_n C 1 dX10_gathers_12 rfl rfl ?_
  refine r_lshl C dX10_gathers_13 ?_
  obtain ⟨ht, h⟩ := h
  refine r_putJ C cw_11 fp_RX10_94 rfl ht dX10_gathers_14 ?_
  refine r_nm (fun G4 hG4 => ?_)
  replace h := h G4 hG4
  refine r_aloadR_n C 0 dX10_gathers_17 rfl rfl ?_
  refine r_aloadR_n C 0 dX10_gathers_18 rfl rfl ?_
  obtain ⟨ht, h⟩ := h
  obtain ⟨b5, hb, h⟩ := h
  refine r_getR C fw_RX10_7 rfl ht hb dX10_gathers_19 ?_
  refine r_iload_n C 2 dX10_gathers_22 rfl rfl ?_
  refine r_iconst C 1 dX10_gathers_23 (by decide) ?_
  refine r_iadd C dX10_gathers_24 ?_
  obtain ⟨ht, hi, h⟩ := h
  refine r_ialdP C ht hi dX10_gathers_25 ?_
  obtain ⟨ht, h⟩ := h
  refine r_putI C cw_11 fp_RX10_91 rfl ht dX10_gathers_26 ?_
  refine r_nm (fun G6 hG6 => ?_)
  replace h := h G6 hG6
  refine r_aloadR_n C 0 dX10_gathers_29 rfl rfl ?_
  refine r_aloadR_n C 0 dX10_gathers_30 rfl rfl ?_
  obtain ⟨ht, h⟩ := h
  obtain ⟨b7, hb, h⟩ := h
  refine r_getR C fw_RX10_7 rfl ht hb dX10_gathers_31 ?_
  refine r_iload_n C 2 dX10_gathers_34 rfl rfl ?_
  refine r_iconst C 2 dX10_gathers_35 (by decide) ?_
  refine r_iadd C dX10_gathers_36 ?_
  obtain ⟨ht, hi, h⟩ := h
  refine r_ialdP C ht hi dX10_gathers_37 ?_
  obtain ⟨ht, h⟩ := h
  refine r_putI C cw_11 fp_RX10_108 rfl ht dX10_gathers_38 ?_
  refine r_nm (fun G8 hG8 => ?_)
  replace h := h G8 hG8
  refine r_aloadR_n C 0 dX10_gathers_41 rfl rfl ?_
  refine r_aloadR_n C 0 dX10_gathers_42 rfl rfl ?_
  refine r_iload_n C 1 dX10_gathers_43 rfl rfl ?_
  obtain ⟨ht, h⟩ := h
  refine r_callV C (r := (RX10, TX10, 19)) hL yw_X10_end vw_RX10_82 rfl rfl ht rfl rfl (Nat.le_of_ble_eq_true rfl) ⟨(Nat.le_of_ble_eq_true rfl), (Nat.le_of_ble_eq_true rfl)⟩ (mX10_end hfl h) rfl dX10_gathers_44 (kI (fun r9 G10 h => ?_)) kN
  obtain ⟨ht, h⟩ := h
  refine r_putI C cw_11 fp_RX10_111 rfl ht dX10_gathers_47 ?_
  refine r_nm (fun G11 hG11 => ?_)
  replace h := h G11 hG11
  refine r_aloadR_n C 0 dX10_gathers_50 rfl rfl ?_
  refine r_aloadR_n C 0 dX10_gathers_51 rfl rfl ?_
  obtain ⟨ht, h⟩ := h
  obtain ⟨b12, hb, h⟩ := h
  refine r_getR C fw_RX10_7 rfl ht hb dX10_gathers_52 ?_
  refine r_iload_n C 2 dX10_gathers_55 rfl rfl ?_
  refine r_iconst C 4 dX10_gathers_56 (by decide) ?_
  refine r_iadd C dX10_gathers_57 ?_
  obtain ⟨ht, hi, h⟩ := h
  refine r_ialdP C ht hi dX10_gathers_58 ?_
  refine r_iconst C 1 dX10_gathers_59 (by decide) ?_
  refine r_icmp_ne C 67 dX10_gathers_60 (by decide) (fun c => ?_) (fun c => ?_)
  · replace h := h.1 c
    refine r_iconst C 0 dX10_gathers_67 (by decide) ?_
    obtain ⟨ht, h⟩ := h
    refine r_putZ C cw_11 fp_RX10_101 rfl ht (Or.inl rfl) dX10_gathers_68 ?_
    refine r_nm (fun G33 hG33 => ?_)
    replace h := h G33 hG33
    refine r_iload_n C 1 dX10_gathers_71 rfl rfl ?_
    refine r_iconst C 1 dX10_gathers_72 (by decide) ?_
    refine r_iadd C dX10_gathers_73 ?_
    refine r_istore_n C 3 (lv' := [some (.ref a0), some (.int x1), some (.int r1), some (.int (x1 + 1)), none, none, none, none]) dX10_gathers_74 rfl (Nat.le_of_ble_eq_true rfl) rfl rfl ?_
    refine r_fg (lv' := [some (.ref a0), none, none, some (.int (x1 + 1)), none, none, none, none]) (show fgt _ _ from ⟨rfl, ⟨rfl, trivial⟩⟩) ?_
    obtain ⟨I, μ, hI, hS⟩ := h
    exact lX10_gathers_75 B I μ hS _ _ _ _ (Nat.lt_succ_self _) hI
  · replace h := h.2 c
    refine r_iconst C 1 dX10_gathers_63 (by decide) ?_
    refine r_goto C 68 dX10_gathers_64 (by decide) ?_
    obtain ⟨ht, h⟩ := h
    refine r_putZ C cw_11 fp_RX10_101 rfl ht (Or.inr rfl) dX10_gathers_68 ?_
    refine r_nm (fun G53 hG53 => ?_)
    replace h := h G53 hG53
    refine r_iload_n C 1 dX10_gathers_71 rfl rfl ?_
    refine r_iconst C 1 dX10_gathers_72 (by decide) ?_
    refine r_iadd C dX10_gathers_73 ?_
    refine r_istore_n C 3 (lv' := [some (.ref a0), some (.int x1), some (.int r1), some (.int (x1 + 1)), none, none, none, none]) dX10_gathers_74 rfl (Nat.le_of_ble_eq_true rfl) rfl rfl ?_
    refine r_fg (lv' := [some (.ref a0), none, none, some (.int (x1 + 1)), none, none, none, none]) (show fgt _ _ from ⟨rfl, ⟨rfl, trivial⟩⟩) ?_
    obtain ⟨I, μ, hI, hS⟩ := h
    exact lX10_gathers_75 B I μ hS _ _ _ _ (Nat.lt_succ_self _) hI
def wX10_stirred_6 (X : Xt) (Pr : Int32 → Gt → Prop) (k6 : Gt → Int32 → Int32 → Prop) (G : Gt) (x2 : Int32) (x3 : Int32) : Prop := (8 ≤ x3 → Pr x2 G) ∧ (¬ (8 ≤ x3) → (¬ (x2 &&& 1) = 1 → k6 G (x2 >>> (1 &&& 31)) (x3 + 1)) ∧ ((x2 &&& 1) = 1 → k6 G ((x2 >>> (1 &&& 31)) ^^^ 40961) (x3 + 1)))
set_option maxRecDepth 20000 in
theorem bX10_stirred_6 {X : Xt} {K : Kt} {l : Launch} {G0 : Gt} {Pr : Int32 → Gt → Prop} (B : BX X K l cX10_stirred 4 RX10 0 0 G0 (some (.int)) "stirred") {k6 : Gt → Int32 → Int32 → Prop} (hk6 : ∀ (G : Gt) (x2 : Int32) (x3 : Int32), k6 G x2 x3 → WM X K (QM X K G0 (rI Pr) noX) G 6 [none, none, some (.int x2), some (.int x3)] []) {G : Gt} {x2 : Int32} {x3 : Int32} (h : wX10_stirred_6 X Pr k6 G x2 x3) : WM X K (QM X K G0 (rI Pr) noX) G 6 [none, none, some (.int x2), some (.int x3)] [] := by
  obtain ⟨hL, C, E0, hr, hnm, hex, hfl⟩ := id B
  unfold wX10_stirred_6 at h
  refine r_iload_n C 3 dX10_stirred_6 rfl rfl ?_
  refine r_bipush C 8 dX10_stirred_7 (by decide) ?_
  refine r_icmp_ge C 38 dX10_stirred_9 (by decide) (fun c => ?_) (fun c => ?_)
  · replace h := h.1 c
    refine r_iload_n C 2 dX10_stirred_38 rfl rfl ?_
    exact r_iret C E0 hr ⟨_, rfl, h⟩ dX10_stirred_39
  · replace h := h.2 c
    refine r_iload_n C 2 dX10_stirred_12 rfl rfl ?_
    refine r_iconst C 1 dX10_stirred_13 (by decide) ?_
    refine r_iand C dX10_stirred_14 ?_
    refine r_iconst C 1 dX10_stirred_15 (by decide) ?_
    refine r_icmp_ne C 28 dX10_stirred_16 (by decide) (fun c => ?_) (fun c => ?_)
    · replace h := h.1 c
      refine r_iload_n C 2 dX10_stirred_28 rfl rfl ?_
      refine r_iconst C 1 dX10_stirred_29 (by decide) ?_
      refine r_ishr C dX10_stirred_30 ?_
      refine r_istore_n C 2 (lv' := [none, none, some (.int (x2 >>> (1 &&& 31))), some (.int x3)]) dX10_stirred_31 rfl (Nat.le_of_ble_eq_true rfl) rfl rfl ?_
      refine r_iinc C 1 (lv' := [none, none, some (.int (x2 >>> (1 &&& 31))), some (.int (x3 + 1))]) dX10_stirred_32 rfl (by decide) rfl rfl ?_
      refine r_goto C 6 dX10_stirred_35 (by decide) ?_
      exact hk6 _ _ _ h
    · replace h := h.2 c
      refine r_iload_n C 2 dX10_stirred_19 rfl rfl ?_
      refine r_iconst C 1 dX10_stirred_20 (by decide) ?_
      refine r_ishr C dX10_stirred_21 ?_
      refine r_ldc C kc_RX10_117 dX10_stirred_22 ?_
      refine r_ixor C dX10_stirred_24 ?_
      refine r_goto C 31 dX10_stirred_25 (by decide) ?_
      refine r_istore_n C 2 (lv' := [none, none, some (.int ((x2 >>> (1 &&& 31)) ^^^ 40961)), some (.int x3)]) dX10_stirred_31 rfl (Nat.le_of_ble_eq_true rfl) rfl rfl ?_
      refine r_iinc C 1 (lv' := [none, none, some (.int ((x2 >>> (1 &&& 31)) ^^^ 40961)), some (.int (x3 + 1))]) dX10_stirred_32 rfl (by decide) rfl rfl ?_
      refine r_goto C 6 dX10_stirred_35 (by decide) ?_
      exact hk6 _ _ _ h
theorem lX10_stirred_6 {X : Xt} {K : Kt} {l : Launch} {G0 : Gt} {Pr : Int32 → Gt → Prop} (B : BX X K l cX10_stirred 4 RX10 0 0 G0 (some (.int)) "stirred") (I : Gt → Int32 → Int32 → Prop) (μ : Gt → Int32 → Int32 → Nat) (hS : ∀ (G : Gt) (x2 : Int32) (x3 : Int32), I G x2 x3 → wX10_stirred_6 X Pr (fun G' x2' x3' => I G' x2' x3' ∧ μ G' x2' x3' < μ G x2 x3) G x2 x3) : ∀ (n : Nat) (G : Gt) (x2 : Int32) (x3 : Int32), μ G x2 x3 < n → I G x2 x3 → WM X K (QM X K G0 (rI Pr) noX) G 6 [none, none, some (.int x2), some (.int x3)] [] := by
  intro n
  induction n with
  | zero => intro G x2 x3 hm; exact absurd hm (Nat.not_lt_zero _)
  | succ n ih =>
    intro G x2 x3 hm hi
    exact bX10_stirred_6 B (fun G' x2' x3' hk => ih G' x2' x3' (Nat.lt_of_lt_of_le hk.2 (Nat.le_of_lt_succ hm)) hk.1) (hS G x2 x3 hi)
def wX10_stirred (X : Xt) (G : Gt) (x0 : Int32) (x1 : Int32) (Pr : Int32 → Gt → Prop) : Prop := ∃ (I : Gt → Int32 → Int32 → Prop) (μ : Gt → Int32 → Int32 → Nat), I G (x0 ^^^ x1) (0 : Int32) ∧ ∀ (G : Gt) (x2 : Int32) (x3 : Int32), I G x2 x3 → wX10_stirred_6 X Pr (fun G' x2' x3' => I G' x2' x3' ∧ μ G' x2' x3' < μ G x2 x3) G x2 x3
set_option maxRecDepth 20000 in
theorem mX10_stirred {X : Xt} {l : Launch} (hfl : l.stackTraces = false) {G : Gt} {x0 : Int32} {x1 : Int32} {Pr : Int32 → Gt → Prop} (h : wX10_stirred X G x0 x1 Pr) : Mc X l yX10_stirred (.code yX10_stirred cX10_stirred 4 (some (.int))) 0 0 [.int x0, .int x1] G (rI Pr) noX := by
  refine Mc.of (by decide +kernel) hfl [some (.int x0), some (.int x1), none, none] rfl (Nat.le_of_ble_eq_true rfl) rfl ?_
  intro K hL C E0 hr hnm hex
  have B : BX X K l cX10_stirred 4 RX10 0 0 G (some (.int)) "stirred" := ⟨hL, C, E0, hr, hnm, hex, hfl⟩
  have C : Cx X K cX10_stirred 4 RX10 0 0 := C
  unfold wX10_stirred at h
  refine r_iload_n C 0 dX10_stirred_0 rfl rfl ?_
  refine r_iload_n C 1 dX10_stirred_1 rfl rfl ?_
  refine r_ixor C dX10_stirred_2 ?_
  refine r_istore_n C 2 (lv' := [some (.int x0), some (.int x1), some (.int (x0 ^^^ x1)), none]) dX10_stirred_3 rfl (Nat.le_of_ble_eq_true rfl) rfl rfl ?_
  refine r_iconst C 0 dX10_stirred_4 (by decide) ?_
  refine r_istore_n C 3 (lv' := [some (.int x0), some (.int x1), some (.int (x0 ^^^ x1)), some (.int 0)]) dX10_stirred_5 rfl (Nat.le_of_ble_eq_true rfl) rfl rfl ?_
  refine r_fg (lv' := [none, none, some (.int (x0 ^^^ x1)), some (.int 0)]) (show fgt _ _ from ⟨rfl, ⟨rfl, trivial⟩⟩) ?_
  obtain ⟨I, μ, hI, hS⟩ := h
  exact lX10_stirred_6 B I μ hS _ _ _ _ (Nat.lt_succ_self _) hI
def wX10_puts (X : Xt) (G : Gt) (a0 : Nat) (x1 : Int32) (Pr : Gt → Prop) : Prop := gT G a0 = (1, 11) ∧ ∃ b1, gR G 361 a0 = some b1 ∧ gT G a0 = (1, 11) ∧ (gT G b1).1 = 2 ∧ vp_in (gI G 362 a0) (gT G b1).2 ∧ ∀ G2, G2 = sA G b1 (upd (gA G b1) (gI G 362 a0).toNatClampNeg x1) → gT G2 a0 = (1, 11) ∧ gT G2 a0 = (1, 11) ∧ ∀ G3, G3 = sI G2 362 a0 ((gI G2 362 a0) + 1) → Pr G3
set_option maxRecDepth 20000 in
theorem mX10_puts {X : Xt} {l : Launch} (hfl : l.stackTraces = false) {G : Gt} {a0 : Nat} {x1 : Int32} {Pr : Gt → Prop} (h : wX10_puts X G a0 x1 Pr) : Mc X l yX10_puts (.code yX10_puts cX10_puts 2 none) 0 0 [.ref a0, .int x1] G (rV Pr) noX := by
  refine Mc.of (by decide +kernel) hfl [some (.ref a0), some (.int x1)] rfl (Nat.le_of_ble_eq_true rfl) rfl ?_
  intro K hL C E0 hr hnm hex
  have B : BX X K l cX10_puts 2 RX10 0 0 G none "puts" := ⟨hL, C, E0, hr, hnm, hex, hfl⟩
  have C : Cx X K cX10_puts 2 RX10 0 0 := C
  unfold wX10_puts at h
  refine r_aloadR_n C 0 dX10_puts_0 rfl rfl ?_
  obtain ⟨ht, h⟩ := h
  obtain ⟨b1, hb, h⟩ := h
  refine r_getR C fw_RX10_16 rfl ht hb dX10_puts_1 ?_
  refine r_aloadR_n C 0 dX10_puts_4 rfl rfl ?_
  obtain ⟨ht, h⟩ := h
  refine r_getI C fw_RX10_118 rfl ht dX10_puts_5 ?_
  refine r_iload_n C 1 dX10_puts_8 rfl rfl ?_
  obtain ⟨ht, hi, h⟩ := h
  refine r_iastP C ht hi dX10_puts_9 ?_
  refine r_nm (fun G2 hG2 => ?_)
  replace h := h G2 hG2
  refine r_aloadR_n C 0 dX10_puts_10 rfl rfl ?_
  refine r_dup C dX10_puts_11 rfl ?_
  obtain ⟨ht, h⟩ := h
  refine r_getI C fw_RX10_118 rfl ht dX10_puts_12 ?_
  refine r_iconst C 1 dX10_puts_15 (by decide) ?_
  refine r_iadd C dX10_puts_16 ?_
  obtain ⟨ht, h⟩ := h
  refine r_putI C cw_11 fp_RX10_118 rfl ht dX10_puts_17 ?_
  refine r_nm (fun G3 hG3 => ?_)
  replace h := h G3 hG3
  exact r_vret C E0 hr ⟨rfl, h⟩ dX10_puts_20
def wX10_putsWord (X : Xt) (G : Gt) (a0 : Nat) (x1 : Int32) (Pr : Gt → Prop) : Prop := gT G a0 = (1, 11) ∧ wX10_puts X G a0 (x1 >>> (8 &&& 31)) (fun G1 => gT G1 a0 = (1, 11) ∧ wX10_puts X G1 a0 (x1 &&& 255) (fun G2 => Pr G2))
set_option maxRecDepth 20000 in
theorem mX10_putsWord {X : Xt} {l : Launch} (hfl : l.stackTraces = false) {G : Gt} {a0 : Nat} {x1 : Int32} {Pr : Gt → Prop} (h : wX10_putsWord X G a0 x1 Pr) : Mc X l yX10_putsWord (.code yX10_putsWord cX10_putsWord 2 none) 1 21 [.ref a0, .int x1] G (rV Pr) noX := by
  refine Mc.of (by decide +kernel) hfl [some (.ref a0), some (.int x1)] rfl (Nat.le_of_ble_eq_true rfl) rfl ?_
  intro K hL C E0 hr hnm hex
  have B : BX X K l cX10_putsWord 2 RX10 1 21 G none "putsWord" := ⟨hL, C, E0, hr, hnm, hex, hfl⟩
  have C : Cx X K cX10_putsWord 2 RX10 1 21 := C
  unfold wX10_putsWord at h
  refine r_aloadR_n C 0 dX10_putsWord_0 rfl rfl ?_
  refine r_iload_n C 1 dX10_putsWord_1 rfl rfl ?_
  refine r_bipush C 8 dX10_putsWord_2 (by decide) ?_
  refine r_ishr C dX10_putsWord_4 ?_
  obtain ⟨ht, h⟩ := h
  refine r_callV C (r := (RX10, TX10, 19)) hL yw_X10_puts vw_RX10_121 rfl rfl ht rfl rfl (Nat.le_of_ble_eq_true rfl) ⟨(Nat.le_of_ble_eq_true rfl), (Nat.le_of_ble_eq_true rfl)⟩ (mX10_puts hfl h) rfl dX10_putsWord_5 (kV' (fun G1 h => ?_)) kN
  refine r_aloadR_n C 0 dX10_putsWord_8 rfl rfl ?_
  refine r_iload_n C 1 dX10_putsWord_9 rfl rfl ?_
  refine r_sipush C 255 dX10_putsWord_10 (by decide) ?_
  refine r_iand C dX10_putsWord_13 ?_
  obtain ⟨ht, h⟩ := h
  refine r_callV C (r := (RX10, TX10, 19)) hL yw_X10_puts vw_RX10_121 rfl rfl ht rfl rfl (Nat.le_of_ble_eq_true rfl) ⟨(Nat.le_of_ble_eq_true rfl), (Nat.le_of_ble_eq_true rfl)⟩ (mX10_puts hfl h) rfl dX10_putsWord_14 (kV' (fun G2 h => ?_)) kN
  exact r_vret C E0 hr ⟨rfl, h⟩ dX10_putsWord_17
def wX10_seals_5 (X : Xt) (Pr : Gt → Prop) (k5 : Gt → Nat → Int32 → Int32 → Prop) (G : Gt) (a0 : Nat) (x1 : Int32) (x2 : Int32) : Prop := gT G a0 = (1, 11) ∧ ((gI G 362 a0) ≤ x2 → gT G a0 = (1, 11) ∧ wX10_puts X G a0 (x1 &&& 255) (fun G21 => gT G21 a0 = (1, 11) ∧ wX10_puts X G21 a0 (x1 >>> (8 &&& 31)) (fun G22 => Pr G22))) ∧ (¬ ((gI G 362 a0) ≤ x2) → gT G a0 = (1, 11) ∧ ∃ b41, gR G 361 a0 = some b41 ∧ (gT G b41).1 = 2 ∧ vp_in x2 (gT G b41).2 ∧ wX10_stirred X G x1 (gA G b41 x2.toNatClampNeg) (fun r42 G43 => k5 G43 a0 r42 (x2 + 1)))
set_option maxRecDepth 20000 in
theorem bX10_seals_5 {X : Xt} {K : Kt} {l : Launch} {G0 : Gt} {Pr : Gt → Prop} (B : BX X K l cX10_seals 3 RX10 1 23 G0 none "seals") {k5 : Gt → Nat → Int32 → Int32 → Prop} (hk5 : ∀ (G : Gt) (a0 : Nat) (x1 : Int32) (x2 : Int32), k5 G a0 x1 x2 → WM X K (QM X K G0 (rV Pr) noX) G 5 [some (.ref a0), some (.int x1), some (.int x2)] []) {G : Gt} {a0 : Nat} {x1 : Int32} {x2 : Int32} (h : wX10_seals_5 X Pr k5 G a0 x1 x2) : WM X K (QM X K G0 (rV Pr) noX) G 5 [some (.ref a0), some (.int x1), some (.int x2)] [] := by
  obtain ⟨hL, C, E0, hr, hnm, hex, hfl⟩ := id B
  unfold wX10_seals_5 at h
  refine r_iload_n C 2 dX10_seals_5 rfl rfl ?_
  refine r_aloadR_n C 0 dX10_seals_6 rfl rfl ?_
  obtain ⟨ht, h⟩ := h
  refine r_getI C fw_RX10_118 rfl ht dX10_seals_7 ?_
  refine r_icmp_ge C 30 dX10_seals_10 (by decide) (fun c => ?_) (fun c => ?_)
  · replace h := h.1 c
    refine r_aloadR_n C 0 dX10_seals_30 rfl rfl ?_
    refine r_iload_n C 1 dX10_seals_31 rfl rfl ?_
    refine r_sipush C 255 dX10_seals_32 (by decide) ?_
    refine r_iand C dX10_seals_35 ?_
    obtain ⟨ht, h⟩ := h
    refine r_callV C (r := (RX10, TX10, 19)) hL yw_X10_puts vw_RX10_121 rfl rfl ht rfl rfl (Nat.le_of_ble_eq_true rfl) ⟨(Nat.le_of_ble_eq_true rfl), (Nat.le_of_ble_eq_true rfl)⟩ (mX10_puts hfl h) rfl dX10_seals_36 (kV' (fun G21 h => ?_)) kN
    refine r_aloadR_n C 0 dX10_seals_39 rfl rfl ?_
    refine r_iload_n C 1 dX10_seals_40 rfl rfl ?_
    refine r_bipush C 8 dX10_seals_41 (by decide) ?_
    refine r_ishr C dX10_seals_43 ?_
    obtain ⟨ht, h⟩ := h
    refine r_callV C (r := (RX10, TX10, 19)) hL yw_X10_puts vw_RX10_121 rfl rfl ht rfl rfl (Nat.le_of_ble_eq_true rfl) ⟨(Nat.le_of_ble_eq_true rfl), (Nat.le_of_ble_eq_true rfl)⟩ (mX10_puts hfl h) rfl dX10_seals_44 (kV' (fun G22 h => ?_)) kN
    exact r_vret C E0 hr ⟨rfl, h⟩ dX10_seals_47
  · replace h := h.2 c
    refine r_iload_n C 1 dX10_seals_13 rfl rfl ?_
    refine r_aloadR_n C 0 dX10_seals_14 rfl rfl ?_
    obtain ⟨ht, h⟩ := h
    obtain ⟨b41, hb, h⟩ := h
    refine r_getR C fw_RX10_16 rfl ht hb dX10_seals_15 ?_
    refine r_iload_n C 2 dX10_seals_18 rfl rfl ?_
    obtain ⟨ht, hi, h⟩ := h
    refine r_ialdP C ht hi dX10_seals_19 ?_
    refine r_callS C hL yw_X10_stirred sw_RX10_125 rfl rfl (Nat.le_of_ble_eq_true rfl) ⟨(Nat.le_of_ble_eq_true rfl), (Nat.le_of_ble_eq_true rfl)⟩ (mX10_stirred hfl h) rfl dX10_seals_20 (kI (fun r42 G43 h => ?_)) kN
    refine r_istore_n C 1 (lv' := [some (.ref a0), some (.int r42), some (.int x2)]) dX10_seals_23 rfl (Nat.le_of_ble_eq_true rfl) rfl rfl ?_
    refine r_iinc C 1 (lv' := [some (.ref a0), some (.int r42), some (.int (x2 + 1))]) dX10_seals_24 rfl (by decide) rfl rfl ?_
    refine r_goto C 5 dX10_seals_27 (by decide) ?_
    exact hk5 _ _ _ _ h
theorem lX10_seals_5 {X : Xt} {K : Kt} {l : Launch} {G0 : Gt} {Pr : Gt → Prop} (B : BX X K l cX10_seals 3 RX10 1 23 G0 none "seals") (I : Gt → Nat → Int32 → Int32 → Prop) (μ : Gt → Nat → Int32 → Int32 → Nat) (hS : ∀ (G : Gt) (a0 : Nat) (x1 : Int32) (x2 : Int32), I G a0 x1 x2 → wX10_seals_5 X Pr (fun G' a0' x1' x2' => I G' a0' x1' x2' ∧ μ G' a0' x1' x2' < μ G a0 x1 x2) G a0 x1 x2) : ∀ (n : Nat) (G : Gt) (a0 : Nat) (x1 : Int32) (x2 : Int32), μ G a0 x1 x2 < n → I G a0 x1 x2 → WM X K (QM X K G0 (rV Pr) noX) G 5 [some (.ref a0), some (.int x1), some (.int x2)] [] := by
  intro n
  induction n with
  | zero => intro G a0 x1 x2 hm; exact absurd hm (Nat.not_lt_zero _)
  | succ n ih =>
    intro G a0 x1 x2 hm hi
    exact bX10_seals_5 B (fun G' a0' x1' x2' hk => ih G' a0' x1' x2' (Nat.lt_of_lt_of_le hk.2 (Nat.le_of_lt_succ hm)) hk.1) (hS G a0 x1 x2 hi)
def wX10_seals (X : Xt) (G : Gt) (a0 : Nat) (Pr : Gt → Prop) : Prop := ∃ (I : Gt → Nat → Int32 → Int32 → Prop) (μ : Gt → Nat → Int32 → Int32 → Nat), I G a0 (65535 : Int32) (0 : Int32) ∧ ∀ (G : Gt) (a0 : Nat) (x1 : Int32) (x2 : Int32), I G a0 x1 x2 → wX10_seals_5 X Pr (fun G' a0' x1' x2' => I G' a0' x1' x2' ∧ μ G' a0' x1' x2' < μ G a0 x1 x2) G a0 x1 x2
set_option maxRecDepth 20000 in
theorem mX10_seals {X : Xt} {l : Launch} (hfl : l.stackTraces = false) {G : Gt} {a0 : Nat} {Pr : Gt → Prop} (h : wX10_seals X G a0 Pr) : Mc X l yX10_seals (.code yX10_seals cX10_seals 3 none) 1 23 [.ref a0] G (rV Pr) noX := by
  refine Mc.of (by decide +kernel) hfl [some (.ref a0), none, none] rfl (Nat.le_of_ble_eq_true rfl) rfl ?_
  intro K hL C E0 hr hnm hex
  have B : BX X K l cX10_seals 3 RX10 1 23 G none "seals" := ⟨hL, C, E0, hr, hnm, hex, hfl⟩
  have C : Cx X K cX10_seals 3 RX10 1 23 := C
  unfold wX10_seals at h
  refine r_ldc C kc_RX10_25 dX10_seals_0 ?_
  refine r_istore_n C 1 (lv' := [some (.ref a0), some (.int 65535), none]) dX10_seals_2 rfl (Nat.le_of_ble_eq_true rfl) rfl rfl ?_
  refine r_iconst C 0 dX10_seals_3 (by decide) ?_
  refine r_istore_n C 2 (lv' := [some (.ref a0), some (.int 65535), some (.int 0)]) dX10_seals_4 rfl (Nat.le_of_ble_eq_true rfl) rfl rfl ?_
  obtain ⟨I, μ, hI, hS⟩ := h
  exact lX10_seals_5 B I μ hS _ _ _ _ _ (Nat.lt_succ_self _) hI
def wX10_function (X : Xt) (G : Gt) (a0 : Nat) (Pr : Int32 → Gt → Prop) : Prop := gT G a0 = (1, 11) ∧ (¬ (gI G 359 a0) = 0 → gT G a0 = (1, 11) ∧ gT G a0 = (1, 11) ∧ (¬ ((gI G 358 a0) - (gI G 357 a0)) = 1 → Pr 16 G) ∧ (((gI G 358 a0) - (gI G 357 a0)) = 1 → Pr 6 G)) ∧ ((gI G 359 a0) = 0 → Pr 3 G)
set_option maxRecDepth 20000 in
theorem mX10_function {X : Xt} {l : Launch} (hfl : l.stackTraces = false) {G : Gt} {a0 : Nat} {Pr : Int32 → Gt → Prop} (h : wX10_function X G a0 Pr) : Mc X l yX10_function (.code yX10_function cX10_function 1 (some (.int))) 0 0 [.ref a0] G (rI Pr) noX := by
  refine Mc.of (by decide +kernel) hfl [some (.ref a0)] rfl (Nat.le_of_ble_eq_true rfl) rfl ?_
  intro K hL C E0 hr hnm hex
  have B : BX X K l cX10_function 1 RX10 0 0 G (some (.int)) "function" := ⟨hL, C, E0, hr, hnm, hex, hfl⟩
  have C : Cx X K cX10_function 1 RX10 0 0 := C
  unfold wX10_function at h
  refine r_aloadR_n C 0 dX10_function_0 rfl rfl ?_
  obtain ⟨ht, h⟩ := h
  refine r_getI C fw_RX10_101 rfl ht dX10_function_1 ?_
  refine r_if_ne C 11 dX10_function_4 (by decide) (fun c => ?_) (fun c => ?_)
  · replace h := h.1 c
    refine r_aloadR_n C 0 dX10_function_11 rfl rfl ?_
    obtain ⟨ht, h⟩ := h
    refine r_getI C fw_RX10_111 rfl ht dX10_function_12 ?_
    refine r_aloadR_n C 0 dX10_function_15 rfl rfl ?_
    obtain ⟨ht, h⟩ := h
    refine r_getI C fw_RX10_108 rfl ht dX10_function_16 ?_
    refine r_isub C dX10_function_19 ?_
    refine r_iconst C 1 dX10_function_20 (by decide) ?_
    refine r_icmp_ne C 29 dX10_function_21 (by decide) (fun c => ?_) (fun c => ?_)
    · replace h := h.1 c
      refine r_bipush C 16 dX10_function_29 (by decide) ?_
      exact r_iret C E0 hr ⟨_, rfl, h⟩ dX10_function_31
    · replace h := h.2 c
      refine r_bipush C 6 dX10_function_24 (by decide) ?_
      refine r_goto C 31 dX10_function_26 (by decide) ?_
      exact r_iret C E0 hr ⟨_, rfl, h⟩ dX10_function_31
  · replace h := h.2 c
    refine r_iconst C 3 dX10_function_7 (by decide) ?_
    refine r_goto C 31 dX10_function_8 (by decide) ?_
    exact r_iret C E0 hr ⟨_, rfl, h⟩ dX10_function_31
def wX10_frames_206 (X : Xt) (Pr : Gt → Prop) (k206 : Gt → Nat → Int32 → Prop) (G : Gt) (a0 : Nat) (x1 : Int32) : Prop := gT G a0 = (1, 11) ∧ ((gI G 358 a0) ≤ x1 → gT G a0 = (1, 11) ∧ wX10_seals X G a0 (fun G21 => Pr G21)) ∧ (¬ ((gI G 358 a0) ≤ x1) → gT G a0 = (1, 11) ∧ ∃ b41, gR G 363 a0 = some b41 ∧ gT G a0 = (1, 11) ∧ (gT G b41).1 = 2 ∧ vp_in (x1 - (gI G 357 a0)) (gT G b41).2 ∧ gT G a0 = (1, 11) ∧ wX10_putsWord X G a0 (gA G b41 (x1 - (gI G 357 a0)).toNatClampNeg) (fun G42 => k206 G42 a0 (x1 + 1)))
set_option maxRecDepth 20000 in
theorem bX10_frames_206 {X : Xt} {K : Kt} {l : Launch} {G0 : Gt} {Pr : Gt → Prop} (B : BX X K l cX10_frames 3 RX10 2 45 G0 none "frames") {k206 : Gt → Nat → Int32 → Prop} (hk206 : ∀ (G : Gt) (a0 : Nat) (x1 : Int32), k206 G a0 x1 → WM X K (QM X K G0 (rV Pr) noX) G 206 [some (.ref a0), some (.int x1), none] []) {G : Gt} {a0 : Nat} {x1 : Int32} (h : wX10_frames_206 X Pr k206 G a0 x1) : WM X K (QM X K G0 (rV Pr) noX) G 206 [some (.ref a0), some (.int x1), none] [] := by
  obtain ⟨hL, C, E0, hr, hnm, hex, hfl⟩ := id B
  unfold wX10_frames_206 at h
  refine r_iload_n C 1 dX10_frames_206 rfl rfl ?_
  refine r_aloadR_n C 0 dX10_frames_207 rfl rfl ?_
  obtain ⟨ht, h⟩ := h
  refine r_getI C fw_RX10_111 rfl ht dX10_frames_208 ?_
  refine r_icmp_ge C 235 dX10_frames_211 (by decide) (fun c => ?_) (fun c => ?_)
  · replace h := h.1 c
    refine r_aloadR_n C 0 dX10_frames_235 rfl rfl ?_
    obtain ⟨ht, h⟩ := h
    refine r_callV C (r := (RX10, TX10, 19)) hL yw_X10_seals vw_RX10_135 rfl rfl ht rfl rfl (Nat.le_of_ble_eq_true rfl) ⟨(Nat.le_of_ble_eq_true rfl), (Nat.le_of_ble_eq_true rfl)⟩ (mX10_seals hfl h) rfl dX10_frames_236 (kV' (fun G21 h => ?_)) kN
    exact r_vret C E0 hr ⟨rfl, h⟩ dX10_frames_239
  · replace h := h.2 c
    refine r_aloadR_n C 0 dX10_frames_214 rfl rfl ?_
    refine r_aloadR_n C 0 dX10_frames_215 rfl rfl ?_
    obtain ⟨ht, h⟩ := h
    obtain ⟨b41, hb, h⟩ := h
    refine r_getR C fw_RX10_19 rfl ht hb dX10_frames_216 ?_
    refine r_iload_n C 1 dX10_frames_219 rfl rfl ?_
    refine r_aloadR_n C 0 dX10_frames_220 rfl rfl ?_
    obtain ⟨ht, h⟩ := h
    refine r_getI C fw_RX10_108 rfl ht dX10_frames_221 ?_
    refine r_isub C dX10_frames_224 ?_
    obtain ⟨ht, hi, h⟩ := h
    refine r_ialdP C ht hi dX10_frames_225 ?_
    obtain ⟨ht, h⟩ := h
    refine r_callV C (r := (RX10, TX10, 19)) hL yw_X10_putsWord vw_RX10_132 rfl rfl ht rfl rfl (Nat.le_of_ble_eq_true rfl) ⟨(Nat.le_of_ble_eq_true rfl), (Nat.le_of_ble_eq_true rfl)⟩ (mX10_putsWord hfl h) rfl dX10_frames_226 (kV' (fun G42 h => ?_)) kN
    refine r_iinc C 1 (lv' := [some (.ref a0), some (.int (x1 + 1)), none]) dX10_frames_229 rfl (by decide) rfl rfl ?_
    refine r_goto C 206 dX10_frames_232 (by decide) ?_
    exact hk206 _ _ _ h
theorem lX10_frames_206 {X : Xt} {K : Kt} {l : Launch} {G0 : Gt} {Pr : Gt → Prop} (B : BX X K l cX10_frames 3 RX10 2 45 G0 none "frames") (I : Gt → Nat → Int32 → Prop) (μ : Gt → Nat → Int32 → Nat) (hS : ∀ (G : Gt) (a0 : Nat) (x1 : Int32), I G a0 x1 → wX10_frames_206 X Pr (fun G' a0' x1' => I G' a0' x1' ∧ μ G' a0' x1' < μ G a0 x1) G a0 x1) : ∀ (n : Nat) (G : Gt) (a0 : Nat) (x1 : Int32), μ G a0 x1 < n → I G a0 x1 → WM X K (QM X K G0 (rV Pr) noX) G 206 [some (.ref a0), some (.int x1), none] [] := by
  intro n
  induction n with
  | zero => intro G a0 x1 hm; exact absurd hm (Nat.not_lt_zero _)
  | succ n ih =>
    intro G a0 x1 hm hi
    exact bX10_frames_206 B (fun G' a0' x1' hk => ih G' a0' x1' (Nat.lt_of_lt_of_le hk.2 (Nat.le_of_lt_succ hm)) hk.1) (hS G a0 x1 hi)
def wX10_frames_177 (X : Xt) (Pr : Gt → Prop) (G : Gt) (a0 : Nat) : Prop := gT G a0 = (1, 11) ∧ wX10_function X G a0 (fun r1 G2 => (¬ r1 = 16 → gT G2 a0 = (1, 11) ∧ wX10_seals X G2 a0 (fun G23 => Pr G23)) ∧ (r1 = 16 → gT G2 a0 = (1, 11) ∧ gT G2 a0 = (1, 11) ∧ gT G2 a0 = (1, 11) ∧ wX10_puts X G2 a0 (2 * ((gI G2 358 a0) - (gI G2 357 a0))) (fun G43 => gT G43 a0 = (1, 11) ∧ ∃ (I : Gt → Nat → Int32 → Prop) (μ : Gt → Nat → Int32 → Nat), I G43 a0 (gI G43 357 a0) ∧ ∀ (G : Gt) (a0 : Nat) (x1 : Int32), I G a0 x1 → wX10_frames_206 X Pr (fun G' a0' x1' => I G' a0' x1' ∧ μ G' a0' x1' < μ G a0 x1) G a0 x1)))
set_option maxRecDepth 20000 in
theorem bX10_frames_177 {X : Xt} {K : Kt} {l : Launch} {G0 : Gt} {Pr : Gt → Prop} (B : BX X K l cX10_frames 3 RX10 2 45 G0 none "frames") {G : Gt} {a0 : Nat} (h : wX10_frames_177 X Pr G a0) : WM X K (QM X K G0 (rV Pr) noX) G 177 [some (.ref a0), none, none] [] := by
  obtain ⟨hL, C, E0, hr, hnm, hex, hfl⟩ := id B
  unfold wX10_frames_177 at h
  refine r_aloadR_n C 0 dX10_frames_177 rfl rfl ?_
  obtain ⟨ht, h⟩ := h
  refine r_callV C (r := (RX10, TX10, 19)) hL yw_X10_function vw_RX10_128 rfl rfl ht rfl rfl (Nat.le_of_ble_eq_true rfl) ⟨(Nat.le_of_ble_eq_true rfl), (Nat.le_of_ble_eq_true rfl)⟩ (mX10_function hfl h) rfl dX10_frames_178 (kI (fun r1 G2 h => ?_)) kN
  refine r_bipush C 16 dX10_frames_181 (by decide) ?_
  refine r_icmp_ne C 235 dX10_frames_183 (by decide) (fun c => ?_) (fun c => ?_)
  · replace h := h.1 c
    refine r_aloadR_n C 0 dX10_frames_235 rfl rfl ?_
    obtain ⟨ht, h⟩ := h
    refine r_callV C (r := (RX10, TX10, 19)) hL yw_X10_seals vw_RX10_135 rfl rfl ht rfl rfl (Nat.le_of_ble_eq_true rfl) ⟨(Nat.le_of_ble_eq_true rfl), (Nat.le_of_ble_eq_true rfl)⟩ (mX10_seals hfl h) rfl dX10_frames_236 (kV' (fun G23 h => ?_)) kN
    exact r_vret C E0 hr ⟨rfl, h⟩ dX10_frames_239
  · replace h := h.2 c
    refine r_aloadR_n C 0 dX10_frames_186 rfl rfl ?_
    refine r_iconst C 2 dX10_frames_187 (by decide) ?_
    refine r_aloadR_n C 0 dX10_frames_188 rfl rfl ?_
    obtain ⟨ht, h⟩ := h
    refine r_getI C fw_RX10_111 rfl ht dX10_frames_189 ?_
    refine r_aloadR_n C 0 dX10_frames_192 rfl rfl ?_
    obtain ⟨ht, h⟩ := h
    refine r_getI C fw_RX10_108 rfl ht dX10_frames_193 ?_
    refine r_isub C dX10_frames_196 ?_
    refine r_imul C dX10_frames_197 ?_
    obtain ⟨ht, h⟩ := h
    refine r_callV C (r := (RX10, TX10, 19)) hL yw_X10_puts vw_RX10_121 rfl rfl ht rfl rfl (Nat.le_of_ble_eq_true rfl) ⟨(Nat.le_of_ble_eq_true rfl), (Nat.le_of_ble_eq_true rfl)⟩ (mX10_puts hfl h) rfl dX10_frames_198 (kV' (fun G43 h => ?_)) kN
    refine r_aloadR_n C 0 dX10_frames_201 rfl rfl ?_
    obtain ⟨ht, h⟩ := h
    refine r_getI C fw_RX10_108 rfl ht dX10_frames_202 ?_
    refine r_istore_n C 1 (lv' := [some (.ref a0), some (.int (gI G43 357 a0)), none]) dX10_frames_205 rfl (Nat.le_of_ble_eq_true rfl) rfl rfl ?_
    obtain ⟨I, μ, hI, hS⟩ := h
    exact lX10_frames_206 B I μ hS _ _ _ _ (Nat.lt_succ_self _) hI
def wX10_frames_113 (X : Xt) (Pr : Gt → Prop) (G : Gt) (a0 : Nat) : Prop := gT G a0 = (1, 11) ∧ ∀ G1, G1 = sI G 362 a0 0 → gT G1 a0 = (1, 11) ∧ gT G1 a0 = (1, 11) ∧ wX10_puts X G1 a0 (gI G1 360 a0) (fun G2 => gT G2 a0 = (1, 11) ∧ wX10_function X G2 a0 (fun r3 G4 => gT G4 a0 = (1, 11) ∧ wX10_puts X G4 a0 r3 (fun G5 => gT G5 a0 = (1, 11) ∧ gT G5 a0 = (1, 11) ∧ wX10_putsWord X G5 a0 (gI G5 357 a0) (fun G6 => gT G6 a0 = (1, 11) ∧ wX10_function X G6 a0 (fun r7 G8 => (¬ r7 = 6 → gT G8 a0 = (1, 11) ∧ gT G8 a0 = (1, 11) ∧ gT G8 a0 = (1, 11) ∧ wX10_putsWord X G8 a0 ((gI G8 358 a0) - (gI G8 357 a0)) (fun G29 => wX10_frames_177 X Pr G29 a0)) ∧ (r7 = 6 → gT G8 a0 = (1, 11) ∧ ∃ b49, gR G8 363 a0 = some b49 ∧ (gT G8 b49).1 = 2 ∧ vp_in 0 (gT G8 b49).2 ∧ gT G8 a0 = (1, 11) ∧ wX10_putsWord X G8 a0 (gA G8 b49 (0 : Int32).toNatClampNeg) (fun G50 => wX10_frames_177 X Pr G50 a0)))))))
set_option maxRecDepth 20000 in
theorem bX10_frames_113 {X : Xt} {K : Kt} {l : Launch} {G0 : Gt} {Pr : Gt → Prop} (B : BX X K l cX10_frames 3 RX10 2 45 G0 none "frames") {G : Gt} {a0 : Nat} (h : wX10_frames_113 X Pr G a0) : WM X K (QM X K G0 (rV Pr) noX) G 113 [some (.ref a0), none, none] [] := by
  obtain ⟨hL, C, E0, hr, hnm, hex, hfl⟩ := id B
  unfold wX10_frames_113 at h
  refine r_aloadR_n C 0 dX10_frames_113 rfl rfl ?_
  refine r_iconst C 0 dX10_frames_114 (by decide) ?_
  obtain ⟨ht, h⟩ := h
  refine r_putI C cw_11 fp_RX10_118 rfl ht dX10_frames_115 ?_
  refine r_nm (fun G1 hG1 => ?_)
  replace h := h G1 hG1
  refine r_aloadR_n C 0 dX10_frames_118 rfl rfl ?_
  refine r_aloadR_n C 0 dX10_frames_119 rfl rfl ?_
  obtain ⟨ht, h⟩ := h
  refine r_getI C fw_RX10_91 rfl ht dX10_frames_120 ?_
  obtain ⟨ht, h⟩ := h
  refine r_callV C (r := (RX10, TX10, 19)) hL yw_X10_puts vw_RX10_121 rfl rfl ht rfl rfl (Nat.le_of_ble_eq_true rfl) ⟨(Nat.le_of_ble_eq_true rfl), (Nat.le_of_ble_eq_true rfl)⟩ (mX10_puts hfl h) rfl dX10_frames_123 (kV' (fun G2 h => ?_)) kN
  refine r_aloadR_n C 0 dX10_frames_126 rfl rfl ?_
  refine r_aloadR_n C 0 dX10_frames_127 rfl rfl ?_
  obtain ⟨ht, h⟩ := h
  refine r_callV C (r := (RX10, TX10, 19)) hL yw_X10_function vw_RX10_128 rfl rfl ht rfl rfl (Nat.le_of_ble_eq_true rfl) ⟨(Nat.le_of_ble_eq_true rfl), (Nat.le_of_ble_eq_true rfl)⟩ (mX10_function hfl h) rfl dX10_frames_128 (kI (fun r3 G4 h => ?_)) kN
  obtain ⟨ht, h⟩ := h
  refine r_callV C (r := (RX10, TX10, 19)) hL yw_X10_puts vw_RX10_121 rfl rfl ht rfl rfl (Nat.le_of_ble_eq_true rfl) ⟨(Nat.le_of_ble_eq_true rfl), (Nat.le_of_ble_eq_true rfl)⟩ (mX10_puts hfl h) rfl dX10_frames_131 (kV' (fun G5 h => ?_)) kN
  refine r_aloadR_n C 0 dX10_frames_134 rfl rfl ?_
  refine r_aloadR_n C 0 dX10_frames_135 rfl rfl ?_
  obtain ⟨ht, h⟩ := h
  refine r_getI C fw_RX10_108 rfl ht dX10_frames_136 ?_
  obtain ⟨ht, h⟩ := h
  refine r_callV C (r := (RX10, TX10, 19)) hL yw_X10_putsWord vw_RX10_132 rfl rfl ht rfl rfl (Nat.le_of_ble_eq_true rfl) ⟨(Nat.le_of_ble_eq_true rfl), (Nat.le_of_ble_eq_true rfl)⟩ (mX10_putsWord hfl h) rfl dX10_frames_139 (kV' (fun G6 h => ?_)) kN
  refine r_aloadR_n C 0 dX10_frames_142 rfl rfl ?_
  obtain ⟨ht, h⟩ := h
  refine r_callV C (r := (RX10, TX10, 19)) hL yw_X10_function vw_RX10_128 rfl rfl ht rfl rfl (Nat.le_of_ble_eq_true rfl) ⟨(Nat.le_of_ble_eq_true rfl), (Nat.le_of_ble_eq_true rfl)⟩ (mX10_function hfl h) rfl dX10_frames_143 (kI (fun r7 G8 h => ?_)) kN
  refine r_bipush C 6 dX10_frames_146 (by decide) ?_
  refine r_icmp_ne C 164 dX10_frames_148 (by decide) (fun c => ?_) (fun c => ?_)
  · replace h := h.1 c
    refine r_aloadR_n C 0 dX10_frames_164 rfl rfl ?_
    refine r_aloadR_n C 0 dX10_frames_165 rfl rfl ?_
    obtain ⟨ht, h⟩ := h
    refine r_getI C fw_RX10_111 rfl ht dX10_frames_166 ?_
    refine r_aloadR_n C 0 dX10_frames_169 rfl rfl ?_
    obtain ⟨ht, h⟩ := h
    refine r_getI C fw_RX10_108 rfl ht dX10_frames_170 ?_
    refine r_isub C dX10_frames_173 ?_
    obtain ⟨ht, h⟩ := h
    refine r_callV C (r := (RX10, TX10, 19)) hL yw_X10_putsWord vw_RX10_132 rfl rfl ht rfl rfl (Nat.le_of_ble_eq_true rfl) ⟨(Nat.le_of_ble_eq_true rfl), (Nat.le_of_ble_eq_true rfl)⟩ (mX10_putsWord hfl h) rfl dX10_frames_174 (kV' (fun G29 h => ?_)) kN
    exact bX10_frames_177 B h
  · replace h := h.2 c
    refine r_aloadR_n C 0 dX10_frames_151 rfl rfl ?_
    refine r_aloadR_n C 0 dX10_frames_152 rfl rfl ?_
    obtain ⟨ht, h⟩ := h
    obtain ⟨b49, hb, h⟩ := h
    refine r_getR C fw_RX10_19 rfl ht hb dX10_frames_153 ?_
    refine r_iconst C 0 dX10_frames_156 (by decide) ?_
    obtain ⟨ht, hi, h⟩ := h
    refine r_ialdP C ht hi dX10_frames_157 ?_
    obtain ⟨ht, h⟩ := h
    refine r_callV C (r := (RX10, TX10, 19)) hL yw_X10_putsWord vw_RX10_132 rfl rfl ht rfl rfl (Nat.le_of_ble_eq_true rfl) ⟨(Nat.le_of_ble_eq_true rfl), (Nat.le_of_ble_eq_true rfl)⟩ (mX10_putsWord hfl h) rfl dX10_frames_158 (kV' (fun G50 h => ?_)) kN
    refine r_goto C 177 dX10_frames_161 (by decide) ?_
    exact bX10_frames_177 B h
def wX10_frames_25 (X : Xt) (Pr : Gt → Prop) (k5 : Gt → Nat → Int32 → Prop) (k25 : Gt → Nat → Int32 → Int32 → Prop) (G : Gt) (a0 : Nat) (x1 : Int32) (x2 : Int32) : Prop := gT G a0 = (1, 11) ∧ ∃ b1, gR G 352 a0 = some b1 ∧ (gT G b1).1 = 2 ∧ vp_in 6 (gT G b1).2 ∧ ((gA G b1 (6 : Int32).toNatClampNeg) ≤ x2 → k5 G a0 (x1 + 1)) ∧ (¬ ((gA G b1 (6 : Int32).toNatClampNeg) ≤ x2) → gT G a0 = (1, 11) ∧ ∃ b42, gR G 363 a0 = some b42 ∧ gT G a0 = (1, 11) ∧ gT G a0 = (1, 11) ∧ (¬ (lg_cmp (((gJ G 355 a0) >>> ((x2 : Int32).toInt64 &&& 63)) &&& (1 : Int64)) (1 : Int64)) = 0 → gT G a0 = (1, 11) ∧ ∃ b63, gR G 363 a0 = some b63 ∧ gT G a0 = (1, 11) ∧ (gT G b63).1 = 2 ∧ vp_in (x1 - (gI G 357 a0)) (gT G b63).2 ∧ (gT G b42).1 = 2 ∧ vp_in (x1 - (gI G 357 a0)) (gT G b42).2 ∧ ∀ G64, G64 = sA G b42 (upd (gA G b42) (x1 - (gI G 357 a0)).toNatClampNeg (gA G b63 (x1 - (gI G 357 a0)).toNatClampNeg)) → k25 G64 a0 x1 (x2 + 1)) ∧ ((lg_cmp (((gJ G 355 a0) >>> ((x2 : Int32).toInt64 &&& 63)) &&& (1 : Int64)) (1 : Int64)) = 0 → gT G a0 = (1, 11) ∧ ∃ b83, gR G 352 a0 = some b83 ∧ wX10_requestAt X G x2 (fun r84 G85 => (gT G85 b83).1 = 2 ∧ vp_in (r84 + 2) (gT G85 b83).2 ∧ (¬ (gA G85 b83 (r84 + 2).toNatClampNeg) = x1 → gT G85 a0 = (1, 11) ∧ ∃ b106, gR G85 363 a0 = some b106 ∧ gT G85 a0 = (1, 11) ∧ (gT G85 b106).1 = 2 ∧ vp_in (x1 - (gI G85 357 a0)) (gT G85 b106).2 ∧ (gT G85 b42).1 = 2 ∧ vp_in (x1 - (gI G 357 a0)) (gT G85 b42).2 ∧ ∀ G107, G107 = sA G85 b42 (upd (gA G85 b42) (x1 - (gI G 357 a0)).toNatClampNeg (gA G85 b106 (x1 - (gI G85 357 a0)).toNatClampNeg)) → k25 G107 a0 x1 (x2 + 1)) ∧ ((gA G85 b83 (r84 + 2).toNatClampNeg) = x1 → gT G85 a0 = (1, 11) ∧ ∃ b126, gR G85 352 a0 = some b126 ∧ wX10_requestAt X G85 x2 (fun r127 G128 => (gT G128 b126).1 = 2 ∧ vp_in (r127 + 9) (gT G128 b126).2 ∧ (gT G128 b42).1 = 2 ∧ vp_in (x1 - (gI G 357 a0)) (gT G128 b42).2 ∧ ∀ G129, G129 = sA G128 b42 (upd (gA G128 b42) (x1 - (gI G 357 a0)).toNatClampNeg (gA G128 b126 (r127 + 9).toNatClampNeg)) → k25 G129 a0 x1 (x2 + 1))))))
set_option maxRecDepth 20000 in
theorem bX10_frames_25 {X : Xt} {K : Kt} {l : Launch} {G0 : Gt} {Pr : Gt → Prop} (B : BX X K l cX10_frames 3 RX10 2 45 G0 none "frames") {k5 : Gt → Nat → Int32 → Prop} {k25 : Gt → Nat → Int32 → Int32 → Prop} (hk5 : ∀ (G : Gt) (a0 : Nat) (x1 : Int32), k5 G a0 x1 → WM X K (QM X K G0 (rV Pr) noX) G 5 [some (.ref a0), some (.int x1), none] []) (hk25 : ∀ (G : Gt) (a0 : Nat) (x1 : Int32) (x2 : Int32), k25 G a0 x1 x2 → WM X K (QM X K G0 (rV Pr) noX) G 25 [some (.ref a0), some (.int x1), some (.int x2)] []) {G : Gt} {a0 : Nat} {x1 : Int32} {x2 : Int32} (h : wX10_frames_25 X Pr k5 k25 G a0 x1 x2) : WM X K (QM X K G0 (rV Pr) noX) G 25 [some (.ref a0), some (.int x1), some (.int x2)] [] := by
  obtain ⟨hL, C, E0, hr, hnm, hex, hfl⟩ := id B
  unfold wX10_frames_25 at h
  refine r_iload_n C 2 dX10_frames_25 rfl rfl ?_
  refine r_aloadR_n C 0 dX10_frames_26 rfl rfl ?_
  obtain ⟨ht, h⟩ := h
  obtain ⟨b1, hb, h⟩ := h
  refine r_getR C fw_RX10_7 rfl ht hb dX10_frames_27 ?_
  refine r_bipush C 6 dX10_frames_30 (by decide) ?_
  obtain ⟨ht, hi, h⟩ := h
  refine r_ialdP C ht hi dX10_frames_32 ?_
  refine r_icmp_ge C 107 dX10_frames_33 (by decide) (fun c => ?_) (fun c => ?_)
  · replace h := h.1 c
    refine r_iinc C 1 (lv' := [some (.ref a0), some (.int (x1 + 1)), some (.int x2)]) dX10_frames_107 rfl (by decide) rfl rfl ?_
    refine r_goto C 5 dX10_frames_110 (by decide) ?_
    refine r_fg (lv' := [some (.ref a0), some (.int (x1 + 1)), none]) (show fgt _ _ from ⟨rfl, ⟨rfl, trivial⟩⟩) ?_
    exact hk5 _ _ _ h
  · replace h := h.2 c
    refine r_aloadR_n C 0 dX10_frames_36 rfl rfl ?_
    obtain ⟨ht, h⟩ := h
    obtain ⟨b42, hb, h⟩ := h
    refine r_getR C fw_RX10_19 rfl ht hb dX10_frames_37 ?_
    refine r_iload_n C 1 dX10_frames_40 rfl rfl ?_
    refine r_aloadR_n C 0 dX10_frames_41 rfl rfl ?_
    obtain ⟨ht, h⟩ := h
    refine r_getI C fw_RX10_108 rfl ht dX10_frames_42 ?_
    refine r_isub C dX10_frames_45 ?_
    refine r_aloadR_n C 0 dX10_frames_46 rfl rfl ?_
    obtain ⟨ht, h⟩ := h
    refine r_getJ C fw_RX10_94 rfl ht dX10_frames_47 ?_
    refine r_iload_n C 2 dX10_frames_50 rfl rfl ?_
    refine r_lshr C dX10_frames_51 ?_
    refine r_lconst C 1 dX10_frames_52 (by decide) ?_
    refine r_land C dX10_frames_53 ?_
    refine r_lconst C 1 dX10_frames_54 (by decide) ?_
    refine r_lcmp C dX10_frames_55 ?_
    refine r_if_ne C 89 dX10_frames_56 (by decide) (fun c => ?_) (fun c => ?_)
    · replace h := h.1 c
      refine r_aloadR_n C 0 dX10_frames_89 rfl rfl ?_
      obtain ⟨ht, h⟩ := h
      obtain ⟨b63, hb, h⟩ := h
      refine r_getR C fw_RX10_19 rfl ht hb dX10_frames_90 ?_
      refine r_iload_n C 1 dX10_frames_93 rfl rfl ?_
      refine r_aloadR_n C 0 dX10_frames_94 rfl rfl ?_
      obtain ⟨ht, h⟩ := h
      refine r_getI C fw_RX10_108 rfl ht dX10_frames_95 ?_
      refine r_isub C dX10_frames_98 ?_
      obtain ⟨ht, hi, h⟩ := h
      refine r_ialdP C ht hi dX10_frames_99 ?_
      obtain ⟨ht, hi, h⟩ := h
      refine r_iastP C ht hi dX10_frames_100 ?_
      refine r_nm (fun G64 hG64 => ?_)
      replace h := h G64 hG64
      refine r_iinc C 1 (lv' := [some (.ref a0), some (.int x1), some (.int (x2 + 1))]) dX10_frames_101 rfl (by decide) rfl rfl ?_
      refine r_goto C 25 dX10_frames_104 (by decide) ?_
      exact hk25 _ _ _ _ h
    · replace h := h.2 c
      refine r_aloadR_n C 0 dX10_frames_59 rfl rfl ?_
      obtain ⟨ht, h⟩ := h
      obtain ⟨b83, hb, h⟩ := h
      refine r_getR C fw_RX10_7 rfl ht hb dX10_frames_60 ?_
      refine r_iload_n C 2 dX10_frames_63 rfl rfl ?_
      refine r_callS C hL yw_X10_requestAt sw_RX10_61 rfl rfl (Nat.le_of_ble_eq_true rfl) ⟨(Nat.le_of_ble_eq_true rfl), (Nat.le_of_ble_eq_true rfl)⟩ (mX10_requestAt hfl h) rfl dX10_frames_64 (kI (fun r84 G85 h => ?_)) kN
      refine r_iconst C 2 dX10_frames_67 (by decide) ?_
      refine r_iadd C dX10_frames_68 ?_
      obtain ⟨ht, hi, h⟩ := h
      refine r_ialdP C ht hi dX10_frames_69 ?_
      refine r_iload_n C 1 dX10_frames_70 rfl rfl ?_
      refine r_icmp_ne C 89 dX10_frames_71 (by decide) (fun c => ?_) (fun c => ?_)
      · replace h := h.1 c
        refine r_aloadR_n C 0 dX10_frames_89 rfl rfl ?_
        obtain ⟨ht, h⟩ := h
        obtain ⟨b106, hb, h⟩ := h
        refine r_getR C fw_RX10_19 rfl ht hb dX10_frames_90 ?_
        refine r_iload_n C 1 dX10_frames_93 rfl rfl ?_
        refine r_aloadR_n C 0 dX10_frames_94 rfl rfl ?_
        obtain ⟨ht, h⟩ := h
        refine r_getI C fw_RX10_108 rfl ht dX10_frames_95 ?_
        refine r_isub C dX10_frames_98 ?_
        obtain ⟨ht, hi, h⟩ := h
        refine r_ialdP C ht hi dX10_frames_99 ?_
        obtain ⟨ht, hi, h⟩ := h
        refine r_iastP C ht hi dX10_frames_100 ?_
        refine r_nm (fun G107 hG107 => ?_)
        replace h := h G107 hG107
        refine r_iinc C 1 (lv' := [some (.ref a0), some (.int x1), some (.int (x2 + 1))]) dX10_frames_101 rfl (by decide) rfl rfl ?_
        refine r_goto C 25 dX10_frames_104 (by decide) ?_
        exact hk25 _ _ _ _ h
      · replace h := h.2 c
        refine r_aloadR_n C 0 dX10_frames_74 rfl rfl ?_
        obtain ⟨ht, h⟩ := h
        obtain ⟨b126, hb, h⟩ := h
        refine r_getR C fw_RX10_7 rfl ht hb dX10_frames_75 ?_
        refine r_iload_n C 2 dX10_frames_78 rfl rfl ?_
        refine r_callS C hL yw_X10_requestAt sw_RX10_61 rfl rfl (Nat.le_of_ble_eq_true rfl) ⟨(Nat.le_of_ble_eq_true rfl), (Nat.le_of_ble_eq_true rfl)⟩ (mX10_requestAt hfl h) rfl dX10_frames_79 (kI (fun r127 G128 h => ?_)) kN
        refine r_bipush C 9 dX10_frames_82 (by decide) ?_
        refine r_iadd C dX10_frames_84 ?_
        obtain ⟨ht, hi, h⟩ := h
        refine r_ialdP C ht hi dX10_frames_85 ?_
        refine r_goto C 100 dX10_frames_86 (by decide) ?_
        obtain ⟨ht, hi, h⟩ := h
        refine r_iastP C ht hi dX10_frames_100 ?_
        refine r_nm (fun G129 hG129 => ?_)
        replace h := h G129 hG129
        refine r_iinc C 1 (lv' := [some (.ref a0), some (.int x1), some (.int (x2 + 1))]) dX10_frames_101 rfl (by decide) rfl rfl ?_
        refine r_goto C 25 dX10_frames_104 (by decide) ?_
        exact hk25 _ _ _ _ h
theorem lX10_frames_25 {X : Xt} {K : Kt} {l : Launch} {G0 : Gt} {Pr : Gt → Prop} (B : BX X K l cX10_frames 3 RX10 2 45 G0 none "frames") {k5 : Gt → Nat → Int32 → Prop} (hk5 : ∀ (G : Gt) (a0 : Nat) (x1 : Int32), k5 G a0 x1 → WM X K (QM X K G0 (rV Pr) noX) G 5 [some (.ref a0), some (.int x1), none] []) (I : Gt → Nat → Int32 → Int32 → Prop) (μ : Gt → Nat → Int32 → Int32 → Nat) (hS : ∀ (G : Gt) (a0 : Nat) (x1 : Int32) (x2 : Int32), I G a0 x1 x2 → wX10_frames_25 X Pr k5 (fun G' a0' x1' x2' => I G' a0' x1' x2' ∧ μ G' a0' x1' x2' < μ G a0 x1 x2) G a0 x1 x2) : ∀ (n : Nat) (G : Gt) (a0 : Nat) (x1 : Int32) (x2 : Int32), μ G a0 x1 x2 < n → I G a0 x1 x2 → WM X K (QM X K G0 (rV Pr) noX) G 25 [some (.ref a0), some (.int x1), some (.int x2)] [] := by
  intro n
  induction n with
  | zero => intro G a0 x1 x2 hm; exact absurd hm (Nat.not_lt_zero _)
  | succ n ih =>
    intro G a0 x1 x2 hm hi
    exact bX10_frames_25 B hk5 (fun G' a0' x1' x2' hk => ih G' a0' x1' x2' (Nat.lt_of_lt_of_le hk.2 (Nat.le_of_lt_succ hm)) hk.1) (hS G a0 x1 x2 hi)
def wX10_frames_5 (X : Xt) (Pr : Gt → Prop) (k5 : Gt → Nat → Int32 → Prop) (G : Gt) (a0 : Nat) (x1 : Int32) : Prop := gT G a0 = (1, 11) ∧ ((gI G 358 a0) ≤ x1 → wX10_frames_113 X Pr G a0) ∧ (¬ ((gI G 358 a0) ≤ x1) → gT G a0 = (1, 11) ∧ ((gI G 359 a0) = 0 → wX10_frames_113 X Pr G a0) ∧ (¬ ((gI G 359 a0) = 0) → gT G a0 = (1, 11) ∧ ∃ (I : Gt → Nat → Int32 → Int32 → Prop) (μ : Gt → Nat → Int32 → Int32 → Nat), I G a0 x1 (gI G 356 a0) ∧ ∀ (G : Gt) (a0 : Nat) (x1 : Int32) (x2 : Int32), I G a0 x1 x2 → wX10_frames_25 X Pr k5 (fun G' a0' x1' x2' => I G' a0' x1' x2' ∧ μ G' a0' x1' x2' < μ G a0 x1 x2) G a0 x1 x2))
set_option maxRecDepth 20000 in
theorem bX10_frames_5 {X : Xt} {K : Kt} {l : Launch} {G0 : Gt} {Pr : Gt → Prop} (B : BX X K l cX10_frames 3 RX10 2 45 G0 none "frames") {k5 : Gt → Nat → Int32 → Prop} (hk5 : ∀ (G : Gt) (a0 : Nat) (x1 : Int32), k5 G a0 x1 → WM X K (QM X K G0 (rV Pr) noX) G 5 [some (.ref a0), some (.int x1), none] []) {G : Gt} {a0 : Nat} {x1 : Int32} (h : wX10_frames_5 X Pr k5 G a0 x1) : WM X K (QM X K G0 (rV Pr) noX) G 5 [some (.ref a0), some (.int x1), none] [] := by
  obtain ⟨hL, C, E0, hr, hnm, hex, hfl⟩ := id B
  unfold wX10_frames_5 at h
  refine r_iload_n C 1 dX10_frames_5 rfl rfl ?_
  refine r_aloadR_n C 0 dX10_frames_6 rfl rfl ?_
  obtain ⟨ht, h⟩ := h
  refine r_getI C fw_RX10_111 rfl ht dX10_frames_7 ?_
  refine r_icmp_ge C 113 dX10_frames_10 (by decide) (fun c => ?_) (fun c => ?_)
  · replace h := h.1 c
    refine r_fg (lv' := [some (.ref a0), none, none]) (show fgt _ _ from ⟨rfl, trivial⟩) ?_
    exact bX10_frames_113 B h
  · replace h := h.2 c
    refine r_aloadR_n C 0 dX10_frames_13 rfl rfl ?_
    obtain ⟨ht, h⟩ := h
    refine r_getI C fw_RX10_101 rfl ht dX10_frames_14 ?_
    refine r_if_eq C 113 dX10_frames_17 (by decide) (fun c => ?_) (fun c => ?_)
    · replace h := h.1 c
      refine r_fg (lv' := [some (.ref a0), none, none]) (show fgt _ _ from ⟨rfl, trivial⟩) ?_
      exact bX10_frames_113 B h
    · replace h := h.2 c
      refine r_aloadR_n C 0 dX10_frames_20 rfl rfl ?_
      obtain ⟨ht, h⟩ := h
      refine r_getI C fw_RX10_105 rfl ht dX10_frames_21 ?_
      refine r_istore_n C 2 (lv' := [some (.ref a0), some (.int x1), some (.int (gI G 356 a0))]) dX10_frames_24 rfl (Nat.le_of_ble_eq_true rfl) rfl rfl ?_
      obtain ⟨I, μ, hI, hS⟩ := h
      exact lX10_frames_25 B hk5 I μ hS _ _ _ _ _ (Nat.lt_succ_self _) hI
theorem lX10_frames_5 {X : Xt} {K : Kt} {l : Launch} {G0 : Gt} {Pr : Gt → Prop} (B : BX X K l cX10_frames 3 RX10 2 45 G0 none "frames") (I : Gt → Nat → Int32 → Prop) (μ : Gt → Nat → Int32 → Nat) (hS : ∀ (G : Gt) (a0 : Nat) (x1 : Int32), I G a0 x1 → wX10_frames_5 X Pr (fun G' a0' x1' => I G' a0' x1' ∧ μ G' a0' x1' < μ G a0 x1) G a0 x1) : ∀ (n : Nat) (G : Gt) (a0 : Nat) (x1 : Int32), μ G a0 x1 < n → I G a0 x1 → WM X K (QM X K G0 (rV Pr) noX) G 5 [some (.ref a0), some (.int x1), none] [] := by
  intro n
  induction n with
  | zero => intro G a0 x1 hm; exact absurd hm (Nat.not_lt_zero _)
  | succ n ih =>
    intro G a0 x1 hm hi
    exact bX10_frames_5 B (fun G' a0' x1' hk => ih G' a0' x1' (Nat.lt_of_lt_of_le hk.2 (Nat.le_of_lt_succ hm)) hk.1) (hS G a0 x1 hi)
def wX10_frames (X : Xt) (G : Gt) (a0 : Nat) (Pr : Gt → Prop) : Prop := gT G a0 = (1, 11) ∧ ∃ (I : Gt → Nat → Int32 → Prop) (μ : Gt → Nat → Int32 → Nat), I G a0 (gI G 357 a0) ∧ ∀ (G : Gt) (a0 : Nat) (x1 : Int32), I G a0 x1 → wX10_frames_5 X Pr (fun G' a0' x1' => I G' a0' x1' ∧ μ G' a0' x1' < μ G a0 x1) G a0 x1
set_option maxRecDepth 20000 in
theorem mX10_frames {X : Xt} {l : Launch} (hfl : l.stackTraces = false) {G : Gt} {a0 : Nat} {Pr : Gt → Prop} (h : wX10_frames X G a0 Pr) : Mc X l yX10_frames (.code yX10_frames cX10_frames 3 none) 2 45 [.ref a0] G (rV Pr) noX := by
  refine Mc.of (by decide +kernel) hfl [some (.ref a0), none, none] rfl (Nat.le_of_ble_eq_true rfl) rfl ?_
  intro K hL C E0 hr hnm hex
  have B : BX X K l cX10_frames 3 RX10 2 45 G none "frames" := ⟨hL, C, E0, hr, hnm, hex, hfl⟩
  have C : Cx X K cX10_frames 3 RX10 2 45 := C
  unfold wX10_frames at h
  refine r_aloadR_n C 0 dX10_frames_0 rfl rfl ?_
  obtain ⟨ht, h⟩ := h
  refine r_getI C fw_RX10_108 rfl ht dX10_frames_1 ?_
  refine r_istore_n C 1 (lv' := [some (.ref a0), some (.int (gI G 357 a0)), none]) dX10_frames_4 rfl (Nat.le_of_ble_eq_true rfl) rfl rfl ?_
  obtain ⟨I, μ, hI, hS⟩ := h
  exact lX10_frames_5 B I μ hS _ _ _ _ (Nat.lt_succ_self _) hI
def wX10_code_112 (X : Xt) (Pr : Int32 → Gt → Prop) (G : Gt) (x1 : Int32) (x2 : Int32) : Prop := (x1 = 0 → (x2 = 0 → Pr 0 G) ∧ (¬ (x2 = 0) → Pr 3 G)) ∧ (¬ (x1 = 0) → Pr 2 G)
set_option maxRecDepth 20000 in
theorem bX10_code_112 {X : Xt} {K : Kt} {l : Launch} {G0 : Gt} {Pr : Int32 → Gt → Prop} (B : BX X K l cX10_code 4 RX10 1 21 G0 (some (.int)) "code") {G : Gt} {x1 : Int32} {x2 : Int32} (h : wX10_code_112 X Pr G x1 x2) : WM X K (QM X K G0 (rI Pr) noX) G 112 [none, some (.int x1), some (.int x2), none] [] := by
  obtain ⟨hL, C, E0, hr, hnm, hex, hfl⟩ := id B
  unfold wX10_code_112 at h
  refine r_iload_n C 1 dX10_code_112 rfl rfl ?_
  refine r_if_eq C 120 dX10_code_113 (by decide) (fun c => ?_) (fun c => ?_)
  · replace h := h.1 c
    refine r_iload_n C 2 dX10_code_120 rfl rfl ?_
    refine r_if_eq C 128 dX10_code_121 (by decide) (fun c => ?_) (fun c => ?_)
    · replace h := h.1 c
      refine r_iconst C 0 dX10_code_128 (by decide) ?_
      exact r_iret C E0 hr ⟨_, rfl, h⟩ dX10_code_129
    · replace h := h.2 c
      refine r_iconst C 3 dX10_code_124 (by decide) ?_
      refine r_goto C 129 dX10_code_125 (by decide) ?_
      exact r_iret C E0 hr ⟨_, rfl, h⟩ dX10_code_129
  · replace h := h.2 c
    refine r_iconst C 2 dX10_code_116 (by decide) ?_
    refine r_goto C 129 dX10_code_117 (by decide) ?_
    exact r_iret C E0 hr ⟨_, rfl, h⟩ dX10_code_129
def wX10_code_66 (X : Xt) (Pr : Int32 → Gt → Prop) (k22 : Gt → Nat → Int32 → Int32 → Int32 → Prop) (G : Gt) (a0 : Nat) (x2 : Int32) (x3 : Int32) (sx0 : Int32) : Prop := (¬ x2 = 0 → k22 G a0 sx0 (1 : Int32) (x3 + 1)) ∧ (x2 = 0 → gT G a0 = (1, 11) ∧ ∃ b41, gR G 363 a0 = some b41 ∧ gT G a0 = (1, 11) ∧ (gT G b41).1 = 2 ∧ vp_in (x3 - (gI G 357 a0)) (gT G b41).2 ∧ gT G a0 = (1, 11) ∧ ∃ b42, gR G 352 a0 = some b42 ∧ gT G a0 = (1, 11) ∧ (gT G b42).1 = 2 ∧ vp_in ((220 + (gI G 360 a0)) - 1) (gT G b42).2 ∧ ((gA G b41 (x3 - (gI G 357 a0)).toNatClampNeg) ≤ (gA G b42 ((220 + (gI G 360 a0)) - 1).toNatClampNeg) → k22 G a0 sx0 (0 : Int32) (x3 + 1)) ∧ (¬ ((gA G b41 (x3 - (gI G 357 a0)).toNatClampNeg) ≤ (gA G b42 ((220 + (gI G 360 a0)) - 1).toNatClampNeg)) → k22 G a0 sx0 (1 : Int32) (x3 + 1)))
set_option maxRecDepth 20000 in
theorem bX10_code_66 {X : Xt} {K : Kt} {l : Launch} {G0 : Gt} {Pr : Int32 → Gt → Prop} (B : BX X K l cX10_code 4 RX10 1 21 G0 (some (.int)) "code") {k22 : Gt → Nat → Int32 → Int32 → Int32 → Prop} (hk22 : ∀ (G : Gt) (a0 : Nat) (x1 : Int32) (x2 : Int32) (x3 : Int32), k22 G a0 x1 x2 x3 → WM X K (QM X K G0 (rI Pr) noX) G 22 [some (.ref a0), some (.int x1), some (.int x2), some (.int x3)] []) {G : Gt} {a0 : Nat} {x2 : Int32} {x3 : Int32} {sx0 : Int32} (h : wX10_code_66 X Pr k22 G a0 x2 x3 sx0) : WM X K (QM X K G0 (rI Pr) noX) G 66 [some (.ref a0), none, some (.int x2), some (.int x3)] [.int sx0] := by
  obtain ⟨hL, C, E0, hr, hnm, hex, hfl⟩ := id B
  unfold wX10_code_66 at h
  refine r_istore_n C 1 (lv' := [some (.ref a0), some (.int sx0), some (.int x2), some (.int x3)]) dX10_code_66 rfl (Nat.le_of_ble_eq_true rfl) rfl rfl ?_
  refine r_iload_n C 2 dX10_code_67 rfl rfl ?_
  refine r_if_ne C 100 dX10_code_68 (by decide) (fun c => ?_) (fun c => ?_)
  · replace h := h.1 c
    refine r_iconst C 1 dX10_code_100 (by decide) ?_
    refine r_goto C 105 dX10_code_101 (by decide) ?_
    refine r_istore_n C 2 (lv' := [some (.ref a0), some (.int sx0), some (.int 1), some (.int x3)]) dX10_code_105 rfl (Nat.le_of_ble_eq_true rfl) rfl rfl ?_
    refine r_iinc C 1 (lv' := [some (.ref a0), some (.int sx0), some (.int 1), some (.int (x3 + 1))]) dX10_code_106 rfl (by decide) rfl rfl ?_
    refine r_goto C 22 dX10_code_109 (by decide) ?_
    exact hk22 _ _ _ _ _ h
  · replace h := h.2 c
    refine r_aloadR_n C 0 dX10_code_71 rfl rfl ?_
    obtain ⟨ht, h⟩ := h
    obtain ⟨b41, hb, h⟩ := h
    refine r_getR C fw_RX10_19 rfl ht hb dX10_code_72 ?_
    refine r_iload_n C 3 dX10_code_75 rfl rfl ?_
    refine r_aloadR_n C 0 dX10_code_76 rfl rfl ?_
    obtain ⟨ht, h⟩ := h
    refine r_getI C fw_RX10_108 rfl ht dX10_code_77 ?_
    refine r_isub C dX10_code_80 ?_
    obtain ⟨ht, hi, h⟩ := h
    refine r_ialdP C ht hi dX10_code_81 ?_
    refine r_aloadR_n C 0 dX10_code_82 rfl rfl ?_
    obtain ⟨ht, h⟩ := h
    obtain ⟨b42, hb, h⟩ := h
    refine r_getR C fw_RX10_7 rfl ht hb dX10_code_83 ?_
    refine r_sipush C 220 dX10_code_86 (by decide) ?_
    refine r_aloadR_n C 0 dX10_code_89 rfl rfl ?_
    obtain ⟨ht, h⟩ := h
    refine r_getI C fw_RX10_91 rfl ht dX10_code_90 ?_
    refine r_iadd C dX10_code_93 ?_
    refine r_iconst C 1 dX10_code_94 (by decide) ?_
    refine r_isub C dX10_code_95 ?_
    obtain ⟨ht, hi, h⟩ := h
    refine r_ialdP C ht hi dX10_code_96 ?_
    refine r_icmp_le C 104 dX10_code_97 (by decide) (fun c => ?_) (fun c => ?_)
    · replace h := h.1 c
      refine r_iconst C 0 dX10_code_104 (by decide) ?_
      refine r_istore_n C 2 (lv' := [some (.ref a0), some (.int sx0), some (.int 0), some (.int x3)]) dX10_code_105 rfl (Nat.le_of_ble_eq_true rfl) rfl rfl ?_
      refine r_iinc C 1 (lv' := [some (.ref a0), some (.int sx0), some (.int 0), some (.int (x3 + 1))]) dX10_code_106 rfl (by decide) rfl rfl ?_
      refine r_goto C 22 dX10_code_109 (by decide) ?_
      exact hk22 _ _ _ _ _ h
    · replace h := h.2 c
      refine r_iconst C 1 dX10_code_100 (by decide) ?_
      refine r_goto C 105 dX10_code_101 (by decide) ?_
      refine r_istore_n C 2 (lv' := [some (.ref a0), some (.int sx0), some (.int 1), some (.int x3)]) dX10_code_105 rfl (Nat.le_of_ble_eq_true rfl) rfl rfl ?_
      refine r_iinc C 1 (lv' := [some (.ref a0), some (.int sx0), some (.int 1), some (.int (x3 + 1))]) dX10_code_106 rfl (by decide) rfl rfl ?_
      refine r_goto C 22 dX10_code_109 (by decide) ?_
      exact hk22 _ _ _ _ _ h
def wX10_code_22 (X : Xt) (Pr : Int32 → Gt → Prop) (k22 : Gt → Nat → Int32 → Int32 → Int32 → Prop) (G : Gt) (a0 : Nat) (x1 : Int32) (x2 : Int32) (x3 : Int32) : Prop := gT G a0 = (1, 11) ∧ ((gI G 358 a0) ≤ x3 → wX10_code_112 X Pr G x1 x2) ∧ (¬ ((gI G 358 a0) ≤ x3) → (¬ x1 = 0 → wX10_code_112 X Pr G x1 x2) ∧ (x1 = 0 → gT G a0 = (1, 11) ∧ ((gI G 359 a0) = 0 → wX10_code_112 X Pr G x1 x2) ∧ (¬ ((gI G 359 a0) = 0) → gT G a0 = (1, 11) ∧ ∃ b121, gR G 352 a0 = some b121 ∧ gT G a0 = (1, 11) ∧ wX10_registerAt X G (gI G 360 a0) x3 (fun r122 G123 => (gT G123 b121).1 = 2 ∧ vp_in (120 + r122) (gT G123 b121).2 ∧ (¬ (gA G123 b121 (120 + r122).toNatClampNeg) = 1 → wX10_code_66 X Pr k22 G123 a0 x2 x3 (0 : Int32)) ∧ ((gA G123 b121 (120 + r122).toNatClampNeg) = 1 → wX10_code_66 X Pr k22 G123 a0 x2 x3 (1 : Int32))))))
set_option maxRecDepth 20000 in
theorem bX10_code_22 {X : Xt} {K : Kt} {l : Launch} {G0 : Gt} {Pr : Int32 → Gt → Prop} (B : BX X K l cX10_code 4 RX10 1 21 G0 (some (.int)) "code") {k22 : Gt → Nat → Int32 → Int32 → Int32 → Prop} (hk22 : ∀ (G : Gt) (a0 : Nat) (x1 : Int32) (x2 : Int32) (x3 : Int32), k22 G a0 x1 x2 x3 → WM X K (QM X K G0 (rI Pr) noX) G 22 [some (.ref a0), some (.int x1), some (.int x2), some (.int x3)] []) {G : Gt} {a0 : Nat} {x1 : Int32} {x2 : Int32} {x3 : Int32} (h : wX10_code_22 X Pr k22 G a0 x1 x2 x3) : WM X K (QM X K G0 (rI Pr) noX) G 22 [some (.ref a0), some (.int x1), some (.int x2), some (.int x3)] [] := by
  obtain ⟨hL, C, E0, hr, hnm, hex, hfl⟩ := id B
  unfold wX10_code_22 at h
  refine r_iload_n C 3 dX10_code_22 rfl rfl ?_
  refine r_aloadR_n C 0 dX10_code_23 rfl rfl ?_
  obtain ⟨ht, h⟩ := h
  refine r_getI C fw_RX10_111 rfl ht dX10_code_24 ?_
  refine r_icmp_ge C 112 dX10_code_27 (by decide) (fun c => ?_) (fun c => ?_)
  · replace h := h.1 c
    refine r_fg (lv' := [none, some (.int x1), some (.int x2), none]) (show fgt _ _ from ⟨rfl, ⟨rfl, trivial⟩⟩) ?_
    exact bX10_code_112 B h
  · replace h := h.2 c
    refine r_iload_n C 1 dX10_code_30 rfl rfl ?_
    refine r_if_ne C 112 dX10_code_31 (by decide) (fun c => ?_) (fun c => ?_)
    · replace h := h.1 c
      refine r_fg (lv' := [none, some (.int x1), some (.int x2), none]) (show fgt _ _ from ⟨rfl, ⟨rfl, trivial⟩⟩) ?_
      exact bX10_code_112 B h
    · replace h := h.2 c
      refine r_aloadR_n C 0 dX10_code_34 rfl rfl ?_
      obtain ⟨ht, h⟩ := h
      refine r_getI C fw_RX10_101 rfl ht dX10_code_35 ?_
      refine r_if_eq C 112 dX10_code_38 (by decide) (fun c => ?_) (fun c => ?_)
      · replace h := h.1 c
        refine r_fg (lv' := [none, some (.int x1), some (.int x2), none]) (show fgt _ _ from ⟨rfl, ⟨rfl, trivial⟩⟩) ?_
        exact bX10_code_112 B h
      · replace h := h.2 c
        refine r_aloadR_n C 0 dX10_code_41 rfl rfl ?_
        obtain ⟨ht, h⟩ := h
        obtain ⟨b121, hb, h⟩ := h
        refine r_getR C fw_RX10_7 rfl ht hb dX10_code_42 ?_
        refine r_bipush C 120 dX10_code_45 (by decide) ?_
        refine r_aloadR_n C 0 dX10_code_47 rfl rfl ?_
        obtain ⟨ht, h⟩ := h
        refine r_getI C fw_RX10_91 rfl ht dX10_code_48 ?_
        refine r_iload_n C 3 dX10_code_51 rfl rfl ?_
        refine r_callS C hL yw_X10_registerAt sw_RX10_55 rfl rfl (Nat.le_of_ble_eq_true rfl) ⟨(Nat.le_of_ble_eq_true rfl), (Nat.le_of_ble_eq_true rfl)⟩ (mX10_registerAt hfl h) rfl dX10_code_52 (kI (fun r122 G123 h => ?_)) kN
        refine r_iadd C dX10_code_55 ?_
        obtain ⟨ht, hi, h⟩ := h
        refine r_ialdP C ht hi dX10_code_56 ?_
        refine r_iconst C 1 dX10_code_57 (by decide) ?_
        refine r_icmp_ne C 65 dX10_code_58 (by decide) (fun c => ?_) (fun c => ?_)
        · replace h := h.1 c
          refine r_iconst C 0 dX10_code_65 (by decide) ?_
          refine r_fg (lv' := [some (.ref a0), none, some (.int x2), some (.int x3)]) (show fgt _ _ from ⟨rfl, ⟨rfl, ⟨rfl, trivial⟩⟩⟩) ?_
          exact bX10_code_66 B hk22 h
        · replace h := h.2 c
          refine r_iconst C 1 dX10_code_61 (by decide) ?_
          refine r_goto C 66 dX10_code_62 (by decide) ?_
          refine r_fg (lv' := [some (.ref a0), none, some (.int x2), some (.int x3)]) (show fgt _ _ from ⟨rfl, ⟨rfl, ⟨rfl, trivial⟩⟩⟩) ?_
          exact bX10_code_66 B hk22 h
theorem lX10_code_22 {X : Xt} {K : Kt} {l : Launch} {G0 : Gt} {Pr : Int32 → Gt → Prop} (B : BX X K l cX10_code 4 RX10 1 21 G0 (some (.int)) "code") (I : Gt → Nat → Int32 → Int32 → Int32 → Prop) (μ : Gt → Nat → Int32 → Int32 → Int32 → Nat) (hS : ∀ (G : Gt) (a0 : Nat) (x1 : Int32) (x2 : Int32) (x3 : Int32), I G a0 x1 x2 x3 → wX10_code_22 X Pr (fun G' a0' x1' x2' x3' => I G' a0' x1' x2' x3' ∧ μ G' a0' x1' x2' x3' < μ G a0 x1 x2 x3) G a0 x1 x2 x3) : ∀ (n : Nat) (G : Gt) (a0 : Nat) (x1 : Int32) (x2 : Int32) (x3 : Int32), μ G a0 x1 x2 x3 < n → I G a0 x1 x2 x3 → WM X K (QM X K G0 (rI Pr) noX) G 22 [some (.ref a0), some (.int x1), some (.int x2), some (.int x3)] [] := by
  intro n
  induction n with
  | zero => intro G a0 x1 x2 x3 hm; exact absurd hm (Nat.not_lt_zero _)
  | succ n ih =>
    intro G a0 x1 x2 x3 hm hi
    exact bX10_code_22 B (fun G' a0' x1' x2' x3' hk => ih G' a0' x1' x2' x3' (Nat.lt_of_lt_of_le hk.2 (Nat.le_of_lt_succ hm)) hk.1) (hS G a0 x1 x2 x3 hi)
def wX10_code (X : Xt) (G : Gt) (a0 : Nat) (Pr : Int32 → Gt → Prop) : Prop := gT G a0 = (1, 11) ∧ ((gI G 358 a0) ≤ 32 → gT G a0 = (1, 11) ∧ ∃ (I : Gt → Nat → Int32 → Int32 → Int32 → Prop) (μ : Gt → Nat → Int32 → Int32 → Int32 → Nat), I G a0 (0 : Int32) (0 : Int32) (gI G 357 a0) ∧ ∀ (G : Gt) (a0 : Nat) (x1 : Int32) (x2 : Int32) (x3 : Int32), I G a0 x1 x2 x3 → wX10_code_22 X Pr (fun G' a0' x1' x2' x3' => I G' a0' x1' x2' x3' ∧ μ G' a0' x1' x2' x3' < μ G a0 x1 x2 x3) G a0 x1 x2 x3) ∧ (¬ ((gI G 358 a0) ≤ 32) → gT G a0 = (1, 11) ∧ ∃ (I : Gt → Nat → Int32 → Int32 → Int32 → Prop) (μ : Gt → Nat → Int32 → Int32 → Int32 → Nat), I G a0 (1 : Int32) (0 : Int32) (gI G 357 a0) ∧ ∀ (G : Gt) (a0 : Nat) (x1 : Int32) (x2 : Int32) (x3 : Int32), I G a0 x1 x2 x3 → wX10_code_22 X Pr (fun G' a0' x1' x2' x3' => I G' a0' x1' x2' x3' ∧ μ G' a0' x1' x2' x3' < μ G a0 x1 x2 x3) G a0 x1 x2 x3)
set_option maxRecDepth 20000 in
theorem mX10_code {X : Xt} {l : Launch} (hfl : l.stackTraces = false) {G : Gt} {a0 : Nat} {Pr : Int32 → Gt → Prop} (h : wX10_code X G a0 Pr) : Mc X l yX10_code (.code yX10_code cX10_code 4 (some (.int))) 1 21 [.ref a0] G (rI Pr) noX := by
  refine Mc.of (by decide +kernel) hfl [some (.ref a0), none, none, none] rfl (Nat.le_of_ble_eq_true rfl) rfl ?_
  intro K hL C E0 hr hnm hex
  have B : BX X K l cX10_code 4 RX10 1 21 G (some (.int)) "code" := ⟨hL, C, E0, hr, hnm, hex, hfl⟩
  have C : Cx X K cX10_code 4 RX10 1 21 := C
  unfold wX10_code at h
  refine r_aloadR_n C 0 dX10_code_0 rfl rfl ?_
  obtain ⟨ht, h⟩ := h
  refine r_getI C fw_RX10_111 rfl ht dX10_code_1 ?_
  refine r_bipush C 32 dX10_code_4 (by decide) ?_
  refine r_icmp_le C 13 dX10_code_6 (by decide) (fun c => ?_) (fun c => ?_)
  · replace h := h.1 c
    refine r_iconst C 0 dX10_code_13 (by decide) ?_
    refine r_istore_n C 1 (lv' := [some (.ref a0), some (.int 0), none, none]) dX10_code_14 rfl (Nat.le_of_ble_eq_true rfl) rfl rfl ?_
    refine r_iconst C 0 dX10_code_15 (by decide) ?_
    refine r_istore_n C 2 (lv' := [some (.ref a0), some (.int 0), some (.int 0), none]) dX10_code_16 rfl (Nat.le_of_ble_eq_true rfl) rfl rfl ?_
    refine r_aloadR_n C 0 dX10_code_17 rfl rfl ?_
    obtain ⟨ht, h⟩ := h
    refine r_getI C fw_RX10_108 rfl ht dX10_code_18 ?_
    refine r_istore_n C 3 (lv' := [some (.ref a0), some (.int 0), some (.int 0), some (.int (gI G 357 a0))]) dX10_code_21 rfl (Nat.le_of_ble_eq_true rfl) rfl rfl ?_
    obtain ⟨I, μ, hI, hS⟩ := h
    exact lX10_code_22 B I μ hS _ _ _ _ _ _ (Nat.lt_succ_self _) hI
  · replace h := h.2 c
    refine r_iconst C 1 dX10_code_9 (by decide) ?_
    refine r_goto C 14 dX10_code_10 (by decide) ?_
    refine r_istore_n C 1 (lv' := [some (.ref a0), some (.int 1), none, none]) dX10_code_14 rfl (Nat.le_of_ble_eq_true rfl) rfl rfl ?_
    refine r_iconst C 0 dX10_code_15 (by decide) ?_
    refine r_istore_n C 2 (lv' := [some (.ref a0), some (.int 1), some (.int 0), none]) dX10_code_16 rfl (Nat.le_of_ble_eq_true rfl) rfl rfl ?_
    refine r_aloadR_n C 0 dX10_code_17 rfl rfl ?_
    obtain ⟨ht, h⟩ := h
    refine r_getI C fw_RX10_108 rfl ht dX10_code_18 ?_
    refine r_istore_n C 3 (lv' := [some (.ref a0), some (.int 1), some (.int 0), some (.int (gI G 357 a0))]) dX10_code_21 rfl (Nat.le_of_ble_eq_true rfl) rfl rfl ?_
    obtain ⟨I, μ, hI, hS⟩ := h
    exact lX10_code_22 B I μ hS _ _ _ _ _ _ (Nat.lt_succ_self _) hI
def wX10_repliesWith_74 (X : Xt) (Pr : Gt → Prop) (k74 : Gt → Nat → Int32 → Prop) (G : Gt) (a0 : Nat) (x2 : Int32) : Prop := gT G a0 = (1, 11) ∧ ((gI G 358 a0) ≤ x2 → gT G a0 = (1, 11) ∧ wX10_seals X G a0 (fun G21 => Pr G21)) ∧ (¬ ((gI G 358 a0) ≤ x2) → gT G a0 = (1, 11) ∧ ∃ b41, gR G 352 a0 = some b41 ∧ gT G a0 = (1, 11) ∧ wX10_registerAt X G (gI G 360 a0) x2 (fun r42 G43 => (gT G43 b41).1 = 2 ∧ vp_in (20 + r42) (gT G43 b41).2 ∧ gT G43 a0 = (1, 11) ∧ wX10_putsWord X G43 a0 (gA G43 b41 (20 + r42).toNatClampNeg) (fun G44 => k74 G44 a0 (x2 + 1))))
set_option maxRecDepth 20000 in
theorem bX10_repliesWith_74 {X : Xt} {K : Kt} {l : Launch} {G0 : Gt} {Pr : Gt → Prop} (B : BX X K l cX10_repliesWith 3 RX10 2 45 G0 none "repliesWith") {k74 : Gt → Nat → Int32 → Prop} (hk74 : ∀ (G : Gt) (a0 : Nat) (x2 : Int32), k74 G a0 x2 → WM X K (QM X K G0 (rV Pr) noX) G 74 [some (.ref a0), none, some (.int x2)] []) {G : Gt} {a0 : Nat} {x2 : Int32} (h : wX10_repliesWith_74 X Pr k74 G a0 x2) : WM X K (QM X K G0 (rV Pr) noX) G 74 [some (.ref a0), none, some (.int x2)] [] := by
  obtain ⟨hL, C, E0, hr, hnm, hex, hfl⟩ := id B
  unfold wX10_repliesWith_74 at h
  refine r_iload_n C 2 dX10_repliesWith_74 rfl rfl ?_
  refine r_aloadR_n C 0 dX10_repliesWith_75 rfl rfl ?_
  obtain ⟨ht, h⟩ := h
  refine r_getI C fw_RX10_111 rfl ht dX10_repliesWith_76 ?_
  refine r_icmp_ge C 108 dX10_repliesWith_79 (by decide) (fun c => ?_) (fun c => ?_)
  · replace h := h.1 c
    refine r_goto C 150 dX10_repliesWith_108 (by decide) ?_
    refine r_aloadR_n C 0 dX10_repliesWith_150 rfl rfl ?_
    obtain ⟨ht, h⟩ := h
    refine r_callV C (r := (RX10, TX10, 19)) hL yw_X10_seals vw_RX10_135 rfl rfl ht rfl rfl (Nat.le_of_ble_eq_true rfl) ⟨(Nat.le_of_ble_eq_true rfl), (Nat.le_of_ble_eq_true rfl)⟩ (mX10_seals hfl h) rfl dX10_repliesWith_151 (kV' (fun G21 h => ?_)) kN
    exact r_vret C E0 hr ⟨rfl, h⟩ dX10_repliesWith_154
  · replace h := h.2 c
    refine r_aloadR_n C 0 dX10_repliesWith_82 rfl rfl ?_
    refine r_aloadR_n C 0 dX10_repliesWith_83 rfl rfl ?_
    obtain ⟨ht, h⟩ := h
    obtain ⟨b41, hb, h⟩ := h
    refine r_getR C fw_RX10_7 rfl ht hb dX10_repliesWith_84 ?_
    refine r_bipush C 20 dX10_repliesWith_87 (by decide) ?_
    refine r_aloadR_n C 0 dX10_repliesWith_89 rfl rfl ?_
    obtain ⟨ht, h⟩ := h
    refine r_getI C fw_RX10_91 rfl ht dX10_repliesWith_90 ?_
    refine r_iload_n C 2 dX10_repliesWith_93 rfl rfl ?_
    refine r_callS C hL yw_X10_registerAt sw_RX10_55 rfl rfl (Nat.le_of_ble_eq_true rfl) ⟨(Nat.le_of_ble_eq_true rfl), (Nat.le_of_ble_eq_true rfl)⟩ (mX10_registerAt hfl h) rfl dX10_repliesWith_94 (kI (fun r42 G43 h => ?_)) kN
    refine r_iadd C dX10_repliesWith_97 ?_
    obtain ⟨ht, hi, h⟩ := h
    refine r_ialdP C ht hi dX10_repliesWith_98 ?_
    obtain ⟨ht, h⟩ := h
    refine r_callV C (r := (RX10, TX10, 19)) hL yw_X10_putsWord vw_RX10_132 rfl rfl ht rfl rfl (Nat.le_of_ble_eq_true rfl) ⟨(Nat.le_of_ble_eq_true rfl), (Nat.le_of_ble_eq_true rfl)⟩ (mX10_putsWord hfl h) rfl dX10_repliesWith_99 (kV' (fun G44 h => ?_)) kN
    refine r_iinc C 1 (lv' := [some (.ref a0), none, some (.int (x2 + 1))]) dX10_repliesWith_102 rfl (by decide) rfl rfl ?_
    refine r_goto C 74 dX10_repliesWith_105 (by decide) ?_
    exact hk74 _ _ _ h
theorem lX10_repliesWith_74 {X : Xt} {K : Kt} {l : Launch} {G0 : Gt} {Pr : Gt → Prop} (B : BX X K l cX10_repliesWith 3 RX10 2 45 G0 none "repliesWith") (I : Gt → Nat → Int32 → Prop) (μ : Gt → Nat → Int32 → Nat) (hS : ∀ (G : Gt) (a0 : Nat) (x2 : Int32), I G a0 x2 → wX10_repliesWith_74 X Pr (fun G' a0' x2' => I G' a0' x2' ∧ μ G' a0' x2' < μ G a0 x2) G a0 x2) : ∀ (n : Nat) (G : Gt) (a0 : Nat) (x2 : Int32), μ G a0 x2 < n → I G a0 x2 → WM X K (QM X K G0 (rV Pr) noX) G 74 [some (.ref a0), none, some (.int x2)] [] := by
  intro n
  induction n with
  | zero => intro G a0 x2 hm; exact absurd hm (Nat.not_lt_zero _)
  | succ n ih =>
    intro G a0 x2 hm hi
    exact bX10_repliesWith_74 B (fun G' a0' x2' hk => ih G' a0' x2' (Nat.lt_of_lt_of_le hk.2 (Nat.le_of_lt_succ hm)) hk.1) (hS G a0 x2 hi)
def wX10_repliesWith (X : Xt) (G : Gt) (a0 : Nat) (x1 : Int32) (Pr : Gt → Prop) : Prop := gT G a0 = (1, 11) ∧ ∀ G1, G1 = sI G 362 a0 0 → gT G1 a0 = (1, 11) ∧ gT G1 a0 = (1, 11) ∧ wX10_puts X G1 a0 (gI G1 360 a0) (fun G2 => (x1 ≤ 0 → gT G2 a0 = (1, 11) ∧ wX10_function X G2 a0 (fun r23 G24 => gT G24 a0 = (1, 11) ∧ wX10_puts X G24 a0 r23 (fun G25 => gT G25 a0 = (1, 11) ∧ (¬ (gI G25 359 a0) = 0 → gT G25 a0 = (1, 11) ∧ gT G25 a0 = (1, 11) ∧ wX10_putsWord X G25 a0 (gI G25 357 a0) (fun G46 => gT G46 a0 = (1, 11) ∧ wX10_function X G46 a0 (fun r47 G48 => (¬ r47 = 6 → gT G48 a0 = (1, 11) ∧ gT G48 a0 = (1, 11) ∧ gT G48 a0 = (1, 11) ∧ wX10_putsWord X G48 a0 ((gI G48 358 a0) - (gI G48 357 a0)) (fun G69 => gT G69 a0 = (1, 11) ∧ wX10_seals X G69 a0 (fun G70 => Pr G70))) ∧ (r47 = 6 → gT G48 a0 = (1, 11) ∧ ∃ b89, gR G48 363 a0 = some b89 ∧ (gT G48 b89).1 = 2 ∧ vp_in 0 (gT G48 b89).2 ∧ gT G48 a0 = (1, 11) ∧ wX10_putsWord X G48 a0 (gA G48 b89 (0 : Int32).toNatClampNeg) (fun G90 => gT G90 a0 = (1, 11) ∧ wX10_seals X G90 a0 (fun G91 => Pr G91)))))) ∧ ((gI G25 359 a0) = 0 → gT G25 a0 = (1, 11) ∧ gT G25 a0 = (1, 11) ∧ gT G25 a0 = (1, 11) ∧ wX10_puts X G25 a0 (2 * ((gI G25 358 a0) - (gI G25 357 a0))) (fun G66 => gT G66 a0 = (1, 11) ∧ ∃ (I : Gt → Nat → Int32 → Prop) (μ : Gt → Nat → Int32 → Nat), I G66 a0 (gI G66 357 a0) ∧ ∀ (G : Gt) (a0 : Nat) (x2 : Int32), I G a0 x2 → wX10_repliesWith_74 X Pr (fun G' a0' x2' => I G' a0' x2' ∧ μ G' a0' x2' < μ G a0 x2) G a0 x2))))) ∧ (¬ (x1 ≤ 0) → gT G2 a0 = (1, 11) ∧ wX10_function X G2 a0 (fun r43 G44 => gT G44 a0 = (1, 11) ∧ wX10_puts X G44 a0 (r43 + 128) (fun G45 => gT G45 a0 = (1, 11) ∧ wX10_puts X G45 a0 x1 (fun G46 => gT G46 a0 = (1, 11) ∧ wX10_seals X G46 a0 (fun G47 => Pr G47))))))
set_option maxRecDepth 20000 in
theorem mX10_repliesWith {X : Xt} {l : Launch} (hfl : l.stackTraces = false) {G : Gt} {a0 : Nat} {x1 : Int32} {Pr : Gt → Prop} (h : wX10_repliesWith X G a0 x1 Pr) : Mc X l yX10_repliesWith (.code yX10_repliesWith cX10_repliesWith 3 none) 2 45 [.ref a0, .int x1] G (rV Pr) noX := by
  refine Mc.of (by decide +kernel) hfl [some (.ref a0), some (.int x1), none] rfl (Nat.le_of_ble_eq_true rfl) rfl ?_
  intro K hL C E0 hr hnm hex
  have B : BX X K l cX10_repliesWith 3 RX10 2 45 G none "repliesWith" := ⟨hL, C, E0, hr, hnm, hex, hfl⟩
  have C : Cx X K cX10_repliesWith 3 RX10 2 45 := C
  unfold wX10_repliesWith at h
  refine r_aloadR_n C 0 dX10_repliesWith_0 rfl rfl ?_
  refine r_iconst C 0 dX10_repliesWith_1 (by decide) ?_
  obtain ⟨ht, h⟩ := h
  refine r_putI C cw_11 fp_RX10_118 rfl ht dX10_repliesWith_2 ?_
  refine r_nm (fun G1 hG1 => ?_)
  replace h := h G1 hG1
  refine r_aloadR_n C 0 dX10_repliesWith_5 rfl rfl ?_
  refine r_aloadR_n C 0 dX10_repliesWith_6 rfl rfl ?_
  obtain ⟨ht, h⟩ := h
  refine r_getI C fw_RX10_91 rfl ht dX10_repliesWith_7 ?_
  obtain ⟨ht, h⟩ := h
  refine r_callV C (r := (RX10, TX10, 19)) hL yw_X10_puts vw_RX10_121 rfl rfl ht rfl rfl (Nat.le_of_ble_eq_true rfl) ⟨(Nat.le_of_ble_eq_true rfl), (Nat.le_of_ble_eq_true rfl)⟩ (mX10_puts hfl h) rfl dX10_repliesWith_10 (kV' (fun G2 h => ?_)) kN
  refine r_iload_n C 1 dX10_repliesWith_13 rfl rfl ?_
  refine r_if_le C 39 dX10_repliesWith_14 (by decide) (fun c => ?_) (fun c => ?_)
  · replace h := h.1 c
    refine r_aloadR_n C 0 dX10_repliesWith_39 rfl rfl ?_
    refine r_aloadR_n C 0 dX10_repliesWith_40 rfl rfl ?_
    obtain ⟨ht, h⟩ := h
    refine r_callV C (r := (RX10, TX10, 19)) hL yw_X10_function vw_RX10_128 rfl rfl ht rfl rfl (Nat.le_of_ble_eq_true rfl) ⟨(Nat.le_of_ble_eq_true rfl), (Nat.le_of_ble_eq_true rfl)⟩ (mX10_function hfl h) rfl dX10_repliesWith_41 (kI (fun r23 G24 h => ?_)) kN
    obtain ⟨ht, h⟩ := h
    refine r_callV C (r := (RX10, TX10, 19)) hL yw_X10_puts vw_RX10_121 rfl rfl ht rfl rfl (Nat.le_of_ble_eq_true rfl) ⟨(Nat.le_of_ble_eq_true rfl), (Nat.le_of_ble_eq_true rfl)⟩ (mX10_puts hfl h) rfl dX10_repliesWith_44 (kV' (fun G25 h => ?_)) kN
    refine r_aloadR_n C 0 dX10_repliesWith_47 rfl rfl ?_
    obtain ⟨ht, h⟩ := h
    refine r_getI C fw_RX10_101 rfl ht dX10_repliesWith_48 ?_
    refine r_if_ne C 111 dX10_repliesWith_51 (by decide) (fun c => ?_) (fun c => ?_)
    · replace h := h.1 c
      refine r_aloadR_n C 0 dX10_repliesWith_111 rfl rfl ?_
      refine r_aloadR_n C 0 dX10_repliesWith_112 rfl rfl ?_
      obtain ⟨ht, h⟩ := h
      refine r_getI C fw_RX10_108 rfl ht dX10_repliesWith_113 ?_
      obtain ⟨ht, h⟩ := h
      refine r_callV C (r := (RX10, TX10, 19)) hL yw_X10_putsWord vw_RX10_132 rfl rfl ht rfl rfl (Nat.le_of_ble_eq_true rfl) ⟨(Nat.le_of_ble_eq_true rfl), (Nat.le_of_ble_eq_true rfl)⟩ (mX10_putsWord hfl h) rfl dX10_repliesWith_116 (kV' (fun G46 h => ?_)) kN
      refine r_aloadR_n C 0 dX10_repliesWith_119 rfl rfl ?_
      refine r_aloadR_n C 0 dX10_repliesWith_120 rfl rfl ?_
      obtain ⟨ht, h⟩ := h
      refine r_callV C (r := (RX10, TX10, 19)) hL yw_X10_function vw_RX10_128 rfl rfl ht rfl rfl (Nat.le_of_ble_eq_true rfl) ⟨(Nat.le_of_ble_eq_true rfl), (Nat.le_of_ble_eq_true rfl)⟩ (mX10_function hfl h) rfl dX10_repliesWith_121 (kI (fun r47 G48 h => ?_)) kN
      refine r_bipush C 6 dX10_repliesWith_124 (by decide) ?_
      refine r_icmp_ne C 138 dX10_repliesWith_126 (by decide) (fun c => ?_) (fun c => ?_)
      · replace h := h.1 c
        refine r_aloadR_n C 0 dX10_repliesWith_138 rfl rfl ?_
        obtain ⟨ht, h⟩ := h
        refine r_getI C fw_RX10_111 rfl ht dX10_repliesWith_139 ?_
        refine r_aloadR_n C 0 dX10_repliesWith_142 rfl rfl ?_
        obtain ⟨ht, h⟩ := h
        refine r_getI C fw_RX10_108 rfl ht dX10_repliesWith_143 ?_
        refine r_isub C dX10_repliesWith_146 ?_
        obtain ⟨ht, h⟩ := h
        refine r_callV C (r := (RX10, TX10, 19)) hL yw_X10_putsWord vw_RX10_132 rfl rfl ht rfl rfl (Nat.le_of_ble_eq_true rfl) ⟨(Nat.le_of_ble_eq_true rfl), (Nat.le_of_ble_eq_true rfl)⟩ (mX10_putsWord hfl h) rfl dX10_repliesWith_147 (kV' (fun G69 h => ?_)) kN
        refine r_aloadR_n C 0 dX10_repliesWith_150 rfl rfl ?_
        obtain ⟨ht, h⟩ := h
        refine r_callV C (r := (RX10, TX10, 19)) hL yw_X10_seals vw_RX10_135 rfl rfl ht rfl rfl (Nat.le_of_ble_eq_true rfl) ⟨(Nat.le_of_ble_eq_true rfl), (Nat.le_of_ble_eq_true rfl)⟩ (mX10_seals hfl h) rfl dX10_repliesWith_151 (kV' (fun G70 h => ?_)) kN
        exact r_vret C E0 hr ⟨rfl, h⟩ dX10_repliesWith_154
      · replace h := h.2 c
        refine r_aloadR_n C 0 dX10_repliesWith_129 rfl rfl ?_
        obtain ⟨ht, h⟩ := h
        obtain ⟨b89, hb, h⟩ := h
        refine r_getR C fw_RX10_19 rfl ht hb dX10_repliesWith_130 ?_
        refine r_iconst C 0 dX10_repliesWith_133 (by decide) ?_
        obtain ⟨ht, hi, h⟩ := h
        refine r_ialdP C ht hi dX10_repliesWith_134 ?_
        refine r_goto C 147 dX10_repliesWith_135 (by decide) ?_
        obtain ⟨ht, h⟩ := h
        refine r_callV C (r := (RX10, TX10, 19)) hL yw_X10_putsWord vw_RX10_132 rfl rfl ht rfl rfl (Nat.le_of_ble_eq_true rfl) ⟨(Nat.le_of_ble_eq_true rfl), (Nat.le_of_ble_eq_true rfl)⟩ (mX10_putsWord hfl h) rfl dX10_repliesWith_147 (kV' (fun G90 h => ?_)) kN
        refine r_aloadR_n C 0 dX10_repliesWith_150 rfl rfl ?_
        obtain ⟨ht, h⟩ := h
        refine r_callV C (r := (RX10, TX10, 19)) hL yw_X10_seals vw_RX10_135 rfl rfl ht rfl rfl (Nat.le_of_ble_eq_true rfl) ⟨(Nat.le_of_ble_eq_true rfl), (Nat.le_of_ble_eq_true rfl)⟩ (mX10_seals hfl h) rfl dX10_repliesWith_151 (kV' (fun G91 h => ?_)) kN
        exact r_vret C E0 hr ⟨rfl, h⟩ dX10_repliesWith_154
    · replace h := h.2 c
      refine r_aloadR_n C 0 dX10_repliesWith_54 rfl rfl ?_
      refine r_iconst C 2 dX10_repliesWith_55 (by decide) ?_
      refine r_aloadR_n C 0 dX10_repliesWith_56 rfl rfl ?_
      obtain ⟨ht, h⟩ := h
      refine r_getI C fw_RX10_111 rfl ht dX10_repliesWith_57 ?_
      refine r_aloadR_n C 0 dX10_repliesWith_60 rfl rfl ?_
      obtain ⟨ht, h⟩ := h
      refine r_getI C fw_RX10_108 rfl ht dX10_repliesWith_61 ?_
      refine r_isub C dX10_repliesWith_64 ?_
      refine r_imul C dX10_repliesWith_65 ?_
      obtain ⟨ht, h⟩ := h
      refine r_callV C (r := (RX10, TX10, 19)) hL yw_X10_puts vw_RX10_121 rfl rfl ht rfl rfl (Nat.le_of_ble_eq_true rfl) ⟨(Nat.le_of_ble_eq_true rfl), (Nat.le_of_ble_eq_true rfl)⟩ (mX10_puts hfl h) rfl dX10_repliesWith_66 (kV' (fun G66 h => ?_)) kN
      refine r_aloadR_n C 0 dX10_repliesWith_69 rfl rfl ?_
      obtain ⟨ht, h⟩ := h
      refine r_getI C fw_RX10_108 rfl ht dX10_repliesWith_70 ?_
      refine r_istore_n C 2 (lv' := [some (.ref a0), some (.int x1), some (.int (gI G66 357 a0))]) dX10_repliesWith_73 rfl (Nat.le_of_ble_eq_true rfl) rfl rfl ?_
      refine r_fg (lv' := [some (.ref a0), none, some (.int (gI G66 357 a0))]) (show fgt _ _ from ⟨rfl, ⟨rfl, trivial⟩⟩) ?_
      obtain ⟨I, μ, hI, hS⟩ := h
      exact lX10_repliesWith_74 B I μ hS _ _ _ _ (Nat.lt_succ_self _) hI
  · replace h := h.2 c
    refine r_aloadR_n C 0 dX10_repliesWith_17 rfl rfl ?_
    refine r_aloadR_n C 0 dX10_repliesWith_18 rfl rfl ?_
    obtain ⟨ht, h⟩ := h
    refine r_callV C (r := (RX10, TX10, 19)) hL yw_X10_function vw_RX10_128 rfl rfl ht rfl rfl (Nat.le_of_ble_eq_true rfl) ⟨(Nat.le_of_ble_eq_true rfl), (Nat.le_of_ble_eq_true rfl)⟩ (mX10_function hfl h) rfl dX10_repliesWith_19 (kI (fun r43 G44 h => ?_)) kN
    refine r_sipush C 128 dX10_repliesWith_22 (by decide) ?_
    refine r_iadd C dX10_repliesWith_25 ?_
    obtain ⟨ht, h⟩ := h
    refine r_callV C (r := (RX10, TX10, 19)) hL yw_X10_puts vw_RX10_121 rfl rfl ht rfl rfl (Nat.le_of_ble_eq_true rfl) ⟨(Nat.le_of_ble_eq_true rfl), (Nat.le_of_ble_eq_true rfl)⟩ (mX10_puts hfl h) rfl dX10_repliesWith_26 (kV' (fun G45 h => ?_)) kN
    refine r_aloadR_n C 0 dX10_repliesWith_29 rfl rfl ?_
    refine r_iload_n C 1 dX10_repliesWith_30 rfl rfl ?_
    obtain ⟨ht, h⟩ := h
    refine r_callV C (r := (RX10, TX10, 19)) hL yw_X10_puts vw_RX10_121 rfl rfl ht rfl rfl (Nat.le_of_ble_eq_true rfl) ⟨(Nat.le_of_ble_eq_true rfl), (Nat.le_of_ble_eq_true rfl)⟩ (mX10_puts hfl h) rfl dX10_repliesWith_31 (kV' (fun G46 h => ?_)) kN
    refine r_aloadR_n C 0 dX10_repliesWith_34 rfl rfl ?_
    obtain ⟨ht, h⟩ := h
    refine r_callV C (r := (RX10, TX10, 19)) hL yw_X10_seals vw_RX10_135 rfl rfl ht rfl rfl (Nat.le_of_ble_eq_true rfl) ⟨(Nat.le_of_ble_eq_true rfl), (Nat.le_of_ble_eq_true rfl)⟩ (mX10_seals hfl h) rfl dX10_repliesWith_35 (kV' (fun G47 h => ?_)) kN
    exact r_vret C E0 hr ⟨rfl, h⟩ dX10_repliesWith_38
def wX10_does_5 (X : Xt) (Pr : Gt → Prop) (k5 : Gt → Nat → Int32 → Prop) (G : Gt) (a0 : Nat) (x1 : Int32) : Prop := gT G a0 = (1, 11) ∧ ((gI G 358 a0) ≤ x1 → Pr G) ∧ (¬ ((gI G 358 a0) ≤ x1) → gT G a0 = (1, 11) ∧ ((gI G 359 a0) = 0 → Pr G) ∧ (¬ ((gI G 359 a0) = 0) → gT G a0 = (1, 11) ∧ ∃ b81, gR G 352 a0 = some b81 ∧ gT G a0 = (1, 11) ∧ wX10_registerAt X G (gI G 360 a0) x1 (fun r82 G83 => gT G83 a0 = (1, 11) ∧ ∃ b84, gR G83 363 a0 = some b84 ∧ gT G83 a0 = (1, 11) ∧ (gT G83 b84).1 = 2 ∧ vp_in (x1 - (gI G83 357 a0)) (gT G83 b84).2 ∧ (gT G83 b81).1 = 2 ∧ vp_in (20 + r82) (gT G83 b81).2 ∧ ∀ G85, G85 = sA G83 b81 (upd (gA G83 b81) (20 + r82).toNatClampNeg (gA G83 b84 (x1 - (gI G83 357 a0)).toNatClampNeg)) → k5 G85 a0 (x1 + 1))))
set_option maxRecDepth 20000 in
theorem bX10_does_5 {X : Xt} {K : Kt} {l : Launch} {G0 : Gt} {Pr : Gt → Prop} (B : BX X K l cX10_does 2 RX10 1 21 G0 none "does") {k5 : Gt → Nat → Int32 → Prop} (hk5 : ∀ (G : Gt) (a0 : Nat) (x1 : Int32), k5 G a0 x1 → WM X K (QM X K G0 (rV Pr) noX) G 5 [some (.ref a0), some (.int x1)] []) {G : Gt} {a0 : Nat} {x1 : Int32} (h : wX10_does_5 X Pr k5 G a0 x1) : WM X K (QM X K G0 (rV Pr) noX) G 5 [some (.ref a0), some (.int x1)] [] := by
  obtain ⟨hL, C, E0, hr, hnm, hex, hfl⟩ := id B
  unfold wX10_does_5 at h
  refine r_iload_n C 1 dX10_does_5 rfl rfl ?_
  refine r_aloadR_n C 0 dX10_does_6 rfl rfl ?_
  obtain ⟨ht, h⟩ := h
  refine r_getI C fw_RX10_111 rfl ht dX10_does_7 ?_
  refine r_icmp_ge C 53 dX10_does_10 (by decide) (fun c => ?_) (fun c => ?_)
  · replace h := h.1 c
    exact r_vret C E0 hr ⟨rfl, h⟩ dX10_does_53
  · replace h := h.2 c
    refine r_aloadR_n C 0 dX10_does_13 rfl rfl ?_
    obtain ⟨ht, h⟩ := h
    refine r_getI C fw_RX10_101 rfl ht dX10_does_14 ?_
    refine r_if_eq C 53 dX10_does_17 (by decide) (fun c => ?_) (fun c => ?_)
    · replace h := h.1 c
      exact r_vret C E0 hr ⟨rfl, h⟩ dX10_does_53
    · replace h := h.2 c
      refine r_aloadR_n C 0 dX10_does_20 rfl rfl ?_
      obtain ⟨ht, h⟩ := h
      obtain ⟨b81, hb, h⟩ := h
      refine r_getR C fw_RX10_7 rfl ht hb dX10_does_21 ?_
      refine r_bipush C 20 dX10_does_24 (by decide) ?_
      refine r_aloadR_n C 0 dX10_does_26 rfl rfl ?_
      obtain ⟨ht, h⟩ := h
      refine r_getI C fw_RX10_91 rfl ht dX10_does_27 ?_
      refine r_iload_n C 1 dX10_does_30 rfl rfl ?_
      refine r_callS C hL yw_X10_registerAt sw_RX10_55 rfl rfl (Nat.le_of_ble_eq_true rfl) ⟨(Nat.le_of_ble_eq_true rfl), (Nat.le_of_ble_eq_true rfl)⟩ (mX10_registerAt hfl h) rfl dX10_does_31 (kI (fun r82 G83 h => ?_)) kN
      refine r_iadd C dX10_does_34 ?_
      refine r_aloadR_n C 0 dX10_does_35 rfl rfl ?_
      obtain ⟨ht, h⟩ := h
      obtain ⟨b84, hb, h⟩ := h
      refine r_getR C fw_RX10_19 rfl ht hb dX10_does_36 ?_
      refine r_iload_n C 1 dX10_does_39 rfl rfl ?_
      refine r_aloadR_n C 0 dX10_does_40 rfl rfl ?_
      obtain ⟨ht, h⟩ := h
      refine r_getI C fw_RX10_108 rfl ht dX10_does_41 ?_
      refine r_isub C dX10_does_44 ?_
      obtain ⟨ht, hi, h⟩ := h
      refine r_ialdP C ht hi dX10_does_45 ?_
      obtain ⟨ht, hi, h⟩ := h
      refine r_iastP C ht hi dX10_does_46 ?_
      refine r_nm (fun G85 hG85 => ?_)
      replace h := h G85 hG85
      refine r_iinc C 1 (lv' := [some (.ref a0), some (.int (x1 + 1))]) dX10_does_47 rfl (by decide) rfl rfl ?_
      refine r_goto C 5 dX10_does_50 (by decide) ?_
      exact hk5 _ _ _ h
theorem lX10_does_5 {X : Xt} {K : Kt} {l : Launch} {G0 : Gt} {Pr : Gt → Prop} (B : BX X K l cX10_does 2 RX10 1 21 G0 none "does") (I : Gt → Nat → Int32 → Prop) (μ : Gt → Nat → Int32 → Nat) (hS : ∀ (G : Gt) (a0 : Nat) (x1 : Int32), I G a0 x1 → wX10_does_5 X Pr (fun G' a0' x1' => I G' a0' x1' ∧ μ G' a0' x1' < μ G a0 x1) G a0 x1) : ∀ (n : Nat) (G : Gt) (a0 : Nat) (x1 : Int32), μ G a0 x1 < n → I G a0 x1 → WM X K (QM X K G0 (rV Pr) noX) G 5 [some (.ref a0), some (.int x1)] [] := by
  intro n
  induction n with
  | zero => intro G a0 x1 hm; exact absurd hm (Nat.not_lt_zero _)
  | succ n ih =>
    intro G a0 x1 hm hi
    exact bX10_does_5 B (fun G' a0' x1' hk => ih G' a0' x1' (Nat.lt_of_lt_of_le hk.2 (Nat.le_of_lt_succ hm)) hk.1) (hS G a0 x1 hi)
def wX10_does (X : Xt) (G : Gt) (a0 : Nat) (Pr : Gt → Prop) : Prop := gT G a0 = (1, 11) ∧ ∃ (I : Gt → Nat → Int32 → Prop) (μ : Gt → Nat → Int32 → Nat), I G a0 (gI G 357 a0) ∧ ∀ (G : Gt) (a0 : Nat) (x1 : Int32), I G a0 x1 → wX10_does_5 X Pr (fun G' a0' x1' => I G' a0' x1' ∧ μ G' a0' x1' < μ G a0 x1) G a0 x1
set_option maxRecDepth 20000 in
theorem mX10_does {X : Xt} {l : Launch} (hfl : l.stackTraces = false) {G : Gt} {a0 : Nat} {Pr : Gt → Prop} (h : wX10_does X G a0 Pr) : Mc X l yX10_does (.code yX10_does cX10_does 2 none) 1 21 [.ref a0] G (rV Pr) noX := by
  refine Mc.of (by decide +kernel) hfl [some (.ref a0), none] rfl (Nat.le_of_ble_eq_true rfl) rfl ?_
  intro K hL C E0 hr hnm hex
  have B : BX X K l cX10_does 2 RX10 1 21 G none "does" := ⟨hL, C, E0, hr, hnm, hex, hfl⟩
  have C : Cx X K cX10_does 2 RX10 1 21 := C
  unfold wX10_does at h
  refine r_aloadR_n C 0 dX10_does_0 rfl rfl ?_
  obtain ⟨ht, h⟩ := h
  refine r_getI C fw_RX10_108 rfl ht dX10_does_1 ?_
  refine r_istore_n C 1 (lv' := [some (.ref a0), some (.int (gI G 357 a0))]) dX10_does_4 rfl (Nat.le_of_ble_eq_true rfl) rfl rfl ?_
  obtain ⟨I, μ, hI, hS⟩ := h
  exact lX10_does_5 B I μ hS _ _ _ _ (Nat.lt_succ_self _) hI
def wX10_gets_251 (X : Xt) (Pr : Gt → Prop) (k251 : Gt → Nat → Int32 → Int32 → Prop) (G : Gt) (a0 : Nat) (x5 : Int32) (x6 : Int32) : Prop := gT G a0 = (1, 11) ∧ ((gI G 362 a0) ≤ x6 → gT G a0 = (1, 11) ∧ ∃ b21, gR G 352 a0 = some b21 ∧ (gT G b21).1 = 2 ∧ vp_in 9 (gT G b21).2 ∧ (gT G b21).1 = 2 ∧ vp_in 9 (gT G b21).2 ∧ ∀ G22, G22 = sA G b21 (upd (gA G b21) (9 : Int32).toNatClampNeg ((gA G b21 (9 : Int32).toNatClampNeg) + 1)) → Pr G22) ∧ (¬ ((gI G 362 a0) ≤ x6) → gT G a0 = (1, 11) ∧ ∃ b41, gR G 352 a0 = some b41 ∧ gT G a0 = (1, 11) ∧ ∃ b42, gR G 361 a0 = some b42 ∧ (gT G b42).1 = 2 ∧ vp_in x6 (gT G b42).2 ∧ (gT G b41).1 = 2 ∧ vp_in ((x5 + 3) + x6) (gT G b41).2 ∧ ∀ G43, G43 = sA G b41 (upd (gA G b41) ((x5 + 3) + x6).toNatClampNeg (gA G b42 x6.toNatClampNeg)) → k251 G43 a0 x5 (x6 + 1))
set_option maxRecDepth 20000 in
theorem bX10_gets_251 {X : Xt} {K : Kt} {l : Launch} {G0 : Gt} {Pr : Gt → Prop} (B : BX X K l cX10_gets 7 RX10 3 67 G0 none "gets") {k251 : Gt → Nat → Int32 → Int32 → Prop} (hk251 : ∀ (G : Gt) (a0 : Nat) (x5 : Int32) (x6 : Int32), k251 G a0 x5 x6 → WM X K (QM X K G0 (rV Pr) noX) G 251 [some (.ref a0), none, none, none, none, some (.int x5), some (.int x6)] []) {G : Gt} {a0 : Nat} {x5 : Int32} {x6 : Int32} (h : wX10_gets_251 X Pr k251 G a0 x5 x6) : WM X K (QM X K G0 (rV Pr) noX) G 251 [some (.ref a0), none, none, none, none, some (.int x5), some (.int x6)] [] := by
  obtain ⟨hL, C, E0, hr, hnm, hex, hfl⟩ := id B
  unfold wX10_gets_251 at h
  refine r_iload C dX10_gets_251 rfl ?_
  refine r_aloadR_n C 0 dX10_gets_253 rfl rfl ?_
  obtain ⟨ht, h⟩ := h
  refine r_getI C fw_RX10_118 rfl ht dX10_gets_254 ?_
  refine r_icmp_ge C 285 dX10_gets_257 (by decide) (fun c => ?_) (fun c => ?_)
  · replace h := h.1 c
    refine r_aloadR_n C 0 dX10_gets_285 rfl rfl ?_
    obtain ⟨ht, h⟩ := h
    obtain ⟨b21, hb, h⟩ := h
    refine r_getR C fw_RX10_7 rfl ht hb dX10_gets_286 ?_
    refine r_bipush C 9 dX10_gets_289 (by decide) ?_
    refine r_dup2 C dX10_gets_291 rfl rfl ?_
    obtain ⟨ht, hi, h⟩ := h
    refine r_ialdP C ht hi dX10_gets_292 ?_
    refine r_iconst C 1 dX10_gets_293 (by decide) ?_
    refine r_iadd C dX10_gets_294 ?_
    obtain ⟨ht, hi, h⟩ := h
    refine r_iastP C ht hi dX10_gets_295 ?_
    refine r_nm (fun G22 hG22 => ?_)
    replace h := h G22 hG22
    exact r_vret C E0 hr ⟨rfl, h⟩ dX10_gets_296
  · replace h := h.2 c
    refine r_aloadR_n C 0 dX10_gets_260 rfl rfl ?_
    obtain ⟨ht, h⟩ := h
    obtain ⟨b41, hb, h⟩ := h
    refine r_getR C fw_RX10_7 rfl ht hb dX10_gets_261 ?_
    refine r_iload C dX10_gets_264 rfl ?_
    refine r_iconst C 3 dX10_gets_266 (by decide) ?_
    refine r_iadd C dX10_gets_267 ?_
    refine r_iload C dX10_gets_268 rfl ?_
    refine r_iadd C dX10_gets_270 ?_
    refine r_aloadR_n C 0 dX10_gets_271 rfl rfl ?_
    obtain ⟨ht, h⟩ := h
    obtain ⟨b42, hb, h⟩ := h
    refine r_getR C fw_RX10_16 rfl ht hb dX10_gets_272 ?_
    refine r_iload C dX10_gets_275 rfl ?_
    obtain ⟨ht, hi, h⟩ := h
    refine r_ialdP C ht hi dX10_gets_277 ?_
    obtain ⟨ht, hi, h⟩ := h
    refine r_iastP C ht hi dX10_gets_278 ?_
    refine r_nm (fun G43 hG43 => ?_)
    replace h := h G43 hG43
    refine r_iinc C 1 (lv' := [some (.ref a0), none, none, none, none, some (.int x5), some (.int (x6 + 1))]) dX10_gets_279 rfl (by decide) rfl rfl ?_
    refine r_goto C 251 dX10_gets_282 (by decide) ?_
    exact hk251 _ _ _ _ h
theorem lX10_gets_251 {X : Xt} {K : Kt} {l : Launch} {G0 : Gt} {Pr : Gt → Prop} (B : BX X K l cX10_gets 7 RX10 3 67 G0 none "gets") (I : Gt → Nat → Int32 → Int32 → Prop) (μ : Gt → Nat → Int32 → Int32 → Nat) (hS : ∀ (G : Gt) (a0 : Nat) (x5 : Int32) (x6 : Int32), I G a0 x5 x6 → wX10_gets_251 X Pr (fun G' a0' x5' x6' => I G' a0' x5' x6' ∧ μ G' a0' x5' x6' < μ G a0 x5 x6) G a0 x5 x6) : ∀ (n : Nat) (G : Gt) (a0 : Nat) (x5 : Int32) (x6 : Int32), μ G a0 x5 x6 < n → I G a0 x5 x6 → WM X K (QM X K G0 (rV Pr) noX) G 251 [some (.ref a0), none, none, none, none, some (.int x5), some (.int x6)] [] := by
  intro n
  induction n with
  | zero => intro G a0 x5 x6 hm; exact absurd hm (Nat.not_lt_zero _)
  | succ n ih =>
    intro G a0 x5 x6 hm hi
    exact bX10_gets_251 B (fun G' a0' x5' x6' hk => ih G' a0' x5' x6' (Nat.lt_of_lt_of_le hk.2 (Nat.le_of_lt_succ hm)) hk.1) (hS G a0 x5 x6 hi)
def wX10_gets_217 (X : Xt) (Pr : Gt → Prop) (G : Gt) (a0 : Nat) (x5 : Int32) (sa0 : Nat) (sx1 : Int32) (sx2 : Int32) (sx3 : Int32) : Prop := (gT G sa0).1 = 2 ∧ vp_in sx1 (gT G sa0).2 ∧ ∀ G1, G1 = sA G sa0 (upd (gA G sa0) sx1.toNatClampNeg (sx2 + sx3)) → gT G1 a0 = (1, 11) ∧ ∃ b2, gR G1 352 a0 = some b2 ∧ gT G1 a0 = (1, 11) ∧ (gT G1 b2).1 = 2 ∧ vp_in (x5 + 1) (gT G1 b2).2 ∧ ∀ G3, G3 = sA G1 b2 (upd (gA G1 b2) (x5 + 1).toNatClampNeg (gI G1 362 a0)) → gT G3 a0 = (1, 11) ∧ ∃ b4, gR G3 352 a0 = some b4 ∧ gT G3 a0 = (1, 11) ∧ ∃ b5, gR G3 352 a0 = some b5 ∧ (gT G3 b5).1 = 2 ∧ vp_in 7 (gT G3 b5).2 ∧ (gT G3 b4).1 = 2 ∧ vp_in (x5 + 2) (gT G3 b4).2 ∧ ∀ G6, G6 = sA G3 b4 (upd (gA G3 b4) (x5 + 2).toNatClampNeg (gA G3 b5 (7 : Int32).toNatClampNeg)) → ∃ (I : Gt → Nat → Int32 → Int32 → Prop) (μ : Gt → Nat → Int32 → Int32 → Nat), I G6 a0 x5 (0 : Int32) ∧ ∀ (G : Gt) (a0 : Nat) (x5 : Int32) (x6 : Int32), I G a0 x5 x6 → wX10_gets_251 X Pr (fun G' a0' x5' x6' => I G' a0' x5' x6' ∧ μ G' a0' x5' x6' < μ G a0 x5 x6) G a0 x5 x6
set_option maxRecDepth 20000 in
theorem bX10_gets_217 {X : Xt} {K : Kt} {l : Launch} {G0 : Gt} {Pr : Gt → Prop} (B : BX X K l cX10_gets 7 RX10 3 67 G0 none "gets") {G : Gt} {a0 : Nat} {x5 : Int32} {sa0 : Nat} {sx1 : Int32} {sx2 : Int32} {sx3 : Int32} (h : wX10_gets_217 X Pr G a0 x5 sa0 sx1 sx2 sx3) : WM X K (QM X K G0 (rV Pr) noX) G 217 [some (.ref a0), none, none, none, none, some (.int x5), none] [.int sx3, .int sx2, .int sx1, .ref sa0] := by
  obtain ⟨hL, C, E0, hr, hnm, hex, hfl⟩ := id B
  unfold wX10_gets_217 at h
  refine r_iadd C dX10_gets_217 ?_
  obtain ⟨ht, hi, h⟩ := h
  refine r_iastP C ht hi dX10_gets_218 ?_
  refine r_nm (fun G1 hG1 => ?_)
  replace h := h G1 hG1
  refine r_aloadR_n C 0 dX10_gets_219 rfl rfl ?_
  obtain ⟨ht, h⟩ := h
  obtain ⟨b2, hb, h⟩ := h
  refine r_getR C fw_RX10_7 rfl ht hb dX10_gets_220 ?_
  refine r_iload C dX10_gets_223 rfl ?_
  refine r_iconst C 1 dX10_gets_225 (by decide) ?_
  refine r_iadd C dX10_gets_226 ?_
  refine r_aloadR_n C 0 dX10_gets_227 rfl rfl ?_
  obtain ⟨ht, h⟩ := h
  refine r_getI C fw_RX10_118 rfl ht dX10_gets_228 ?_
  obtain ⟨ht, hi, h⟩ := h
  refine r_iastP C ht hi dX10_gets_231 ?_
  refine r_nm (fun G3 hG3 => ?_)
  replace h := h G3 hG3
  refine r_aloadR_n C 0 dX10_gets_232 rfl rfl ?_
  obtain ⟨ht, h⟩ := h
  obtain ⟨b4, hb, h⟩ := h
  refine r_getR C fw_RX10_7 rfl ht hb dX10_gets_233 ?_
  refine r_iload C dX10_gets_236 rfl ?_
  refine r_iconst C 2 dX10_gets_238 (by decide) ?_
  refine r_iadd C dX10_gets_239 ?_
  refine r_aloadR_n C 0 dX10_gets_240 rfl rfl ?_
  obtain ⟨ht, h⟩ := h
  obtain ⟨b5, hb, h⟩ := h
  refine r_getR C fw_RX10_7 rfl ht hb dX10_gets_241 ?_
  refine r_bipush C 7 dX10_gets_244 (by decide) ?_
  obtain ⟨ht, hi, h⟩ := h
  refine r_ialdP C ht hi dX10_gets_246 ?_
  obtain ⟨ht, hi, h⟩ := h
  refine r_iastP C ht hi dX10_gets_247 ?_
  refine r_nm (fun G6 hG6 => ?_)
  replace h := h G6 hG6
  refine r_iconst C 0 dX10_gets_248 (by decide) ?_
  refine r_istore C (lv' := [some (.ref a0), none, none, none, none, some (.int x5), some (.int 0)]) dX10_gets_249 (Nat.le_of_ble_eq_true rfl) rfl rfl ?_
  obtain ⟨I, μ, hI, hS⟩ := h
  exact lX10_gets_251 B I μ hS _ _ _ _ _ (Nat.lt_succ_self _) hI
def wX10_gets_158 (X : Xt) (Pr : Gt → Prop) (G : Gt) (a0 : Nat) (x2 : Int32) (x3 : Int32) : Prop := (x2 = 1 → Pr G) ∧ (¬ (x2 = 1) → gT G a0 = (1, 11) ∧ ∃ b41, gR G 352 a0 = some b41 ∧ (gT G b41).1 = 2 ∧ vp_in 9 (gT G b41).2 ∧ gT G a0 = (1, 11) ∧ ∃ b42, gR G 352 a0 = some b42 ∧ gT G a0 = (1, 11) ∧ ∃ b43, gR G 352 a0 = some b43 ∧ (gT G b43).1 = 2 ∧ vp_in 0 (gT G b43).2 ∧ gT G a0 = (1, 11) ∧ ∃ b44, gR G 352 a0 = some b44 ∧ gT G a0 = (1, 11) ∧ (gT G b44).1 = 2 ∧ vp_in ((224 + (gI G 360 a0)) - 1) (gT G b44).2 ∧ (¬ x2 = 3 → wX10_gets_217 X Pr G a0 (1700 + (42 * (gA G b41 (9 : Int32).toNatClampNeg))) b42 (1700 + (42 * (gA G b41 (9 : Int32).toNatClampNeg))) ((gA G b43 (0 : Int32).toNatClampNeg) + (gA G b44 ((224 + (gI G 360 a0)) - 1).toNatClampNeg)) (0 : Int32)) ∧ (x2 = 3 → wX10_gets_217 X Pr G a0 (1700 + (42 * (gA G b41 (9 : Int32).toNatClampNeg))) b42 (1700 + (42 * (gA G b41 (9 : Int32).toNatClampNeg))) ((gA G b43 (0 : Int32).toNatClampNeg) + (gA G b44 ((224 + (gI G 360 a0)) - 1).toNatClampNeg)) x3))
set_option maxRecDepth 20000 in
theorem bX10_gets_158 {X : Xt} {K : Kt} {l : Launch} {G0 : Gt} {Pr : Gt → Prop} (B : BX X K l cX10_gets 7 RX10 3 67 G0 none "gets") {G : Gt} {a0 : Nat} {x2 : Int32} {x3 : Int32} (h : wX10_gets_158 X Pr G a0 x2 x3) : WM X K (QM X K G0 (rV Pr) noX) G 158 [some (.ref a0), none, some (.int x2), some (.int x3), none, none, none] [] := by
  obtain ⟨hL, C, E0, hr, hnm, hex, hfl⟩ := id B
  unfold wX10_gets_158 at h
  refine r_iload_n C 2 dX10_gets_158 rfl rfl ?_
  refine r_iconst C 1 dX10_gets_159 (by decide) ?_
  refine r_icmp_eq C 296 dX10_gets_160 (by decide) (fun c => ?_) (fun c => ?_)
  · replace h := h.1 c
    exact r_vret C E0 hr ⟨rfl, h⟩ dX10_gets_296
  · replace h := h.2 c
    refine r_sipush C 1700 dX10_gets_163 (by decide) ?_
    refine r_bipush C 42 dX10_gets_166 (by decide) ?_
    refine r_aloadR_n C 0 dX10_gets_168 rfl rfl ?_
    obtain ⟨ht, h⟩ := h
    obtain ⟨b41, hb, h⟩ := h
    refine r_getR C fw_RX10_7 rfl ht hb dX10_gets_169 ?_
    refine r_bipush C 9 dX10_gets_172 (by decide) ?_
    obtain ⟨ht, hi, h⟩ := h
    refine r_ialdP C ht hi dX10_gets_174 ?_
    refine r_imul C dX10_gets_175 ?_
    refine r_iadd C dX10_gets_176 ?_
    refine r_istore C (lv' := [some (.ref a0), none, some (.int x2), some (.int x3), none, some (.int (1700 + (42 * (gA G b41 (9 : Int32).toNatClampNeg)))), none]) dX10_gets_177 (Nat.le_of_ble_eq_true rfl) rfl rfl ?_
    refine r_aloadR_n C 0 dX10_gets_179 rfl rfl ?_
    obtain ⟨ht, h⟩ := h
    obtain ⟨b42, hb, h⟩ := h
    refine r_getR C fw_RX10_7 rfl ht hb dX10_gets_180 ?_
    refine r_iload C dX10_gets_183 rfl ?_
    refine r_aloadR_n C 0 dX10_gets_185 rfl rfl ?_
    obtain ⟨ht, h⟩ := h
    obtain ⟨b43, hb, h⟩ := h
    refine r_getR C fw_RX10_7 rfl ht hb dX10_gets_186 ?_
    refine r_iconst C 0 dX10_gets_189 (by decide) ?_
    obtain ⟨ht, hi, h⟩ := h
    refine r_ialdP C ht hi dX10_gets_190 ?_
    refine r_aloadR_n C 0 dX10_gets_191 rfl rfl ?_
    obtain ⟨ht, h⟩ := h
    obtain ⟨b44, hb, h⟩ := h
    refine r_getR C fw_RX10_7 rfl ht hb dX10_gets_192 ?_
    refine r_sipush C 224 dX10_gets_195 (by decide) ?_
    refine r_aloadR_n C 0 dX10_gets_198 rfl rfl ?_
    obtain ⟨ht, h⟩ := h
    refine r_getI C fw_RX10_91 rfl ht dX10_gets_199 ?_
    refine r_iadd C dX10_gets_202 ?_
    refine r_iconst C 1 dX10_gets_203 (by decide) ?_
    refine r_isub C dX10_gets_204 ?_
    obtain ⟨ht, hi, h⟩ := h
    refine r_ialdP C ht hi dX10_gets_205 ?_
    refine r_iadd C dX10_gets_206 ?_
    refine r_iload_n C 2 dX10_gets_207 rfl rfl ?_
    refine r_iconst C 3 dX10_gets_208 (by decide) ?_
    refine r_icmp_ne C 216 dX10_gets_209 (by decide) (fun c => ?_) (fun c => ?_)
    · replace h := h.1 c
      refine r_iconst C 0 dX10_gets_216 (by decide) ?_
      refine r_fg (lv' := [some (.ref a0), none, none, none, none, some (.int (1700 + (42 * (gA G b41 (9 : Int32).toNatClampNeg)))), none]) (show fgt _ _ from ⟨rfl, ⟨rfl, trivial⟩⟩) ?_
      exact bX10_gets_217 B h
    · replace h := h.2 c
      refine r_iload_n C 3 dX10_gets_212 rfl rfl ?_
      refine r_goto C 217 dX10_gets_213 (by decide) ?_
      refine r_fg (lv' := [some (.ref a0), none, none, none, none, some (.int (1700 + (42 * (gA G b41 (9 : Int32).toNatClampNeg)))), none]) (show fgt _ _ from ⟨rfl, ⟨rfl, trivial⟩⟩) ?_
      exact bX10_gets_217 B h
def wX10_gets_132 (X : Xt) (Pr : Gt → Prop) (G : Gt) (a0 : Nat) (x2 : Int32) (x3 : Int32) (x4 : Int32) : Prop := gT G a0 = (1, 11) ∧ wX10_repliesWith X G a0 x4 (fun G1 => (¬ x2 = 2 → wX10_gets_158 X Pr G1 a0 x2 x3) ∧ (x2 = 2 → gT G1 a0 = (1, 11) ∧ ∃ b42, gR G1 361 a0 = some b42 ∧ gT G1 a0 = (1, 11) ∧ ¬ (gI G1 362 a0) = 0 ∧ (gT G1 b42).1 = 2 ∧ vp_in (x3 - x3 / (gI G1 362 a0) * (gI G1 362 a0)) (gT G1 b42).2 ∧ (gT G1 b42).1 = 2 ∧ vp_in (x3 - x3 / (gI G1 362 a0) * (gI G1 362 a0)) (gT G1 b42).2 ∧ ∀ G43, G43 = sA G1 b42 (upd (gA G1 b42) (x3 - x3 / (gI G1 362 a0) * (gI G1 362 a0)).toNatClampNeg ((gA G1 b42 (x3 - x3 / (gI G1 362 a0) * (gI G1 362 a0)).toNatClampNeg) ^^^ 1)) → wX10_gets_158 X Pr G43 a0 x2 x3))
set_option maxRecDepth 20000 in
theorem bX10_gets_132 {X : Xt} {K : Kt} {l : Launch} {G0 : Gt} {Pr : Gt → Prop} (B : BX X K l cX10_gets 7 RX10 3 67 G0 none "gets") {G : Gt} {a0 : Nat} {x2 : Int32} {x3 : Int32} {x4 : Int32} (h : wX10_gets_132 X Pr G a0 x2 x3 x4) : WM X K (QM X K G0 (rV Pr) noX) G 132 [some (.ref a0), none, some (.int x2), some (.int x3), some (.int x4), none, none] [] := by
  obtain ⟨hL, C, E0, hr, hnm, hex, hfl⟩ := id B
  unfold wX10_gets_132 at h
  refine r_aloadR_n C 0 dX10_gets_132 rfl rfl ?_
  refine r_iload C dX10_gets_133 rfl ?_
  obtain ⟨ht, h⟩ := h
  refine r_callV C (r := (RX10, TX10, 19)) hL yw_X10_repliesWith vw_RX10_144 rfl rfl ht rfl rfl (Nat.le_of_ble_eq_true rfl) ⟨(Nat.le_of_ble_eq_true rfl), (Nat.le_of_ble_eq_true rfl)⟩ (mX10_repliesWith hfl h) rfl dX10_gets_135 (kV' (fun G1 h => ?_)) kN
  refine r_iload_n C 2 dX10_gets_138 rfl rfl ?_
  refine r_iconst C 2 dX10_gets_139 (by decide) ?_
  refine r_icmp_ne C 158 dX10_gets_140 (by decide) (fun c => ?_) (fun c => ?_)
  · replace h := h.1 c
    refine r_fg (lv' := [some (.ref a0), none, some (.int x2), some (.int x3), none, none, none]) (show fgt _ _ from ⟨rfl, ⟨rfl, ⟨rfl, trivial⟩⟩⟩) ?_
    exact bX10_gets_158 B h
  · replace h := h.2 c
    refine r_aloadR_n C 0 dX10_gets_143 rfl rfl ?_
    obtain ⟨ht, h⟩ := h
    obtain ⟨b42, hb, h⟩ := h
    refine r_getR C fw_RX10_16 rfl ht hb dX10_gets_144 ?_
    refine r_iload_n C 3 dX10_gets_147 rfl rfl ?_
    refine r_aloadR_n C 0 dX10_gets_148 rfl rfl ?_
    obtain ⟨ht, h⟩ := h
    refine r_getI C fw_RX10_118 rfl ht dX10_gets_149 ?_
    obtain ⟨hz, h⟩ := h
    refine r_irem C dX10_gets_152 hz ?_
    refine r_dup2 C dX10_gets_153 rfl rfl ?_
    obtain ⟨ht, hi, h⟩ := h
    refine r_ialdP C ht hi dX10_gets_154 ?_
    refine r_iconst C 1 dX10_gets_155 (by decide) ?_
    refine r_ixor C dX10_gets_156 ?_
    obtain ⟨ht, hi, h⟩ := h
    refine r_iastP C ht hi dX10_gets_157 ?_
    refine r_nm (fun G43 hG43 => ?_)
    replace h := h G43 hG43
    refine r_fg (lv' := [some (.ref a0), none, some (.int x2), some (.int x3), none, none, none]) (show fgt _ _ from ⟨rfl, ⟨rfl, ⟨rfl, trivial⟩⟩⟩) ?_
    exact bX10_gets_158 B h
def wX10_gets_121 (X : Xt) (Pr : Gt → Prop) (G : Gt) (a0 : Nat) (x2 : Int32) (x3 : Int32) (sx0 : Int32) : Prop := (¬ sx0 = 0 → wX10_gets_132 X Pr G a0 x2 x3 sx0) ∧ (sx0 = 0 → gT G a0 = (1, 11) ∧ wX10_does X G a0 (fun G41 => wX10_gets_132 X Pr G41 a0 x2 x3 sx0))
set_option maxRecDepth 20000 in
theorem bX10_gets_121 {X : Xt} {K : Kt} {l : Launch} {G0 : Gt} {Pr : Gt → Prop} (B : BX X K l cX10_gets 7 RX10 3 67 G0 none "gets") {G : Gt} {a0 : Nat} {x2 : Int32} {x3 : Int32} {sx0 : Int32} (h : wX10_gets_121 X Pr G a0 x2 x3 sx0) : WM X K (QM X K G0 (rV Pr) noX) G 121 [some (.ref a0), none, some (.int x2), some (.int x3), none, none, none] [.int sx0] := by
  obtain ⟨hL, C, E0, hr, hnm, hex, hfl⟩ := id B
  unfold wX10_gets_121 at h
  refine r_istore C (lv' := [some (.ref a0), none, some (.int x2), some (.int x3), some (.int sx0), none, none]) dX10_gets_121 (Nat.le_of_ble_eq_true rfl) rfl rfl ?_
  refine r_iload C dX10_gets_123 rfl ?_
  refine r_if_ne C 132 dX10_gets_125 (by decide) (fun c => ?_) (fun c => ?_)
  · replace h := h.1 c
    exact bX10_gets_132 B h
  · replace h := h.2 c
    refine r_aloadR_n C 0 dX10_gets_128 rfl rfl ?_
    obtain ⟨ht, h⟩ := h
    refine r_callV C (r := (RX10, TX10, 19)) hL yw_X10_does vw_RX10_141 rfl rfl ht rfl rfl (Nat.le_of_ble_eq_true rfl) ⟨(Nat.le_of_ble_eq_true rfl), (Nat.le_of_ble_eq_true rfl)⟩ (mX10_does hfl h) rfl dX10_gets_129 (kV' (fun G41 h => ?_)) kN
    exact bX10_gets_132 B h
def wX10_gets_107 (X : Xt) (Pr : Gt → Prop) (G : Gt) (a0 : Nat) (x2 : Int32) (x3 : Int32) : Prop := (¬ x2 = 4 → gT G a0 = (1, 11) ∧ wX10_code X G a0 (fun r21 G22 => wX10_gets_121 X Pr G22 a0 x2 x3 r21)) ∧ (x2 = 4 → wX10_gets_121 X Pr G a0 x2 x3 (6 : Int32))
set_option maxRecDepth 20000 in
theorem bX10_gets_107 {X : Xt} {K : Kt} {l : Launch} {G0 : Gt} {Pr : Gt → Prop} (B : BX X K l cX10_gets 7 RX10 3 67 G0 none "gets") {G : Gt} {a0 : Nat} {x2 : Int32} {x3 : Int32} (h : wX10_gets_107 X Pr G a0 x2 x3) : WM X K (QM X K G0 (rV Pr) noX) G 107 [some (.ref a0), none, some (.int x2), some (.int x3), none, none, none] [] := by
  obtain ⟨hL, C, E0, hr, hnm, hex, hfl⟩ := id B
  unfold wX10_gets_107 at h
  refine r_iload_n C 2 dX10_gets_107 rfl rfl ?_
  refine r_iconst C 4 dX10_gets_108 (by decide) ?_
  refine r_icmp_ne C 117 dX10_gets_109 (by decide) (fun c => ?_) (fun c => ?_)
  · replace h := h.1 c
    refine r_aloadR_n C 0 dX10_gets_117 rfl rfl ?_
    obtain ⟨ht, h⟩ := h
    refine r_callV C (r := (RX10, TX10, 19)) hL yw_X10_code vw_RX10_138 rfl rfl ht rfl rfl (Nat.le_of_ble_eq_true rfl) ⟨(Nat.le_of_ble_eq_true rfl), (Nat.le_of_ble_eq_true rfl)⟩ (mX10_code hfl h) rfl dX10_gets_118 (kI (fun r21 G22 h => ?_)) kN
    exact bX10_gets_121 B h
  · replace h := h.2 c
    refine r_bipush C 6 dX10_gets_112 (by decide) ?_
    refine r_goto C 121 dX10_gets_114 (by decide) ?_
    exact bX10_gets_121 B h
def wX10_gets_74 (X : Xt) (Pr : Gt → Prop) (k74 : Gt → Nat → Int32 → Int32 → Int32 → Int32 → Prop) (G : Gt) (a0 : Nat) (x1 : Int32) (x2 : Int32) (x3 : Int32) (x4 : Int32) : Prop := (10 < x4 → wX10_gets_107 X Pr G a0 x2 x3) ∧ (¬ (10 < x4) → gT G a0 = (1, 11) ∧ ∃ b41, gR G 352 a0 = some b41 ∧ gT G a0 = (1, 11) ∧ ∃ b42, gR G 352 a0 = some b42 ∧ (gT G b42).1 = 2 ∧ vp_in ((x1 + x4) + 2) (gT G b42).2 ∧ (gT G b41).1 = 2 ∧ vp_in (x1 + x4) (gT G b41).2 ∧ ∀ G43, G43 = sA G b41 (upd (gA G b41) (x1 + x4).toNatClampNeg (gA G b42 ((x1 + x4) + 2).toNatClampNeg)) → k74 G43 a0 x1 x2 x3 (x4 + 1))
set_option maxRecDepth 20000 in
theorem bX10_gets_74 {X : Xt} {K : Kt} {l : Launch} {G0 : Gt} {Pr : Gt → Prop} (B : BX X K l cX10_gets 7 RX10 3 67 G0 none "gets") {k74 : Gt → Nat → Int32 → Int32 → Int32 → Int32 → Prop} (hk74 : ∀ (G : Gt) (a0 : Nat) (x1 : Int32) (x2 : Int32) (x3 : Int32) (x4 : Int32), k74 G a0 x1 x2 x3 x4 → WM X K (QM X K G0 (rV Pr) noX) G 74 [some (.ref a0), some (.int x1), some (.int x2), some (.int x3), some (.int x4), none, none] []) {G : Gt} {a0 : Nat} {x1 : Int32} {x2 : Int32} {x3 : Int32} {x4 : Int32} (h : wX10_gets_74 X Pr k74 G a0 x1 x2 x3 x4) : WM X K (QM X K G0 (rV Pr) noX) G 74 [some (.ref a0), some (.int x1), some (.int x2), some (.int x3), some (.int x4), none, none] [] := by
  obtain ⟨hL, C, E0, hr, hnm, hex, hfl⟩ := id B
  unfold wX10_gets_74 at h
  refine r_iload C dX10_gets_74 rfl ?_
  refine r_bipush C 10 dX10_gets_76 (by decide) ?_
  refine r_icmp_gt C 107 dX10_gets_78 (by decide) (fun c => ?_) (fun c => ?_)
  · replace h := h.1 c
    refine r_fg (lv' := [some (.ref a0), none, some (.int x2), some (.int x3), none, none, none]) (show fgt _ _ from ⟨rfl, ⟨rfl, ⟨rfl, trivial⟩⟩⟩) ?_
    exact bX10_gets_107 B h
  · replace h := h.2 c
    refine r_aloadR_n C 0 dX10_gets_81 rfl rfl ?_
    obtain ⟨ht, h⟩ := h
    obtain ⟨b41, hb, h⟩ := h
    refine r_getR C fw_RX10_7 rfl ht hb dX10_gets_82 ?_
    refine r_iload_n C 1 dX10_gets_85 rfl rfl ?_
    refine r_iload C dX10_gets_86 rfl ?_
    refine r_iadd C dX10_gets_88 ?_
    refine r_aloadR_n C 0 dX10_gets_89 rfl rfl ?_
    obtain ⟨ht, h⟩ := h
    obtain ⟨b42, hb, h⟩ := h
    refine r_getR C fw_RX10_7 rfl ht hb dX10_gets_90 ?_
    refine r_iload_n C 1 dX10_gets_93 rfl rfl ?_
    refine r_iload C dX10_gets_94 rfl ?_
    refine r_iadd C dX10_gets_96 ?_
    refine r_iconst C 2 dX10_gets_97 (by decide) ?_
    refine r_iadd C dX10_gets_98 ?_
    obtain ⟨ht, hi, h⟩ := h
    refine r_ialdP C ht hi dX10_gets_99 ?_
    obtain ⟨ht, hi, h⟩ := h
    refine r_iastP C ht hi dX10_gets_100 ?_
    refine r_nm (fun G43 hG43 => ?_)
    replace h := h G43 hG43
    refine r_iinc C 1 (lv' := [some (.ref a0), some (.int x1), some (.int x2), some (.int x3), some (.int (x4 + 1)), none, none]) dX10_gets_101 rfl (by decide) rfl rfl ?_
    refine r_goto C 74 dX10_gets_104 (by decide) ?_
    exact hk74 _ _ _ _ _ _ h
theorem lX10_gets_74 {X : Xt} {K : Kt} {l : Launch} {G0 : Gt} {Pr : Gt → Prop} (B : BX X K l cX10_gets 7 RX10 3 67 G0 none "gets") (I : Gt → Nat → Int32 → Int32 → Int32 → Int32 → Prop) (μ : Gt → Nat → Int32 → Int32 → Int32 → Int32 → Nat) (hS : ∀ (G : Gt) (a0 : Nat) (x1 : Int32) (x2 : Int32) (x3 : Int32) (x4 : Int32), I G a0 x1 x2 x3 x4 → wX10_gets_74 X Pr (fun G' a0' x1' x2' x3' x4' => I G' a0' x1' x2' x3' x4' ∧ μ G' a0' x1' x2' x3' x4' < μ G a0 x1 x2 x3 x4) G a0 x1 x2 x3 x4) : ∀ (n : Nat) (G : Gt) (a0 : Nat) (x1 : Int32) (x2 : Int32) (x3 : Int32) (x4 : Int32), μ G a0 x1 x2 x3 x4 < n → I G a0 x1 x2 x3 x4 → WM X K (QM X K G0 (rV Pr) noX) G 74 [some (.ref a0), some (.int x1), some (.int x2), some (.int x3), some (.int x4), none, none] [] := by
  intro n
  induction n with
  | zero => intro G a0 x1 x2 x3 x4 hm; exact absurd hm (Nat.not_lt_zero _)
  | succ n ih =>
    intro G a0 x1 x2 x3 x4 hm hi
    exact bX10_gets_74 B (fun G' a0' x1' x2' x3' x4' hk => ih G' a0' x1' x2' x3' x4' (Nat.lt_of_lt_of_le hk.2 (Nat.le_of_lt_succ hm)) hk.1) (hS G a0 x1 x2 x3 x4 hi)
def wX10_gets_51 (X : Xt) (Pr : Gt → Prop) (G : Gt) (a0 : Nat) (x1 : Int32) (x2 : Int32) (sx0 : Int32) : Prop := gT G a0 = (1, 11) ∧ ∃ b1, gR G 352 a0 = some b1 ∧ (gT G b1).1 = 2 ∧ vp_in x1 (gT G b1).2 ∧ ((gA G b1 x1.toNatClampNeg) ≤ 0 → wX10_gets_107 X Pr G a0 x2 sx0) ∧ (¬ ((gA G b1 x1.toNatClampNeg) ≤ 0) → gT G a0 = (1, 11) ∧ ∃ b42, gR G 352 a0 = some b42 ∧ (gT G b42).1 = 2 ∧ vp_in x1 (gT G b42).2 ∧ (gT G b42).1 = 2 ∧ vp_in x1 (gT G b42).2 ∧ ∀ G43, G43 = sA G b42 (upd (gA G b42) x1.toNatClampNeg ((gA G b42 x1.toNatClampNeg) - 1)) → ∃ (I : Gt → Nat → Int32 → Int32 → Int32 → Int32 → Prop) (μ : Gt → Nat → Int32 → Int32 → Int32 → Int32 → Nat), I G43 a0 x1 x2 sx0 (1 : Int32) ∧ ∀ (G : Gt) (a0 : Nat) (x1 : Int32) (x2 : Int32) (x3 : Int32) (x4 : Int32), I G a0 x1 x2 x3 x4 → wX10_gets_74 X Pr (fun G' a0' x1' x2' x3' x4' => I G' a0' x1' x2' x3' x4' ∧ μ G' a0' x1' x2' x3' x4' < μ G a0 x1 x2 x3 x4) G a0 x1 x2 x3 x4)
set_option maxRecDepth 20000 in
theorem bX10_gets_51 {X : Xt} {K : Kt} {l : Launch} {G0 : Gt} {Pr : Gt → Prop} (B : BX X K l cX10_gets 7 RX10 3 67 G0 none "gets") {G : Gt} {a0 : Nat} {x1 : Int32} {x2 : Int32} {sx0 : Int32} (h : wX10_gets_51 X Pr G a0 x1 x2 sx0) : WM X K (QM X K G0 (rV Pr) noX) G 51 [some (.ref a0), some (.int x1), some (.int x2), none, none, none, none] [.int sx0] := by
  obtain ⟨hL, C, E0, hr, hnm, hex, hfl⟩ := id B
  unfold wX10_gets_51 at h
  refine r_istore_n C 3 (lv' := [some (.ref a0), some (.int x1), some (.int x2), some (.int sx0), none, none, none]) dX10_gets_51 rfl (Nat.le_of_ble_eq_true rfl) rfl rfl ?_
  refine r_aloadR_n C 0 dX10_gets_52 rfl rfl ?_
  obtain ⟨ht, h⟩ := h
  obtain ⟨b1, hb, h⟩ := h
  refine r_getR C fw_RX10_7 rfl ht hb dX10_gets_53 ?_
  refine r_iload_n C 1 dX10_gets_56 rfl rfl ?_
  obtain ⟨ht, hi, h⟩ := h
  refine r_ialdP C ht hi dX10_gets_57 ?_
  refine r_if_le C 107 dX10_gets_58 (by decide) (fun c => ?_) (fun c => ?_)
  · replace h := h.1 c
    refine r_fg (lv' := [some (.ref a0), none, some (.int x2), some (.int sx0), none, none, none]) (show fgt _ _ from ⟨rfl, ⟨rfl, ⟨rfl, trivial⟩⟩⟩) ?_
    exact bX10_gets_107 B h
  · replace h := h.2 c
    refine r_aloadR_n C 0 dX10_gets_61 rfl rfl ?_
    obtain ⟨ht, h⟩ := h
    obtain ⟨b42, hb, h⟩ := h
    refine r_getR C fw_RX10_7 rfl ht hb dX10_gets_62 ?_
    refine r_iload_n C 1 dX10_gets_65 rfl rfl ?_
    refine r_dup2 C dX10_gets_66 rfl rfl ?_
    obtain ⟨ht, hi, h⟩ := h
    refine r_ialdP C ht hi dX10_gets_67 ?_
    refine r_iconst C 1 dX10_gets_68 (by decide) ?_
    refine r_isub C dX10_gets_69 ?_
    obtain ⟨ht, hi, h⟩ := h
    refine r_iastP C ht hi dX10_gets_70 ?_
    refine r_nm (fun G43 hG43 => ?_)
    replace h := h G43 hG43
    refine r_iconst C 1 dX10_gets_71 (by decide) ?_
    refine r_istore C (lv' := [some (.ref a0), some (.int x1), some (.int x2), some (.int sx0), some (.int 1), none, none]) dX10_gets_72 (Nat.le_of_ble_eq_true rfl) rfl rfl ?_
    obtain ⟨I, μ, hI, hS⟩ := h
    exact lX10_gets_74 B I μ hS _ _ _ _ _ _ _ (Nat.lt_succ_self _) hI
def wX10_gets_29 (X : Xt) (Pr : Gt → Prop) (G : Gt) (a0 : Nat) (x1 : Int32) (sx0 : Int32) : Prop := gT G a0 = (1, 11) ∧ ∃ b1, gR G 352 a0 = some b1 ∧ (gT G b1).1 = 2 ∧ vp_in x1 (gT G b1).2 ∧ ((gA G b1 x1.toNatClampNeg) ≤ 0 → wX10_gets_51 X Pr G a0 x1 sx0 (0 : Int32)) ∧ (¬ ((gA G b1 x1.toNatClampNeg) ≤ 0) → gT G a0 = (1, 11) ∧ ∃ b42, gR G 352 a0 = some b42 ∧ (gT G b42).1 = 2 ∧ vp_in (x1 + 2) (gT G b42).2 ∧ wX10_gets_51 X Pr G a0 x1 sx0 (gA G b42 (x1 + 2).toNatClampNeg))
set_option maxRecDepth 20000 in
theorem bX10_gets_29 {X : Xt} {K : Kt} {l : Launch} {G0 : Gt} {Pr : Gt → Prop} (B : BX X K l cX10_gets 7 RX10 3 67 G0 none "gets") {G : Gt} {a0 : Nat} {x1 : Int32} {sx0 : Int32} (h : wX10_gets_29 X Pr G a0 x1 sx0) : WM X K (QM X K G0 (rV Pr) noX) G 29 [some (.ref a0), some (.int x1), none, none, none, none, none] [.int sx0] := by
  obtain ⟨hL, C, E0, hr, hnm, hex, hfl⟩ := id B
  unfold wX10_gets_29 at h
  refine r_istore_n C 2 (lv' := [some (.ref a0), some (.int x1), some (.int sx0), none, none, none, none]) dX10_gets_29 rfl (Nat.le_of_ble_eq_true rfl) rfl rfl ?_
  refine r_aloadR_n C 0 dX10_gets_30 rfl rfl ?_
  obtain ⟨ht, h⟩ := h
  obtain ⟨b1, hb, h⟩ := h
  refine r_getR C fw_RX10_7 rfl ht hb dX10_gets_31 ?_
  refine r_iload_n C 1 dX10_gets_34 rfl rfl ?_
  obtain ⟨ht, hi, h⟩ := h
  refine r_ialdP C ht hi dX10_gets_35 ?_
  refine r_if_le C 50 dX10_gets_36 (by decide) (fun c => ?_) (fun c => ?_)
  · replace h := h.1 c
    refine r_iconst C 0 dX10_gets_50 (by decide) ?_
    exact bX10_gets_51 B h
  · replace h := h.2 c
    refine r_aloadR_n C 0 dX10_gets_39 rfl rfl ?_
    obtain ⟨ht, h⟩ := h
    obtain ⟨b42, hb, h⟩ := h
    refine r_getR C fw_RX10_7 rfl ht hb dX10_gets_40 ?_
    refine r_iload_n C 1 dX10_gets_43 rfl rfl ?_
    refine r_iconst C 2 dX10_gets_44 (by decide) ?_
    refine r_iadd C dX10_gets_45 ?_
    obtain ⟨ht, hi, h⟩ := h
    refine r_ialdP C ht hi dX10_gets_46 ?_
    refine r_goto C 51 dX10_gets_47 (by decide) ?_
    exact bX10_gets_51 B h
def wX10_gets (X : Xt) (G : Gt) (a0 : Nat) (Pr : Gt → Prop) : Prop := gT G a0 = (1, 11) ∧ wX10_faults X G (gI G 360 a0) (fun r1 G2 => gT G2 a0 = (1, 11) ∧ ∃ b3, gR G2 352 a0 = some b3 ∧ (gT G2 b3).1 = 2 ∧ vp_in r1 (gT G2 b3).2 ∧ ((gA G2 b3 r1.toNatClampNeg) ≤ 0 → wX10_gets_29 X Pr G2 a0 r1 (0 : Int32)) ∧ (¬ ((gA G2 b3 r1.toNatClampNeg) ≤ 0) → gT G2 a0 = (1, 11) ∧ ∃ b44, gR G2 352 a0 = some b44 ∧ (gT G2 b44).1 = 2 ∧ vp_in (r1 + 1) (gT G2 b44).2 ∧ wX10_gets_29 X Pr G2 a0 r1 (gA G2 b44 (r1 + 1).toNatClampNeg)))
set_option maxRecDepth 20000 in
theorem mX10_gets {X : Xt} {l : Launch} (hfl : l.stackTraces = false) {G : Gt} {a0 : Nat} {Pr : Gt → Prop} (h : wX10_gets X G a0 Pr) : Mc X l yX10_gets (.code yX10_gets cX10_gets 7 none) 3 67 [.ref a0] G (rV Pr) noX := by
  refine Mc.of (by decide +kernel) hfl [some (.ref a0), none, none, none, none, none, none] rfl (Nat.le_of_ble_eq_true rfl) rfl ?_
  intro K hL C E0 hr hnm hex
  have B : BX X K l cX10_gets 7 RX10 3 67 G none "gets" := ⟨hL, C, E0, hr, hnm, hex, hfl⟩
  have C : Cx X K cX10_gets 7 RX10 3 67 := C
  unfold wX10_gets at h
  refine r_aloadR_n C 0 dX10_gets_0 rfl rfl ?_
  obtain ⟨ht, h⟩ := h
  refine r_getI C fw_RX10_91 rfl ht dX10_gets_1 ?_
  refine r_callS C hL yw_X10_faults sw_RX10_58 rfl rfl (Nat.le_of_ble_eq_true rfl) ⟨(Nat.le_of_ble_eq_true rfl), (Nat.le_of_ble_eq_true rfl)⟩ (mX10_faults hfl h) rfl dX10_gets_4 (kI (fun r1 G2 h => ?_)) kN
  refine r_istore_n C 1 (lv' := [some (.ref a0), some (.int r1), none, none, none, none, none]) dX10_gets_7 rfl (Nat.le_of_ble_eq_true rfl) rfl rfl ?_
  refine r_aloadR_n C 0 dX10_gets_8 rfl rfl ?_
  obtain ⟨ht, h⟩ := h
  obtain ⟨b3, hb, h⟩ := h
  refine r_getR C fw_RX10_7 rfl ht hb dX10_gets_9 ?_
  refine r_iload_n C 1 dX10_gets_12 rfl rfl ?_
  obtain ⟨ht, hi, h⟩ := h
  refine r_ialdP C ht hi dX10_gets_13 ?_
  refine r_if_le C 28 dX10_gets_14 (by decide) (fun c => ?_) (fun c => ?_)
  · replace h := h.1 c
    refine r_iconst C 0 dX10_gets_28 (by decide) ?_
    exact bX10_gets_29 B h
  · replace h := h.2 c
    refine r_aloadR_n C 0 dX10_gets_17 rfl rfl ?_
    obtain ⟨ht, h⟩ := h
    obtain ⟨b44, hb, h⟩ := h
    refine r_getR C fw_RX10_7 rfl ht hb dX10_gets_18 ?_
    refine r_iload_n C 1 dX10_gets_21 rfl rfl ?_
    refine r_iconst C 1 dX10_gets_22 (by decide) ?_
    refine r_iadd C dX10_gets_23 ?_
    obtain ⟨ht, hi, h⟩ := h
    refine r_ialdP C ht hi dX10_gets_24 ?_
    refine r_goto C 29 dX10_gets_25 (by decide) ?_
    exact bX10_gets_29 B h
def wX10_goes_20 (X : Xt) (Pr : Gt → Prop) (k20 : Gt → Nat → Int32 → Prop) (G : Gt) (a0 : Nat) (x2 : Int32) : Prop := gT G a0 = (1, 11) ∧ ∃ b1, gR G 352 a0 = some b1 ∧ (gT G b1).1 = 2 ∧ vp_in 9 (gT G b1).2 ∧ ((1700 + (42 * (gA G b1 (9 : Int32).toNatClampNeg))) ≤ x2 → Pr G) ∧ (¬ ((1700 + (42 * (gA G b1 (9 : Int32).toNatClampNeg))) ≤ x2) → gT G a0 = (1, 11) ∧ ∃ b42, gR G 352 a0 = some b42 ∧ gT G a0 = (1, 11) ∧ ∃ b43, gR G 352 a0 = some b43 ∧ (gT G b43).1 = 2 ∧ vp_in (x2 + 42) (gT G b43).2 ∧ (gT G b42).1 = 2 ∧ vp_in x2 (gT G b42).2 ∧ ∀ G44, G44 = sA G b42 (upd (gA G b42) x2.toNatClampNeg (gA G b43 (x2 + 42).toNatClampNeg)) → k20 G44 a0 (x2 + 1))
set_option maxRecDepth 20000 in
theorem bX10_goes_20 {X : Xt} {K : Kt} {l : Launch} {G0 : Gt} {Pr : Gt → Prop} (B : BX X K l cX10_goes 3 RX10 0 0 G0 none "goes") {k20 : Gt → Nat → Int32 → Prop} (hk20 : ∀ (G : Gt) (a0 : Nat) (x2 : Int32), k20 G a0 x2 → WM X K (QM X K G0 (rV Pr) noX) G 20 [some (.ref a0), none, some (.int x2)] []) {G : Gt} {a0 : Nat} {x2 : Int32} (h : wX10_goes_20 X Pr k20 G a0 x2) : WM X K (QM X K G0 (rV Pr) noX) G 20 [some (.ref a0), none, some (.int x2)] [] := by
  obtain ⟨hL, C, E0, hr, hnm, hex, hfl⟩ := id B
  unfold wX10_goes_20 at h
  refine r_iload_n C 2 dX10_goes_20 rfl rfl ?_
  refine r_sipush C 1700 dX10_goes_21 (by decide) ?_
  refine r_bipush C 42 dX10_goes_24 (by decide) ?_
  refine r_aloadR_n C 0 dX10_goes_26 rfl rfl ?_
  obtain ⟨ht, h⟩ := h
  obtain ⟨b1, hb, h⟩ := h
  refine r_getR C fw_RX10_7 rfl ht hb dX10_goes_27 ?_
  refine r_bipush C 9 dX10_goes_30 (by decide) ?_
  obtain ⟨ht, hi, h⟩ := h
  refine r_ialdP C ht hi dX10_goes_32 ?_
  refine r_imul C dX10_goes_33 ?_
  refine r_iadd C dX10_goes_34 ?_
  refine r_icmp_ge C 59 dX10_goes_35 (by decide) (fun c => ?_) (fun c => ?_)
  · replace h := h.1 c
    exact r_vret C E0 hr ⟨rfl, h⟩ dX10_goes_59
  · replace h := h.2 c
    refine r_aloadR_n C 0 dX10_goes_38 rfl rfl ?_
    obtain ⟨ht, h⟩ := h
    obtain ⟨b42, hb, h⟩ := h
    refine r_getR C fw_RX10_7 rfl ht hb dX10_goes_39 ?_
    refine r_iload_n C 2 dX10_goes_42 rfl rfl ?_
    refine r_aloadR_n C 0 dX10_goes_43 rfl rfl ?_
    obtain ⟨ht, h⟩ := h
    obtain ⟨b43, hb, h⟩ := h
    refine r_getR C fw_RX10_7 rfl ht hb dX10_goes_44 ?_
    refine r_iload_n C 2 dX10_goes_47 rfl rfl ?_
    refine r_bipush C 42 dX10_goes_48 (by decide) ?_
    refine r_iadd C dX10_goes_50 ?_
    obtain ⟨ht, hi, h⟩ := h
    refine r_ialdP C ht hi dX10_goes_51 ?_
    obtain ⟨ht, hi, h⟩ := h
    refine r_iastP C ht hi dX10_goes_52 ?_
    refine r_nm (fun G44 hG44 => ?_)
    replace h := h G44 hG44
    refine r_iinc C 1 (lv' := [some (.ref a0), none, some (.int (x2 + 1))]) dX10_goes_53 rfl (by decide) rfl rfl ?_
    refine r_goto C 20 dX10_goes_56 (by decide) ?_
    exact hk20 _ _ _ h
theorem lX10_goes_20 {X : Xt} {K : Kt} {l : Launch} {G0 : Gt} {Pr : Gt → Prop} (B : BX X K l cX10_goes 3 RX10 0 0 G0 none "goes") (I : Gt → Nat → Int32 → Prop) (μ : Gt → Nat → Int32 → Nat) (hS : ∀ (G : Gt) (a0 : Nat) (x2 : Int32), I G a0 x2 → wX10_goes_20 X Pr (fun G' a0' x2' => I G' a0' x2' ∧ μ G' a0' x2' < μ G a0 x2) G a0 x2) : ∀ (n : Nat) (G : Gt) (a0 : Nat) (x2 : Int32), μ G a0 x2 < n → I G a0 x2 → WM X K (QM X K G0 (rV Pr) noX) G 20 [some (.ref a0), none, some (.int x2)] [] := by
  intro n
  induction n with
  | zero => intro G a0 x2 hm; exact absurd hm (Nat.not_lt_zero _)
  | succ n ih =>
    intro G a0 x2 hm hi
    exact bX10_goes_20 B (fun G' a0' x2' hk => ih G' a0' x2' (Nat.lt_of_lt_of_le hk.2 (Nat.le_of_lt_succ hm)) hk.1) (hS G a0 x2 hi)
def wX10_goes (X : Xt) (G : Gt) (a0 : Nat) (x1 : Int32) (Pr : Gt → Prop) : Prop := gT G a0 = (1, 11) ∧ ∃ b1, gR G 352 a0 = some b1 ∧ (gT G b1).1 = 2 ∧ vp_in 9 (gT G b1).2 ∧ (gT G b1).1 = 2 ∧ vp_in 9 (gT G b1).2 ∧ ∀ G2, G2 = sA G b1 (upd (gA G b1) (9 : Int32).toNatClampNeg ((gA G b1 (9 : Int32).toNatClampNeg) - 1)) → ∃ (I : Gt → Nat → Int32 → Prop) (μ : Gt → Nat → Int32 → Nat), I G2 a0 (1700 + (42 * x1)) ∧ ∀ (G : Gt) (a0 : Nat) (x2 : Int32), I G a0 x2 → wX10_goes_20 X Pr (fun G' a0' x2' => I G' a0' x2' ∧ μ G' a0' x2' < μ G a0 x2) G a0 x2
set_option maxRecDepth 20000 in
theorem mX10_goes {X : Xt} {l : Launch} (hfl : l.stackTraces = false) {G : Gt} {a0 : Nat} {x1 : Int32} {Pr : Gt → Prop} (h : wX10_goes X G a0 x1 Pr) : Mc X l yX10_goes (.code yX10_goes cX10_goes 3 none) 0 0 [.ref a0, .int x1] G (rV Pr) noX := by
  refine Mc.of (by decide +kernel) hfl [some (.ref a0), some (.int x1), none] rfl (Nat.le_of_ble_eq_true rfl) rfl ?_
  intro K hL C E0 hr hnm hex
  have B : BX X K l cX10_goes 3 RX10 0 0 G none "goes" := ⟨hL, C, E0, hr, hnm, hex, hfl⟩
  have C : Cx X K cX10_goes 3 RX10 0 0 := C
  unfold wX10_goes at h
  refine r_aloadR_n C 0 dX10_goes_0 rfl rfl ?_
  obtain ⟨ht, h⟩ := h
  obtain ⟨b1, hb, h⟩ := h
  refine r_getR C fw_RX10_7 rfl ht hb dX10_goes_1 ?_
  refine r_bipush C 9 dX10_goes_4 (by decide) ?_
  refine r_dup2 C dX10_goes_6 rfl rfl ?_
  obtain ⟨ht, hi, h⟩ := h
  refine r_ialdP C ht hi dX10_goes_7 ?_
  refine r_iconst C 1 dX10_goes_8 (by decide) ?_
  refine r_isub C dX10_goes_9 ?_
  obtain ⟨ht, hi, h⟩ := h
  refine r_iastP C ht hi dX10_goes_10 ?_
  refine r_nm (fun G2 hG2 => ?_)
  replace h := h G2 hG2
  refine r_sipush C 1700 dX10_goes_11 (by decide) ?_
  refine r_bipush C 42 dX10_goes_14 (by decide) ?_
  refine r_iload_n C 1 dX10_goes_16 rfl rfl ?_
  refine r_imul C dX10_goes_17 ?_
  refine r_iadd C dX10_goes_18 ?_
  refine r_istore_n C 2 (lv' := [some (.ref a0), some (.int x1), some (.int (1700 + (42 * x1)))]) dX10_goes_19 rfl (Nat.le_of_ble_eq_true rfl) rfl rfl ?_
  refine r_fg (lv' := [some (.ref a0), none, some (.int (1700 + (42 * x1)))]) (show fgt _ _ from ⟨rfl, ⟨rfl, trivial⟩⟩) ?_
  obtain ⟨I, μ, hI, hS⟩ := h
  exact lX10_goes_20 B I μ hS _ _ _ _ (Nat.lt_succ_self _) hI
def wX10_earliest_5 (X : Xt) (Pr : Int32 → Gt → Prop) (k5 : Gt → Nat → Int32 → Int32 → Int32 → Int32 → Prop) (G : Gt) (a0 : Nat) (x1 : Int32) (x2 : Int32) (x3 : Int32) (x4 : Int32) : Prop := gT G a0 = (1, 11) ∧ ∃ b1, gR G 352 a0 = some b1 ∧ (gT G b1).1 = 2 ∧ vp_in 9 (gT G b1).2 ∧ ((gA G b1 (9 : Int32).toNatClampNeg) ≤ x4 → Pr x3 G) ∧ (¬ ((gA G b1 (9 : Int32).toNatClampNeg) ≤ x4) → gT G a0 = (1, 11) ∧ ∃ b42, gR G 352 a0 = some b42 ∧ (gT G b42).1 = 2 ∧ vp_in (1700 + (42 * x4)) (gT G b42).2 ∧ wX10_in X G (gA G b42 (1700 + (42 * x4)).toNatClampNeg) x1 x2 (fun r43 G44 => (r43 = 0 → k5 G44 a0 x1 x2 x3 (x4 + 1)) ∧ (¬ (r43 = 0) → (x3 < 0 → k5 G44 a0 x1 x2 x4 (x4 + 1)) ∧ (¬ (x3 < 0) → gT G44 a0 = (1, 11) ∧ ∃ b125, gR G44 352 a0 = some b125 ∧ (gT G44 b125).1 = 2 ∧ vp_in (1700 + (42 * x3)) (gT G44 b125).2 ∧ ((gA G44 b125 (1700 + (42 * x3)).toNatClampNeg) ≤ (gA G b42 (1700 + (42 * x4)).toNatClampNeg) → k5 G44 a0 x1 x2 x3 (x4 + 1)) ∧ (¬ ((gA G44 b125 (1700 + (42 * x3)).toNatClampNeg) ≤ (gA G b42 (1700 + (42 * x4)).toNatClampNeg)) → k5 G44 a0 x1 x2 x4 (x4 + 1))))))
set_option maxRecDepth 20000 in
theorem bX10_earliest_5 {X : Xt} {K : Kt} {l : Launch} {G0 : Gt} {Pr : Int32 → Gt → Prop} (B : BX X K l cX10_earliest 6 RX10 1 22 G0 (some (.int)) "earliest") {k5 : Gt → Nat → Int32 → Int32 → Int32 → Int32 → Prop} (hk5 : ∀ (G : Gt) (a0 : Nat) (x1 : Int32) (x2 : Int32) (x3 : Int32) (x4 : Int32), k5 G a0 x1 x2 x3 x4 → WM X K (QM X K G0 (rI Pr) noX) G 5 [some (.ref a0), some (.int x1), some (.int x2), some (.int x3), some (.int x4), none] []) {G : Gt} {a0 : Nat} {x1 : Int32} {x2 : Int32} {x3 : Int32} {x4 : Int32} (h : wX10_earliest_5 X Pr k5 G a0 x1 x2 x3 x4) : WM X K (QM X K G0 (rI Pr) noX) G 5 [some (.ref a0), some (.int x1), some (.int x2), some (.int x3), some (.int x4), none] [] := by
  obtain ⟨hL, C, E0, hr, hnm, hex, hfl⟩ := id B
  unfold wX10_earliest_5 at h
  refine r_iload C dX10_earliest_5 rfl ?_
  refine r_aloadR_n C 0 dX10_earliest_7 rfl rfl ?_
  obtain ⟨ht, h⟩ := h
  obtain ⟨b1, hb, h⟩ := h
  refine r_getR C fw_RX10_7 rfl ht hb dX10_earliest_8 ?_
  refine r_bipush C 9 dX10_earliest_11 (by decide) ?_
  obtain ⟨ht, hi, h⟩ := h
  refine r_ialdP C ht hi dX10_earliest_13 ?_
  refine r_icmp_ge C 78 dX10_earliest_14 (by decide) (fun c => ?_) (fun c => ?_)
  · replace h := h.1 c
    refine r_iload_n C 3 dX10_earliest_78 rfl rfl ?_
    exact r_iret C E0 hr ⟨_, rfl, h⟩ dX10_earliest_79
  · replace h := h.2 c
    refine r_aloadR_n C 0 dX10_earliest_17 rfl rfl ?_
    obtain ⟨ht, h⟩ := h
    obtain ⟨b42, hb, h⟩ := h
    refine r_getR C fw_RX10_7 rfl ht hb dX10_earliest_18 ?_
    refine r_sipush C 1700 dX10_earliest_21 (by decide) ?_
    refine r_bipush C 42 dX10_earliest_24 (by decide) ?_
    refine r_iload C dX10_earliest_26 rfl ?_
    refine r_imul C dX10_earliest_28 ?_
    refine r_iadd C dX10_earliest_29 ?_
    obtain ⟨ht, hi, h⟩ := h
    refine r_ialdP C ht hi dX10_earliest_30 ?_
    refine r_istore C (lv' := [some (.ref a0), some (.int x1), some (.int x2), some (.int x3), some (.int x4), some (.int (gA G b42 (1700 + (42 * x4)).toNatClampNeg))]) dX10_earliest_31 (Nat.le_of_ble_eq_true rfl) rfl rfl ?_
    refine r_iload C dX10_earliest_33 rfl ?_
    refine r_iload_n C 1 dX10_earliest_35 rfl rfl ?_
    refine r_iload_n C 2 dX10_earliest_36 rfl rfl ?_
    refine r_callS C hL yw_X10_in sw_RX10_39 rfl rfl (Nat.le_of_ble_eq_true rfl) ⟨(Nat.le_of_ble_eq_true rfl), (Nat.le_of_ble_eq_true rfl)⟩ (mX10_in hfl h) rfl dX10_earliest_37 (kI (fun r43 G44 h => ?_)) kN
    refine r_if_eq C 70 dX10_earliest_40 (by decide) (fun c => ?_) (fun c => ?_)
    · replace h := h.1 c
      refine r_iload_n C 3 dX10_earliest_70 rfl rfl ?_
      refine r_istore_n C 3 (lv' := [some (.ref a0), some (.int x1), some (.int x2), some (.int x3), some (.int x4), some (.int (gA G b42 (1700 + (42 * x4)).toNatClampNeg))]) dX10_earliest_71 rfl (Nat.le_of_ble_eq_true rfl) rfl rfl ?_
      refine r_iinc C 1 (lv' := [some (.ref a0), some (.int x1), some (.int x2), some (.int x3), some (.int (x4 + 1)), some (.int (gA G b42 (1700 + (42 * x4)).toNatClampNeg))]) dX10_earliest_72 rfl (by decide) rfl rfl ?_
      refine r_goto C 5 dX10_earliest_75 (by decide) ?_
      refine r_fg (lv' := [some (.ref a0), some (.int x1), some (.int x2), some (.int x3), some (.int (x4 + 1)), none]) (show fgt _ _ from ⟨rfl, ⟨rfl, ⟨rfl, ⟨rfl, ⟨rfl, trivial⟩⟩⟩⟩⟩) ?_
      exact hk5 _ _ _ _ _ _ h
    · replace h := h.2 c
      refine r_iload_n C 3 dX10_earliest_43 rfl rfl ?_
      refine r_if_lt C 65 dX10_earliest_44 (by decide) (fun c => ?_) (fun c => ?_)
      · replace h := h.1 c
        refine r_iload C dX10_earliest_65 rfl ?_
        refine r_goto C 71 dX10_earliest_67 (by decide) ?_
        refine r_istore_n C 3 (lv' := [some (.ref a0), some (.int x1), some (.int x2), some (.int x4), some (.int x4), some (.int (gA G b42 (1700 + (42 * x4)).toNatClampNeg))]) dX10_earliest_71 rfl (Nat.le_of_ble_eq_true rfl) rfl rfl ?_
        refine r_iinc C 1 (lv' := [some (.ref a0), some (.int x1), some (.int x2), some (.int x4), some (.int (x4 + 1)), some (.int (gA G b42 (1700 + (42 * x4)).toNatClampNeg))]) dX10_earliest_72 rfl (by decide) rfl rfl ?_
        refine r_goto C 5 dX10_earliest_75 (by decide) ?_
        refine r_fg (lv' := [some (.ref a0), some (.int x1), some (.int x2), some (.int x4), some (.int (x4 + 1)), none]) (show fgt _ _ from ⟨rfl, ⟨rfl, ⟨rfl, ⟨rfl, ⟨rfl, trivial⟩⟩⟩⟩⟩) ?_
        exact hk5 _ _ _ _ _ _ h
      · replace h := h.2 c
        refine r_iload C dX10_earliest_47 rfl ?_
        refine r_aloadR_n C 0 dX10_earliest_49 rfl rfl ?_
        obtain ⟨ht, h⟩ := h
        obtain ⟨b125, hb, h⟩ := h
        refine r_getR C fw_RX10_7 rfl ht hb dX10_earliest_50 ?_
        refine r_sipush C 1700 dX10_earliest_53 (by decide) ?_
        refine r_bipush C 42 dX10_earliest_56 (by decide) ?_
        refine r_iload_n C 3 dX10_earliest_58 rfl rfl ?_
        refine r_imul C dX10_earliest_59 ?_
        refine r_iadd C dX10_earliest_60 ?_
        obtain ⟨ht, hi, h⟩ := h
        refine r_ialdP C ht hi dX10_earliest_61 ?_
        refine r_icmp_ge C 70 dX10_earliest_62 (by decide) (fun c => ?_) (fun c => ?_)
        · replace h := h.1 c
          refine r_iload_n C 3 dX10_earliest_70 rfl rfl ?_
          refine r_istore_n C 3 (lv' := [some (.ref a0), some (.int x1), some (.int x2), some (.int x3), some (.int x4), some (.int (gA G b42 (1700 + (42 * x4)).toNatClampNeg))]) dX10_earliest_71 rfl (Nat.le_of_ble_eq_true rfl) rfl rfl ?_
          refine r_iinc C 1 (lv' := [some (.ref a0), some (.int x1), some (.int x2), some (.int x3), some (.int (x4 + 1)), some (.int (gA G b42 (1700 + (42 * x4)).toNatClampNeg))]) dX10_earliest_72 rfl (by decide) rfl rfl ?_
          refine r_goto C 5 dX10_earliest_75 (by decide) ?_
          refine r_fg (lv' := [some (.ref a0), some (.int x1), some (.int x2), some (.int x3), some (.int (x4 + 1)), none]) (show fgt _ _ from ⟨rfl, ⟨rfl, ⟨rfl, ⟨rfl, ⟨rfl, trivial⟩⟩⟩⟩⟩) ?_
          exact hk5 _ _ _ _ _ _ h
        · replace h := h.2 c
          refine r_iload C dX10_earliest_65 rfl ?_
          refine r_goto C 71 dX10_earliest_67 (by decide) ?_
          refine r_istore_n C 3 (lv' := [some (.ref a0), some (.int x1), some (.int x2), some (.int x4), some (.int x4), some (.int (gA G b42 (1700 + (42 * x4)).toNatClampNeg))]) dX10_earliest_71 rfl (Nat.le_of_ble_eq_true rfl) rfl rfl ?_
          refine r_iinc C 1 (lv' := [some (.ref a0), some (.int x1), some (.int x2), some (.int x4), some (.int (x4 + 1)), some (.int (gA G b42 (1700 + (42 * x4)).toNatClampNeg))]) dX10_earliest_72 rfl (by decide) rfl rfl ?_
          refine r_goto C 5 dX10_earliest_75 (by decide) ?_
          refine r_fg (lv' := [some (.ref a0), some (.int x1), some (.int x2), some (.int x4), some (.int (x4 + 1)), none]) (show fgt _ _ from ⟨rfl, ⟨rfl, ⟨rfl, ⟨rfl, ⟨rfl, trivial⟩⟩⟩⟩⟩) ?_
          exact hk5 _ _ _ _ _ _ h
theorem lX10_earliest_5 {X : Xt} {K : Kt} {l : Launch} {G0 : Gt} {Pr : Int32 → Gt → Prop} (B : BX X K l cX10_earliest 6 RX10 1 22 G0 (some (.int)) "earliest") (I : Gt → Nat → Int32 → Int32 → Int32 → Int32 → Prop) (μ : Gt → Nat → Int32 → Int32 → Int32 → Int32 → Nat) (hS : ∀ (G : Gt) (a0 : Nat) (x1 : Int32) (x2 : Int32) (x3 : Int32) (x4 : Int32), I G a0 x1 x2 x3 x4 → wX10_earliest_5 X Pr (fun G' a0' x1' x2' x3' x4' => I G' a0' x1' x2' x3' x4' ∧ μ G' a0' x1' x2' x3' x4' < μ G a0 x1 x2 x3 x4) G a0 x1 x2 x3 x4) : ∀ (n : Nat) (G : Gt) (a0 : Nat) (x1 : Int32) (x2 : Int32) (x3 : Int32) (x4 : Int32), μ G a0 x1 x2 x3 x4 < n → I G a0 x1 x2 x3 x4 → WM X K (QM X K G0 (rI Pr) noX) G 5 [some (.ref a0), some (.int x1), some (.int x2), some (.int x3), some (.int x4), none] [] := by
  intro n
  induction n with
  | zero => intro G a0 x1 x2 x3 x4 hm; exact absurd hm (Nat.not_lt_zero _)
  | succ n ih =>
    intro G a0 x1 x2 x3 x4 hm hi
    exact bX10_earliest_5 B (fun G' a0' x1' x2' x3' x4' hk => ih G' a0' x1' x2' x3' x4' (Nat.lt_of_lt_of_le hk.2 (Nat.le_of_lt_succ hm)) hk.1) (hS G a0 x1 x2 x3 x4 hi)
def wX10_earliest (X : Xt) (G : Gt) (a0 : Nat) (x1 : Int32) (x2 : Int32) (Pr : Int32 → Gt → Prop) : Prop := ∃ (I : Gt → Nat → Int32 → Int32 → Int32 → Int32 → Prop) (μ : Gt → Nat → Int32 → Int32 → Int32 → Int32 → Nat), I G a0 x1 x2 ((-1) : Int32) (0 : Int32) ∧ ∀ (G : Gt) (a0 : Nat) (x1 : Int32) (x2 : Int32) (x3 : Int32) (x4 : Int32), I G a0 x1 x2 x3 x4 → wX10_earliest_5 X Pr (fun G' a0' x1' x2' x3' x4' => I G' a0' x1' x2' x3' x4' ∧ μ G' a0' x1' x2' x3' x4' < μ G a0 x1 x2 x3 x4) G a0 x1 x2 x3 x4
set_option maxRecDepth 20000 in
theorem mX10_earliest {X : Xt} {l : Launch} (hfl : l.stackTraces = false) {G : Gt} {a0 : Nat} {x1 : Int32} {x2 : Int32} {Pr : Int32 → Gt → Prop} (h : wX10_earliest X G a0 x1 x2 Pr) : Mc X l yX10_earliest (.code yX10_earliest cX10_earliest 6 (some (.int))) 1 22 [.ref a0, .int x1, .int x2] G (rI Pr) noX := by
  refine Mc.of (by decide +kernel) hfl [some (.ref a0), some (.int x1), some (.int x2), none, none, none] rfl (Nat.le_of_ble_eq_true rfl) rfl ?_
  intro K hL C E0 hr hnm hex
  have B : BX X K l cX10_earliest 6 RX10 1 22 G (some (.int)) "earliest" := ⟨hL, C, E0, hr, hnm, hex, hfl⟩
  have C : Cx X K cX10_earliest 6 RX10 1 22 := C
  unfold wX10_earliest at h
  refine r_iconst C (-1) dX10_earliest_0 (by decide) ?_
  refine r_istore_n C 3 (lv' := [some (.ref a0), some (.int x1), some (.int x2), some (.int (-1)), none, none]) dX10_earliest_1 rfl (Nat.le_of_ble_eq_true rfl) rfl rfl ?_
  refine r_iconst C 0 dX10_earliest_2 (by decide) ?_
  refine r_istore C (lv' := [some (.ref a0), some (.int x1), some (.int x2), some (.int (-1)), some (.int 0), none]) dX10_earliest_3 (Nat.le_of_ble_eq_true rfl) rfl rfl ?_
  obtain ⟨I, μ, hI, hS⟩ := h
  exact lX10_earliest_5 B I μ hS _ _ _ _ _ _ _ (Nat.lt_succ_self _) hI
def wX10_fits_175 (X : Xt) (Pr : Int32 → Gt → Prop) (G : Gt) (a0 : Nat) (x2 : Int32) (sx0 : Int32) : Prop := gT G a0 = (1, 11) ∧ ∃ b1, gR G 352 a0 = some b1 ∧ (gT G b1).1 = 2 ∧ vp_in (x2 + 2) (gT G b1).2 ∧ gT G a0 = (1, 11) ∧ ∃ b2, gR G 352 a0 = some b2 ∧ (gT G b2).1 = 2 ∧ vp_in (x2 + 3) (gT G b2).2 ∧ gT G a0 = (1, 11) ∧ (¬ ((256 * (gA G b1 (x2 + 2).toNatClampNeg)) + (gA G b2 (x2 + 3).toNatClampNeg)) = (gI G 357 a0) → Pr 0 G) ∧ (((256 * (gA G b1 (x2 + 2).toNatClampNeg)) + (gA G b2 (x2 + 3).toNatClampNeg)) = (gI G 357 a0) → gT G a0 = (1, 11) ∧ ∃ b43, gR G 352 a0 = some b43 ∧ (gT G b43).1 = 2 ∧ vp_in (x2 + 4) (gT G b43).2 ∧ gT G a0 = (1, 11) ∧ ∃ b44, gR G 352 a0 = some b44 ∧ (gT G b44).1 = 2 ∧ vp_in (x2 + 5) (gT G b44).2 ∧ (¬ ((256 * (gA G b43 (x2 + 4).toNatClampNeg)) + (gA G b44 (x2 + 5).toNatClampNeg)) = sx0 → Pr 0 G) ∧ (((256 * (gA G b43 (x2 + 4).toNatClampNeg)) + (gA G b44 (x2 + 5).toNatClampNeg)) = sx0 → Pr 1 G))
set_option maxRecDepth 20000 in
theorem bX10_fits_175 {X : Xt} {K : Kt} {l : Launch} {G0 : Gt} {Pr : Int32 → Gt → Prop} (B : BX X K l cX10_fits 6 RX10 1 23 G0 (some (.boolean)) "fits") {G : Gt} {a0 : Nat} {x2 : Int32} {sx0 : Int32} (h : wX10_fits_175 X Pr G a0 x2 sx0) : WM X K (QM X K G0 (rI Pr) noX) G 175 [some (.ref a0), none, some (.int x2), none, none, none] [.int sx0] := by
  obtain ⟨hL, C, E0, hr, hnm, hex, hfl⟩ := id B
  unfold wX10_fits_175 at h
  refine r_istore C (lv' := [some (.ref a0), none, some (.int x2), none, none, some (.int sx0)]) dX10_fits_175 (Nat.le_of_ble_eq_true rfl) rfl rfl ?_
  refine r_sipush C 256 dX10_fits_177 (by decide) ?_
  refine r_aloadR_n C 0 dX10_fits_180 rfl rfl ?_
  obtain ⟨ht, h⟩ := h
  obtain ⟨b1, hb, h⟩ := h
  refine r_getR C fw_RX10_7 rfl ht hb dX10_fits_181 ?_
  refine r_iload_n C 2 dX10_fits_184 rfl rfl ?_
  refine r_iconst C 2 dX10_fits_185 (by decide) ?_
  refine r_iadd C dX10_fits_186 ?_
  obtain ⟨ht, hi, h⟩ := h
  refine r_ialdP C ht hi dX10_fits_187 ?_
  refine r_imul C dX10_fits_188 ?_
  refine r_aloadR_n C 0 dX10_fits_189 rfl rfl ?_
  obtain ⟨ht, h⟩ := h
  obtain ⟨b2, hb, h⟩ := h
  refine r_getR C fw_RX10_7 rfl ht hb dX10_fits_190 ?_
  refine r_iload_n C 2 dX10_fits_193 rfl rfl ?_
  refine r_iconst C 3 dX10_fits_194 (by decide) ?_
  refine r_iadd C dX10_fits_195 ?_
  obtain ⟨ht, hi, h⟩ := h
  refine r_ialdP C ht hi dX10_fits_196 ?_
  refine r_iadd C dX10_fits_197 ?_
  refine r_aloadR_n C 0 dX10_fits_198 rfl rfl ?_
  obtain ⟨ht, h⟩ := h
  refine r_getI C fw_RX10_108 rfl ht dX10_fits_199 ?_
  refine r_icmp_ne C 235 dX10_fits_202 (by decide) (fun c => ?_) (fun c => ?_)
  · replace h := h.1 c
    refine r_iconst C 0 dX10_fits_235 (by decide) ?_
    exact r_zret C E0 hr (Or.inl rfl) ⟨_, rfl, h⟩ dX10_fits_236
  · replace h := h.2 c
    refine r_sipush C 256 dX10_fits_205 (by decide) ?_
    refine r_aloadR_n C 0 dX10_fits_208 rfl rfl ?_
    obtain ⟨ht, h⟩ := h
    obtain ⟨b43, hb, h⟩ := h
    refine r_getR C fw_RX10_7 rfl ht hb dX10_fits_209 ?_
    refine r_iload_n C 2 dX10_fits_212 rfl rfl ?_
    refine r_iconst C 4 dX10_fits_213 (by decide) ?_
    refine r_iadd C dX10_fits_214 ?_
    obtain ⟨ht, hi, h⟩ := h
    refine r_ialdP C ht hi dX10_fits_215 ?_
    refine r_imul C dX10_fits_216 ?_
    refine r_aloadR_n C 0 dX10_fits_217 rfl rfl ?_
    obtain ⟨ht, h⟩ := h
    obtain ⟨b44, hb, h⟩ := h
    refine r_getR C fw_RX10_7 rfl ht hb dX10_fits_218 ?_
    refine r_iload_n C 2 dX10_fits_221 rfl rfl ?_
    refine r_iconst C 5 dX10_fits_222 (by decide) ?_
    refine r_iadd C dX10_fits_223 ?_
    obtain ⟨ht, hi, h⟩ := h
    refine r_ialdP C ht hi dX10_fits_224 ?_
    refine r_iadd C dX10_fits_225 ?_
    refine r_iload C dX10_fits_226 rfl ?_
    refine r_icmp_ne C 235 dX10_fits_228 (by decide) (fun c => ?_) (fun c => ?_)
    · replace h := h.1 c
      refine r_iconst C 0 dX10_fits_235 (by decide) ?_
      exact r_zret C E0 hr (Or.inl rfl) ⟨_, rfl, h⟩ dX10_fits_236
    · replace h := h.2 c
      refine r_iconst C 1 dX10_fits_231 (by decide) ?_
      refine r_goto C 236 dX10_fits_232 (by decide) ?_
      exact r_zret C E0 hr (Or.inr rfl) ⟨_, rfl, h⟩ dX10_fits_236
def wX10_fits_27 (X : Xt) (Pr : Int32 → Gt → Prop) (k27 : Gt → Nat → Int32 → Int32 → Int32 → Int32 → Prop) (G : Gt) (a0 : Nat) (x2 : Int32) (x3 : Int32) (x4 : Int32) (x5 : Int32) : Prop := (x3 ≤ x5 → (¬ x4 = 0 → Pr 0 G) ∧ (x4 = 0 → gT G a0 = (1, 11) ∧ ∃ b61, gR G 352 a0 = some b61 ∧ (gT G b61).1 = 2 ∧ vp_in x2 (gT G b61).2 ∧ gT G a0 = (1, 11) ∧ ((gA G b61 x2.toNatClampNeg) = (gI G 360 a0) → gT G a0 = (1, 11) ∧ ∃ b82, gR G 352 a0 = some b82 ∧ (gT G b82).1 = 2 ∧ vp_in (x2 + 1) (gT G b82).2 ∧ gT G a0 = (1, 11) ∧ wX10_function X G a0 (fun r83 G84 => (¬ (gA G b82 (x2 + 1).toNatClampNeg) = (r83 + 128) → gT G84 a0 = (1, 11) ∧ ∃ b105, gR G84 352 a0 = some b105 ∧ (gT G84 b105).1 = 2 ∧ vp_in (x2 + 1) (gT G84 b105).2 ∧ gT G84 a0 = (1, 11) ∧ wX10_function X G84 a0 (fun r106 G107 => ((gA G84 b105 (x2 + 1).toNatClampNeg) = r106 → gT G107 a0 = (1, 11) ∧ (¬ (gI G107 359 a0) = 0 → gT G107 a0 = (1, 11) ∧ wX10_function X G107 a0 (fun r148 G149 => (¬ r148 = 6 → gT G149 a0 = (1, 11) ∧ gT G149 a0 = (1, 11) ∧ wX10_fits_175 X Pr G149 a0 x2 ((gI G149 358 a0) - (gI G149 357 a0))) ∧ (r148 = 6 → gT G149 a0 = (1, 11) ∧ ∃ b190, gR G149 363 a0 = some b190 ∧ (gT G149 b190).1 = 2 ∧ vp_in 0 (gT G149 b190).2 ∧ wX10_fits_175 X Pr G149 a0 x2 (gA G149 b190 (0 : Int32).toNatClampNeg)))) ∧ ((gI G107 359 a0) = 0 → gT G107 a0 = (1, 11) ∧ ∃ b168, gR G107 352 a0 = some b168 ∧ (gT G107 b168).1 = 2 ∧ vp_in (x2 + 2) (gT G107 b168).2 ∧ gT G107 a0 = (1, 11) ∧ gT G107 a0 = (1, 11) ∧ (¬ (gA G107 b168 (x2 + 2).toNatClampNeg) = (2 * ((gI G107 358 a0) - (gI G107 357 a0))) → Pr 0 G107) ∧ ((gA G107 b168 (x2 + 2).toNatClampNeg) = (2 * ((gI G107 358 a0) - (gI G107 357 a0))) → Pr 1 G107))) ∧ (¬ ((gA G84 b105 (x2 + 1).toNatClampNeg) = r106) → Pr 0 G107))) ∧ ((gA G b82 (x2 + 1).toNatClampNeg) = (r83 + 128) → Pr 1 G84))) ∧ (¬ ((gA G b61 x2.toNatClampNeg) = (gI G 360 a0)) → Pr 0 G))) ∧ (¬ (x3 ≤ x5) → gT G a0 = (1, 11) ∧ ∃ b41, gR G 352 a0 = some b41 ∧ (gT G b41).1 = 2 ∧ vp_in (x2 + x5) (gT G b41).2 ∧ wX10_stirred X G x4 (gA G b41 (x2 + x5).toNatClampNeg) (fun r42 G43 => k27 G43 a0 x2 x3 r42 (x5 + 1)))
set_option maxRecDepth 20000 in
theorem bX10_fits_27 {X : Xt} {K : Kt} {l : Launch} {G0 : Gt} {Pr : Int32 → Gt → Prop} (B : BX X K l cX10_fits 6 RX10 1 23 G0 (some (.boolean)) "fits") {k27 : Gt → Nat → Int32 → Int32 → Int32 → Int32 → Prop} (hk27 : ∀ (G : Gt) (a0 : Nat) (x2 : Int32) (x3 : Int32) (x4 : Int32) (x5 : Int32), k27 G a0 x2 x3 x4 x5 → WM X K (QM X K G0 (rI Pr) noX) G 27 [some (.ref a0), none, some (.int x2), some (.int x3), some (.int x4), some (.int x5)] []) {G : Gt} {a0 : Nat} {x2 : Int32} {x3 : Int32} {x4 : Int32} {x5 : Int32} (h : wX10_fits_27 X Pr k27 G a0 x2 x3 x4 x5) : WM X K (QM X K G0 (rI Pr) noX) G 27 [some (.ref a0), none, some (.int x2), some (.int x3), some (.int x4), some (.int x5)] [] := by
  obtain ⟨hL, C, E0, hr, hnm, hex, hfl⟩ := id B
  unfold wX10_fits_27 at h
  refine r_iload C dX10_fits_27 rfl ?_
  refine r_iload_n C 3 dX10_fits_29 rfl rfl ?_
  refine r_icmp_ge C 55 dX10_fits_30 (by decide) (fun c => ?_) (fun c => ?_)
  · replace h := h.1 c
    refine r_iload C dX10_fits_55 rfl ?_
    refine r_if_ne C 73 dX10_fits_57 (by decide) (fun c => ?_) (fun c => ?_)
    · replace h := h.1 c
      refine r_iconst C 0 dX10_fits_73 (by decide) ?_
      exact r_zret C E0 hr (Or.inl rfl) ⟨_, rfl, h⟩ dX10_fits_74
    · replace h := h.2 c
      refine r_aloadR_n C 0 dX10_fits_60 rfl rfl ?_
      obtain ⟨ht, h⟩ := h
      obtain ⟨b61, hb, h⟩ := h
      refine r_getR C fw_RX10_7 rfl ht hb dX10_fits_61 ?_
      refine r_iload_n C 2 dX10_fits_64 rfl rfl ?_
      obtain ⟨ht, hi, h⟩ := h
      refine r_ialdP C ht hi dX10_fits_65 ?_
      refine r_aloadR_n C 0 dX10_fits_66 rfl rfl ?_
      obtain ⟨ht, h⟩ := h
      refine r_getI C fw_RX10_91 rfl ht dX10_fits_67 ?_
      refine r_icmp_eq C 75 dX10_fits_70 (by decide) (fun c => ?_) (fun c => ?_)
      · replace h := h.1 c
        refine r_aloadR_n C 0 dX10_fits_75 rfl rfl ?_
        obtain ⟨ht, h⟩ := h
        obtain ⟨b82, hb, h⟩ := h
        refine r_getR C fw_RX10_7 rfl ht hb dX10_fits_76 ?_
        refine r_iload_n C 2 dX10_fits_79 rfl rfl ?_
        refine r_iconst C 1 dX10_fits_80 (by decide) ?_
        refine r_iadd C dX10_fits_81 ?_
        obtain ⟨ht, hi, h⟩ := h
        refine r_ialdP C ht hi dX10_fits_82 ?_
        refine r_aloadR_n C 0 dX10_fits_83 rfl rfl ?_
        obtain ⟨ht, h⟩ := h
        refine r_callV C (r := (RX10, TX10, 19)) hL yw_X10_function vw_RX10_128 rfl rfl ht rfl rfl (Nat.le_of_ble_eq_true rfl) ⟨(Nat.le_of_ble_eq_true rfl), (Nat.le_of_ble_eq_true rfl)⟩ (mX10_function hfl h) rfl dX10_fits_84 (kI (fun r83 G84 h => ?_)) kN
        refine r_sipush C 128 dX10_fits_87 (by decide) ?_
        refine r_iadd C dX10_fits_90 ?_
        refine r_icmp_ne C 96 dX10_fits_91 (by decide) (fun c => ?_) (fun c => ?_)
        · replace h := h.1 c
          refine r_aloadR_n C 0 dX10_fits_96 rfl rfl ?_
          obtain ⟨ht, h⟩ := h
          obtain ⟨b105, hb, h⟩ := h
          refine r_getR C fw_RX10_7 rfl ht hb dX10_fits_97 ?_
          refine r_iload_n C 2 dX10_fits_100 rfl rfl ?_
          refine r_iconst C 1 dX10_fits_101 (by decide) ?_
          refine r_iadd C dX10_fits_102 ?_
          obtain ⟨ht, hi, h⟩ := h
          refine r_ialdP C ht hi dX10_fits_103 ?_
          refine r_aloadR_n C 0 dX10_fits_104 rfl rfl ?_
          obtain ⟨ht, h⟩ := h
          refine r_callV C (r := (RX10, TX10, 19)) hL yw_X10_function vw_RX10_128 rfl rfl ht rfl rfl (Nat.le_of_ble_eq_true rfl) ⟨(Nat.le_of_ble_eq_true rfl), (Nat.le_of_ble_eq_true rfl)⟩ (mX10_function hfl h) rfl dX10_fits_105 (kI (fun r106 G107 h => ?_)) kN
          refine r_icmp_eq C 113 dX10_fits_108 (by decide) (fun c => ?_) (fun c => ?_)
          · replace h := h.1 c
            refine r_aloadR_n C 0 dX10_fits_113 rfl rfl ?_
            obtain ⟨ht, h⟩ := h
            refine r_getI C fw_RX10_101 rfl ht dX10_fits_114 ?_
            refine r_if_ne C 148 dX10_fits_117 (by decide) (fun c => ?_) (fun c => ?_)
            · replace h := h.1 c
              refine r_aloadR_n C 0 dX10_fits_148 rfl rfl ?_
              obtain ⟨ht, h⟩ := h
              refine r_callV C (r := (RX10, TX10, 19)) hL yw_X10_function vw_RX10_128 rfl rfl ht rfl rfl (Nat.le_of_ble_eq_true rfl) ⟨(Nat.le_of_ble_eq_true rfl), (Nat.le_of_ble_eq_true rfl)⟩ (mX10_function hfl h) rfl dX10_fits_149 (kI (fun r148 G149 h => ?_)) kN
              refine r_bipush C 6 dX10_fits_152 (by decide) ?_
              refine r_icmp_ne C 166 dX10_fits_154 (by decide) (fun c => ?_) (fun c => ?_)
              · replace h := h.1 c
                refine r_aloadR_n C 0 dX10_fits_166 rfl rfl ?_
                obtain ⟨ht, h⟩ := h
                refine r_getI C fw_RX10_111 rfl ht dX10_fits_167 ?_
                refine r_aloadR_n C 0 dX10_fits_170 rfl rfl ?_
                obtain ⟨ht, h⟩ := h
                refine r_getI C fw_RX10_108 rfl ht dX10_fits_171 ?_
                refine r_isub C dX10_fits_174 ?_
                refine r_fg (lv' := [some (.ref a0), none, some (.int x2), none, none, none]) (show fgt _ _ from ⟨rfl, ⟨rfl, trivial⟩⟩) ?_
                exact bX10_fits_175 B h
              · replace h := h.2 c
                refine r_aloadR_n C 0 dX10_fits_157 rfl rfl ?_
                obtain ⟨ht, h⟩ := h
                obtain ⟨b190, hb, h⟩ := h
                refine r_getR C fw_RX10_19 rfl ht hb dX10_fits_158 ?_
                refine r_iconst C 0 dX10_fits_161 (by decide) ?_
                obtain ⟨ht, hi, h⟩ := h
                refine r_ialdP C ht hi dX10_fits_162 ?_
                refine r_goto C 175 dX10_fits_163 (by decide) ?_
                refine r_fg (lv' := [some (.ref a0), none, some (.int x2), none, none, none]) (show fgt _ _ from ⟨rfl, ⟨rfl, trivial⟩⟩) ?_
                exact bX10_fits_175 B h
            · replace h := h.2 c
              refine r_aloadR_n C 0 dX10_fits_120 rfl rfl ?_
              obtain ⟨ht, h⟩ := h
              obtain ⟨b168, hb, h⟩ := h
              refine r_getR C fw_RX10_7 rfl ht hb dX10_fits_121 ?_
              refine r_iload_n C 2 dX10_fits_124 rfl rfl ?_
              refine r_iconst C 2 dX10_fits_125 (by decide) ?_
              refine r_iadd C dX10_fits_126 ?_
              obtain ⟨ht, hi, h⟩ := h
              refine r_ialdP C ht hi dX10_fits_127 ?_
              refine r_iconst C 2 dX10_fits_128 (by decide) ?_
              refine r_aloadR_n C 0 dX10_fits_129 rfl rfl ?_
              obtain ⟨ht, h⟩ := h
              refine r_getI C fw_RX10_111 rfl ht dX10_fits_130 ?_
              refine r_aloadR_n C 0 dX10_fits_133 rfl rfl ?_
              obtain ⟨ht, h⟩ := h
              refine r_getI C fw_RX10_108 rfl ht dX10_fits_134 ?_
              refine r_isub C dX10_fits_137 ?_
              refine r_imul C dX10_fits_138 ?_
              refine r_icmp_ne C 146 dX10_fits_139 (by decide) (fun c => ?_) (fun c => ?_)
              · replace h := h.1 c
                refine r_iconst C 0 dX10_fits_146 (by decide) ?_
                exact r_zret C E0 hr (Or.inl rfl) ⟨_, rfl, h⟩ dX10_fits_147
              · replace h := h.2 c
                refine r_iconst C 1 dX10_fits_142 (by decide) ?_
                refine r_goto C 147 dX10_fits_143 (by decide) ?_
                exact r_zret C E0 hr (Or.inr rfl) ⟨_, rfl, h⟩ dX10_fits_147
          · replace h := h.2 c
            refine r_iconst C 0 dX10_fits_111 (by decide) ?_
            exact r_zret C E0 hr (Or.inl rfl) ⟨_, rfl, h⟩ dX10_fits_112
        · replace h := h.2 c
          refine r_iconst C 1 dX10_fits_94 (by decide) ?_
          exact r_zret C E0 hr (Or.inr rfl) ⟨_, rfl, h⟩ dX10_fits_95
      · replace h := h.2 c
        refine r_iconst C 0 dX10_fits_73 (by decide) ?_
        exact r_zret C E0 hr (Or.inl rfl) ⟨_, rfl, h⟩ dX10_fits_74
  · replace h := h.2 c
    refine r_iload C dX10_fits_33 rfl ?_
    refine r_aloadR_n C 0 dX10_fits_35 rfl rfl ?_
    obtain ⟨ht, h⟩ := h
    obtain ⟨b41, hb, h⟩ := h
    refine r_getR C fw_RX10_7 rfl ht hb dX10_fits_36 ?_
    refine r_iload_n C 2 dX10_fits_39 rfl rfl ?_
    refine r_iload C dX10_fits_40 rfl ?_
    refine r_iadd C dX10_fits_42 ?_
    obtain ⟨ht, hi, h⟩ := h
    refine r_ialdP C ht hi dX10_fits_43 ?_
    refine r_callS C hL yw_X10_stirred sw_RX10_125 rfl rfl (Nat.le_of_ble_eq_true rfl) ⟨(Nat.le_of_ble_eq_true rfl), (Nat.le_of_ble_eq_true rfl)⟩ (mX10_stirred hfl h) rfl dX10_fits_44 (kI (fun r42 G43 h => ?_)) kN
    refine r_istore C (lv' := [some (.ref a0), none, some (.int x2), some (.int x3), some (.int r42), some (.int x5)]) dX10_fits_47 (Nat.le_of_ble_eq_true rfl) rfl rfl ?_
    refine r_iinc C 1 (lv' := [some (.ref a0), none, some (.int x2), some (.int x3), some (.int r42), some (.int (x5 + 1))]) dX10_fits_49 rfl (by decide) rfl rfl ?_
    refine r_goto C 27 dX10_fits_52 (by decide) ?_
    exact hk27 _ _ _ _ _ _ h
theorem lX10_fits_27 {X : Xt} {K : Kt} {l : Launch} {G0 : Gt} {Pr : Int32 → Gt → Prop} (B : BX X K l cX10_fits 6 RX10 1 23 G0 (some (.boolean)) "fits") (I : Gt → Nat → Int32 → Int32 → Int32 → Int32 → Prop) (μ : Gt → Nat → Int32 → Int32 → Int32 → Int32 → Nat) (hS : ∀ (G : Gt) (a0 : Nat) (x2 : Int32) (x3 : Int32) (x4 : Int32) (x5 : Int32), I G a0 x2 x3 x4 x5 → wX10_fits_27 X Pr (fun G' a0' x2' x3' x4' x5' => I G' a0' x2' x3' x4' x5' ∧ μ G' a0' x2' x3' x4' x5' < μ G a0 x2 x3 x4 x5) G a0 x2 x3 x4 x5) : ∀ (n : Nat) (G : Gt) (a0 : Nat) (x2 : Int32) (x3 : Int32) (x4 : Int32) (x5 : Int32), μ G a0 x2 x3 x4 x5 < n → I G a0 x2 x3 x4 x5 → WM X K (QM X K G0 (rI Pr) noX) G 27 [some (.ref a0), none, some (.int x2), some (.int x3), some (.int x4), some (.int x5)] [] := by
  intro n
  induction n with
  | zero => intro G a0 x2 x3 x4 x5 hm; exact absurd hm (Nat.not_lt_zero _)
  | succ n ih =>
    intro G a0 x2 x3 x4 x5 hm hi
    exact bX10_fits_27 B (fun G' a0' x2' x3' x4' x5' hk => ih G' a0' x2' x3' x4' x5' (Nat.lt_of_lt_of_le hk.2 (Nat.le_of_lt_succ hm)) hk.1) (hS G a0 x2 x3 x4 x5 hi)
def wX10_fits (X : Xt) (G : Gt) (a0 : Nat) (x1 : Int32) (Pr : Int32 → Gt → Prop) : Prop := gT G a0 = (1, 11) ∧ ∃ b1, gR G 352 a0 = some b1 ∧ (gT G b1).1 = 2 ∧ vp_in (((1700 + (42 * x1)) + 3) - 2) (gT G b1).2 ∧ ∃ (I : Gt → Nat → Int32 → Int32 → Int32 → Int32 → Prop) (μ : Gt → Nat → Int32 → Int32 → Int32 → Int32 → Nat), I G a0 ((1700 + (42 * x1)) + 3) (gA G b1 (((1700 + (42 * x1)) + 3) - 2).toNatClampNeg) (65535 : Int32) (0 : Int32) ∧ ∀ (G : Gt) (a0 : Nat) (x2 : Int32) (x3 : Int32) (x4 : Int32) (x5 : Int32), I G a0 x2 x3 x4 x5 → wX10_fits_27 X Pr (fun G' a0' x2' x3' x4' x5' => I G' a0' x2' x3' x4' x5' ∧ μ G' a0' x2' x3' x4' x5' < μ G a0 x2 x3 x4 x5) G a0 x2 x3 x4 x5
set_option maxRecDepth 20000 in
theorem mX10_fits {X : Xt} {l : Launch} (hfl : l.stackTraces = false) {G : Gt} {a0 : Nat} {x1 : Int32} {Pr : Int32 → Gt → Prop} (h : wX10_fits X G a0 x1 Pr) : Mc X l yX10_fits (.code yX10_fits cX10_fits 6 (some (.boolean))) 1 23 [.ref a0, .int x1] G (rI Pr) noX := by
  refine Mc.of (by decide +kernel) hfl [some (.ref a0), some (.int x1), none, none, none, none] rfl (Nat.le_of_ble_eq_true rfl) rfl ?_
  intro K hL C E0 hr hnm hex
  have B : BX X K l cX10_fits 6 RX10 1 23 G (some (.boolean)) "fits" := ⟨hL, C, E0, hr, hnm, hex, hfl⟩
  have C : Cx X K cX10_fits 6 RX10 1 23 := C
  unfold wX10_fits at h
  refine r_sipush C 1700 dX10_fits_0 (by decide) ?_
  refine r_bipush C 42 dX10_fits_3 (by decide) ?_
  refine r_iload_n C 1 dX10_fits_5 rfl rfl ?_
  refine r_imul C dX10_fits_6 ?_
  refine r_iadd C dX10_fits_7 ?_
  refine r_iconst C 3 dX10_fits_8 (by decide) ?_
  refine r_iadd C dX10_fits_9 ?_
  refine r_istore_n C 2 (lv' := [some (.ref a0), some (.int x1), some (.int ((1700 + (42 * x1)) + 3)), none, none, none]) dX10_fits_10 rfl (Nat.le_of_ble_eq_true rfl) rfl rfl ?_
  refine r_aloadR_n C 0 dX10_fits_11 rfl rfl ?_
  obtain ⟨ht, h⟩ := h
  obtain ⟨b1, hb, h⟩ := h
  refine r_getR C fw_RX10_7 rfl ht hb dX10_fits_12 ?_
  refine r_iload_n C 2 dX10_fits_15 rfl rfl ?_
  refine r_iconst C 2 dX10_fits_16 (by decide) ?_
  refine r_isub C dX10_fits_17 ?_
  obtain ⟨ht, hi, h⟩ := h
  refine r_ialdP C ht hi dX10_fits_18 ?_
  refine r_istore_n C 3 (lv' := [some (.ref a0), some (.int x1), some (.int ((1700 + (42 * x1)) + 3)), some (.int (gA G b1 (((1700 + (42 * x1)) + 3) - 2).toNatClampNeg)), none, none]) dX10_fits_19 rfl (Nat.le_of_ble_eq_true rfl) rfl rfl ?_
  refine r_ldc C kc_RX10_25 dX10_fits_20 ?_
  refine r_istore C (lv' := [some (.ref a0), some (.int x1), some (.int ((1700 + (42 * x1)) + 3)), some (.int (gA G b1 (((1700 + (42 * x1)) + 3) - 2).toNatClampNeg)), some (.int 65535), none]) dX10_fits_22 (Nat.le_of_ble_eq_true rfl) rfl rfl ?_
  refine r_iconst C 0 dX10_fits_24 (by decide) ?_
  refine r_istore C (lv' := [some (.ref a0), some (.int x1), some (.int ((1700 + (42 * x1)) + 3)), some (.int (gA G b1 (((1700 + (42 * x1)) + 3) - 2).toNatClampNeg)), some (.int 65535), some (.int 0)]) dX10_fits_25 (Nat.le_of_ble_eq_true rfl) rfl rfl ?_
  refine r_fg (lv' := [some (.ref a0), none, some (.int ((1700 + (42 * x1)) + 3)), some (.int (gA G b1 (((1700 + (42 * x1)) + 3) - 2).toNatClampNeg)), some (.int 65535), some (.int 0)]) (show fgt _ _ from ⟨rfl, ⟨rfl, ⟨rfl, ⟨rfl, ⟨rfl, trivial⟩⟩⟩⟩⟩) ?_
  obtain ⟨I, μ, hI, hS⟩ := h
  exact lX10_fits_27 B I μ hS _ _ _ _ _ _ _ (Nat.lt_succ_self _) hI
def wX10_attempts_110 (X : Xt) (Pr : Int32 → Gt → Prop) (k97 : Gt → Nat → Int32 → Int32 → Prop) (k110 : Gt → Nat → Int32 → Int32 → Int32 → Int32 → Prop) (G : Gt) (a0 : Nat) (x1 : Int32) (x2 : Int32) (x3 : Int32) (x4 : Int32) : Prop := (42 ≤ x4 → gT G a0 = (1, 11) ∧ wX10_goes X G a0 x2 (fun G21 => (x3 = 0 → gT G21 a0 = (1, 11) ∧ ∃ b42, gR G21 352 a0 = some b42 ∧ (gT G21 b42).1 = 2 ∧ vp_in 2 (gT G21 b42).2 ∧ gT G21 a0 = (1, 11) ∧ wX10_earliest X G21 a0 x1 (x1 + (gA G21 b42 (2 : Int32).toNatClampNeg)) (fun r43 G44 => k97 G44 a0 x1 r43)) ∧ (¬ (x3 = 0) → gT G21 a0 = (1, 11) ∧ ∃ b62, gR G21 352 a0 = some b62 ∧ gT G21 a0 = (1, 11) ∧ ∃ b63, gR G21 364 a0 = some b63 ∧ (gT G21 b63).1 = 2 ∧ vp_in 0 (gT G21 b63).2 ∧ gT G21 a0 = (1, 11) ∧ ∃ b64, gR G21 364 a0 = some b64 ∧ (gT G21 b64).1 = 2 ∧ vp_in 1 (gT G21 b64).2 ∧ (gT G21 b62).1 = 2 ∧ vp_in 0 (gT G21 b62).2 ∧ ∀ G65, G65 = sA G21 b62 (upd (gA G21 b62) (0 : Int32).toNatClampNeg ((gA G21 b63 (0 : Int32).toNatClampNeg) + (gA G21 b64 (1 : Int32).toNatClampNeg))) → gT G65 a0 = (1, 11) ∧ ∃ b66, gR G65 352 a0 = some b66 ∧ (gT G65 b66).1 = 2 ∧ vp_in 11 (gT G65 b66).2 ∧ (gT G65 b66).1 = 2 ∧ vp_in 11 (gT G65 b66).2 ∧ ∀ G67, G67 = sA G65 b66 (upd (gA G65 b66) (11 : Int32).toNatClampNeg ((gA G65 b66 (11 : Int32).toNatClampNeg) + 1)) → gT G67 a0 = (1, 11) ∧ ∃ b68, gR G67 352 a0 = some b68 ∧ (gT G67 b68).1 = 2 ∧ vp_in 12 (gT G67 b68).2 ∧ gT G67 a0 = (1, 11) ∧ ∃ b69, gR G67 364 a0 = some b69 ∧ (gT G67 b69).1 = 2 ∧ vp_in 2 (gT G67 b69).2 ∧ gT G67 a0 = (1, 11) ∧ ∃ b70, gR G67 352 a0 = some b70 ∧ (gT G67 b70).1 = 2 ∧ vp_in 7 (gT G67 b70).2 ∧ ((gA G67 b69 (2 : Int32).toNatClampNeg) = (gA G67 b70 (7 : Int32).toNatClampNeg) → (gT G67 b68).1 = 2 ∧ vp_in 12 (gT G67 b68).2 ∧ ∀ G91, G91 = sA G67 b68 (upd (gA G67 b68) (12 : Int32).toNatClampNeg ((gA G67 b68 (12 : Int32).toNatClampNeg) + 0)) → gT G91 a0 = (1, 11) ∧ ∃ b92, gR G91 352 a0 = some b92 ∧ (gT G91 b92).1 = 2 ∧ vp_in 8 (gT G91 b92).2 ∧ ∀ G93, G93 = sA G91 b92 (upd (gA G91 b92) (8 : Int32).toNatClampNeg 0) → Pr 1 G93) ∧ (¬ ((gA G67 b69 (2 : Int32).toNatClampNeg) = (gA G67 b70 (7 : Int32).toNatClampNeg)) → (gT G67 b68).1 = 2 ∧ vp_in 12 (gT G67 b68).2 ∧ ∀ G111, G111 = sA G67 b68 (upd (gA G67 b68) (12 : Int32).toNatClampNeg ((gA G67 b68 (12 : Int32).toNatClampNeg) + 1)) → gT G111 a0 = (1, 11) ∧ ∃ b112, gR G111 352 a0 = some b112 ∧ (gT G111 b112).1 = 2 ∧ vp_in 8 (gT G111 b112).2 ∧ ∀ G113, G113 = sA G111 b112 (upd (gA G111 b112) (8 : Int32).toNatClampNeg 0) → Pr 1 G113)))) ∧ (¬ (42 ≤ x4) → gT G a0 = (1, 11) ∧ ∃ b41, gR G 364 a0 = some b41 ∧ gT G a0 = (1, 11) ∧ ∃ b42, gR G 352 a0 = some b42 ∧ (gT G b42).1 = 2 ∧ vp_in ((1700 + (42 * x2)) + x4) (gT G b42).2 ∧ (gT G b41).1 = 2 ∧ vp_in x4 (gT G b41).2 ∧ ∀ G43, G43 = sA G b41 (upd (gA G b41) x4.toNatClampNeg (gA G b42 ((1700 + (42 * x2)) + x4).toNatClampNeg)) → k110 G43 a0 x1 x2 x3 (x4 + 1))
set_option maxRecDepth 20000 in
theorem bX10_attempts_110 {X : Xt} {K : Kt} {l : Launch} {G0 : Gt} {Pr : Int32 → Gt → Prop} (B : BX X K l cX10_attempts 5 RX10 4 93 G0 (some (.boolean)) "attempts") {k97 : Gt → Nat → Int32 → Int32 → Prop} {k110 : Gt → Nat → Int32 → Int32 → Int32 → Int32 → Prop} (hk97 : ∀ (G : Gt) (a0 : Nat) (x1 : Int32) (x2 : Int32), k97 G a0 x1 x2 → WM X K (QM X K G0 (rI Pr) noX) G 97 [some (.ref a0), some (.int x1), some (.int x2), none, none] []) (hk110 : ∀ (G : Gt) (a0 : Nat) (x1 : Int32) (x2 : Int32) (x3 : Int32) (x4 : Int32), k110 G a0 x1 x2 x3 x4 → WM X K (QM X K G0 (rI Pr) noX) G 110 [some (.ref a0), some (.int x1), some (.int x2), some (.int x3), some (.int x4)] []) {G : Gt} {a0 : Nat} {x1 : Int32} {x2 : Int32} {x3 : Int32} {x4 : Int32} (h : wX10_attempts_110 X Pr k97 k110 G a0 x1 x2 x3 x4) : WM X K (QM X K G0 (rI Pr) noX) G 110 [some (.ref a0), some (.int x1), some (.int x2), some (.int x3), some (.int x4)] [] := by
  obtain ⟨hL, C, E0, hr, hnm, hex, hfl⟩ := id B
  unfold wX10_attempts_110 at h
  refine r_iload C dX10_attempts_110 rfl ?_
  refine r_bipush C 42 dX10_attempts_112 (by decide) ?_
  refine r_icmp_ge C 146 dX10_attempts_114 (by decide) (fun c => ?_) (fun c => ?_)
  · replace h := h.1 c
    refine r_aloadR_n C 0 dX10_attempts_146 rfl rfl ?_
    refine r_iload_n C 2 dX10_attempts_147 rfl rfl ?_
    obtain ⟨ht, h⟩ := h
    refine r_callV C (r := (RX10, TX10, 19)) hL yw_X10_goes vw_RX10_153 rfl rfl ht rfl rfl (Nat.le_of_ble_eq_true rfl) ⟨(Nat.le_of_ble_eq_true rfl), (Nat.le_of_ble_eq_true rfl)⟩ (mX10_goes hfl h) rfl dX10_attempts_148 (kV' (fun G21 h => ?_)) kN
    refine r_iload_n C 3 dX10_attempts_151 rfl rfl ?_
    refine r_if_eq C 226 dX10_attempts_152 (by decide) (fun c => ?_) (fun c => ?_)
    · replace h := h.1 c
      refine r_aloadR_n C 0 dX10_attempts_226 rfl rfl ?_
      refine r_iload_n C 1 dX10_attempts_227 rfl rfl ?_
      refine r_iload_n C 1 dX10_attempts_228 rfl rfl ?_
      refine r_aloadR_n C 0 dX10_attempts_229 rfl rfl ?_
      obtain ⟨ht, h⟩ := h
      obtain ⟨b42, hb, h⟩ := h
      refine r_getR C fw_RX10_7 rfl ht hb dX10_attempts_230 ?_
      refine r_iconst C 2 dX10_attempts_233 (by decide) ?_
      obtain ⟨ht, hi, h⟩ := h
      refine r_ialdP C ht hi dX10_attempts_234 ?_
      refine r_iadd C dX10_attempts_235 ?_
      obtain ⟨ht, h⟩ := h
      refine r_callV C (r := (RX10, TX10, 19)) hL yw_X10_earliest vw_RX10_156 rfl rfl ht rfl rfl (Nat.le_of_ble_eq_true rfl) ⟨(Nat.le_of_ble_eq_true rfl), (Nat.le_of_ble_eq_true rfl)⟩ (mX10_earliest hfl h) rfl dX10_attempts_236 (kI (fun r43 G44 h => ?_)) kN
      refine r_istore_n C 2 (lv' := [some (.ref a0), some (.int x1), some (.int r43), some (.int x3), some (.int x4)]) dX10_attempts_239 rfl (Nat.le_of_ble_eq_true rfl) rfl rfl ?_
      refine r_goto C 97 dX10_attempts_240 (by decide) ?_
      refine r_fg (lv' := [some (.ref a0), some (.int x1), some (.int r43), none, none]) (show fgt _ _ from ⟨rfl, ⟨rfl, ⟨rfl, trivial⟩⟩⟩) ?_
      exact hk97 _ _ _ _ h
    · replace h := h.2 c
      refine r_aloadR_n C 0 dX10_attempts_155 rfl rfl ?_
      obtain ⟨ht, h⟩ := h
      obtain ⟨b62, hb, h⟩ := h
      refine r_getR C fw_RX10_7 rfl ht hb dX10_attempts_156 ?_
      refine r_iconst C 0 dX10_attempts_159 (by decide) ?_
      refine r_aloadR_n C 0 dX10_attempts_160 rfl rfl ?_
      obtain ⟨ht, h⟩ := h
      obtain ⟨b63, hb, h⟩ := h
      refine r_getR C fw_RX10_22 rfl ht hb dX10_attempts_161 ?_
      refine r_iconst C 0 dX10_attempts_164 (by decide) ?_
      obtain ⟨ht, hi, h⟩ := h
      refine r_ialdP C ht hi dX10_attempts_165 ?_
      refine r_aloadR_n C 0 dX10_attempts_166 rfl rfl ?_
      obtain ⟨ht, h⟩ := h
      obtain ⟨b64, hb, h⟩ := h
      refine r_getR C fw_RX10_22 rfl ht hb dX10_attempts_167 ?_
      refine r_iconst C 1 dX10_attempts_170 (by decide) ?_
      obtain ⟨ht, hi, h⟩ := h
      refine r_ialdP C ht hi dX10_attempts_171 ?_
      refine r_iadd C dX10_attempts_172 ?_
      obtain ⟨ht, hi, h⟩ := h
      refine r_iastP C ht hi dX10_attempts_173 ?_
      refine r_nm (fun G65 hG65 => ?_)
      replace h := h G65 hG65
      refine r_aloadR_n C 0 dX10_attempts_174 rfl rfl ?_
      obtain ⟨ht, h⟩ := h
      obtain ⟨b66, hb, h⟩ := h
      refine r_getR C fw_RX10_7 rfl ht hb dX10_attempts_175 ?_
      refine r_bipush C 11 dX10_attempts_178 (by decide) ?_
      refine r_dup2 C dX10_attempts_180 rfl rfl ?_
      obtain ⟨ht, hi, h⟩ := h
      refine r_ialdP C ht hi dX10_attempts_181 ?_
      refine r_iconst C 1 dX10_attempts_182 (by decide) ?_
      refine r_iadd C dX10_attempts_183 ?_
      obtain ⟨ht, hi, h⟩ := h
      refine r_iastP C ht hi dX10_attempts_184 ?_
      refine r_nm (fun G67 hG67 => ?_)
      replace h := h G67 hG67
      refine r_aloadR_n C 0 dX10_attempts_185 rfl rfl ?_
      obtain ⟨ht, h⟩ := h
      obtain ⟨b68, hb, h⟩ := h
      refine r_getR C fw_RX10_7 rfl ht hb dX10_attempts_186 ?_
      refine r_bipush C 12 dX10_attempts_189 (by decide) ?_
      refine r_dup2 C dX10_attempts_191 rfl rfl ?_
      obtain ⟨ht, hi, h⟩ := h
      refine r_ialdP C ht hi dX10_attempts_192 ?_
      refine r_aloadR_n C 0 dX10_attempts_193 rfl rfl ?_
      obtain ⟨ht, h⟩ := h
      obtain ⟨b69, hb, h⟩ := h
      refine r_getR C fw_RX10_22 rfl ht hb dX10_attempts_194 ?_
      refine r_iconst C 2 dX10_attempts_197 (by decide) ?_
      obtain ⟨ht, hi, h⟩ := h
      refine r_ialdP C ht hi dX10_attempts_198 ?_
      refine r_aloadR_n C 0 dX10_attempts_199 rfl rfl ?_
      obtain ⟨ht, h⟩ := h
      obtain ⟨b70, hb, h⟩ := h
      refine r_getR C fw_RX10_7 rfl ht hb dX10_attempts_200 ?_
      refine r_bipush C 7 dX10_attempts_203 (by decide) ?_
      obtain ⟨ht, hi, h⟩ := h
      refine r_ialdP C ht hi dX10_attempts_205 ?_
      refine r_icmp_eq C 213 dX10_attempts_206 (by decide) (fun c => ?_) (fun c => ?_)
      · replace h := h.1 c
        refine r_iconst C 0 dX10_attempts_213 (by decide) ?_
        refine r_iadd C dX10_attempts_214 ?_
        obtain ⟨ht, hi, h⟩ := h
        refine r_iastP C ht hi dX10_attempts_215 ?_
        refine r_nm (fun G91 hG91 => ?_)
        replace h := h G91 hG91
        refine r_aloadR_n C 0 dX10_attempts_216 rfl rfl ?_
        obtain ⟨ht, h⟩ := h
        obtain ⟨b92, hb, h⟩ := h
        refine r_getR C fw_RX10_7 rfl ht hb dX10_attempts_217 ?_
        refine r_bipush C 8 dX10_attempts_220 (by decide) ?_
        refine r_iconst C 0 dX10_attempts_222 (by decide) ?_
        obtain ⟨ht, hi, h⟩ := h
        refine r_iastP C ht hi dX10_attempts_223 ?_
        refine r_nm (fun G93 hG93 => ?_)
        replace h := h G93 hG93
        refine r_iconst C 1 dX10_attempts_224 (by decide) ?_
        exact r_zret C E0 hr (Or.inr rfl) ⟨_, rfl, h⟩ dX10_attempts_225
      · replace h := h.2 c
        refine r_iconst C 1 dX10_attempts_209 (by decide) ?_
        refine r_goto C 214 dX10_attempts_210 (by decide) ?_
        refine r_iadd C dX10_attempts_214 ?_
        obtain ⟨ht, hi, h⟩ := h
        refine r_iastP C ht hi dX10_attempts_215 ?_
        refine r_nm (fun G111 hG111 => ?_)
        replace h := h G111 hG111
        refine r_aloadR_n C 0 dX10_attempts_216 rfl rfl ?_
        obtain ⟨ht, h⟩ := h
        obtain ⟨b112, hb, h⟩ := h
        refine r_getR C fw_RX10_7 rfl ht hb dX10_attempts_217 ?_
        refine r_bipush C 8 dX10_attempts_220 (by decide) ?_
        refine r_iconst C 0 dX10_attempts_222 (by decide) ?_
        obtain ⟨ht, hi, h⟩ := h
        refine r_iastP C ht hi dX10_attempts_223 ?_
        refine r_nm (fun G113 hG113 => ?_)
        replace h := h G113 hG113
        refine r_iconst C 1 dX10_attempts_224 (by decide) ?_
        exact r_zret C E0 hr (Or.inr rfl) ⟨_, rfl, h⟩ dX10_attempts_225
  · replace h := h.2 c
    refine r_aloadR_n C 0 dX10_attempts_117 rfl rfl ?_
    obtain ⟨ht, h⟩ := h
    obtain ⟨b41, hb, h⟩ := h
    refine r_getR C fw_RX10_22 rfl ht hb dX10_attempts_118 ?_
    refine r_iload C dX10_attempts_121 rfl ?_
    refine r_aloadR_n C 0 dX10_attempts_123 rfl rfl ?_
    obtain ⟨ht, h⟩ := h
    obtain ⟨b42, hb, h⟩ := h
    refine r_getR C fw_RX10_7 rfl ht hb dX10_attempts_124 ?_
    refine r_sipush C 1700 dX10_attempts_127 (by decide) ?_
    refine r_bipush C 42 dX10_attempts_130 (by decide) ?_
    refine r_iload_n C 2 dX10_attempts_132 rfl rfl ?_
    refine r_imul C dX10_attempts_133 ?_
    refine r_iadd C dX10_attempts_134 ?_
    refine r_iload C dX10_attempts_135 rfl ?_
    refine r_iadd C dX10_attempts_137 ?_
    obtain ⟨ht, hi, h⟩ := h
    refine r_ialdP C ht hi dX10_attempts_138 ?_
    obtain ⟨ht, hi, h⟩ := h
    refine r_iastP C ht hi dX10_attempts_139 ?_
    refine r_nm (fun G43 hG43 => ?_)
    replace h := h G43 hG43
    refine r_iinc C 1 (lv' := [some (.ref a0), some (.int x1), some (.int x2), some (.int x3), some (.int (x4 + 1))]) dX10_attempts_140 rfl (by decide) rfl rfl ?_
    refine r_goto C 110 dX10_attempts_143 (by decide) ?_
    exact hk110 _ _ _ _ _ _ h
theorem lX10_attempts_110 {X : Xt} {K : Kt} {l : Launch} {G0 : Gt} {Pr : Int32 → Gt → Prop} (B : BX X K l cX10_attempts 5 RX10 4 93 G0 (some (.boolean)) "attempts") {k97 : Gt → Nat → Int32 → Int32 → Prop} (hk97 : ∀ (G : Gt) (a0 : Nat) (x1 : Int32) (x2 : Int32), k97 G a0 x1 x2 → WM X K (QM X K G0 (rI Pr) noX) G 97 [some (.ref a0), some (.int x1), some (.int x2), none, none] []) (I : Gt → Nat → Int32 → Int32 → Int32 → Int32 → Prop) (μ : Gt → Nat → Int32 → Int32 → Int32 → Int32 → Nat) (hS : ∀ (G : Gt) (a0 : Nat) (x1 : Int32) (x2 : Int32) (x3 : Int32) (x4 : Int32), I G a0 x1 x2 x3 x4 → wX10_attempts_110 X Pr k97 (fun G' a0' x1' x2' x3' x4' => I G' a0' x1' x2' x3' x4' ∧ μ G' a0' x1' x2' x3' x4' < μ G a0 x1 x2 x3 x4) G a0 x1 x2 x3 x4) : ∀ (n : Nat) (G : Gt) (a0 : Nat) (x1 : Int32) (x2 : Int32) (x3 : Int32) (x4 : Int32), μ G a0 x1 x2 x3 x4 < n → I G a0 x1 x2 x3 x4 → WM X K (QM X K G0 (rI Pr) noX) G 110 [some (.ref a0), some (.int x1), some (.int x2), some (.int x3), some (.int x4)] [] := by
  intro n
  induction n with
  | zero => intro G a0 x1 x2 x3 x4 hm; exact absurd hm (Nat.not_lt_zero _)
  | succ n ih =>
    intro G a0 x1 x2 x3 x4 hm hi
    exact bX10_attempts_110 B hk97 (fun G' a0' x1' x2' x3' x4' hk => ih G' a0' x1' x2' x3' x4' (Nat.lt_of_lt_of_le hk.2 (Nat.le_of_lt_succ hm)) hk.1) (hS G a0 x1 x2 x3 x4 hi)
def wX10_attempts_97 (X : Xt) (Pr : Int32 → Gt → Prop) (k97 : Gt → Nat → Int32 → Int32 → Prop) (G : Gt) (a0 : Nat) (x1 : Int32) (x2 : Int32) : Prop := (x2 < 0 → gT G a0 = (1, 11) ∧ ∃ b21, gR G 352 a0 = some b21 ∧ gT G a0 = (1, 11) ∧ ∃ b22, gR G 352 a0 = some b22 ∧ (gT G b22).1 = 2 ∧ vp_in 2 (gT G b22).2 ∧ (gT G b21).1 = 2 ∧ vp_in 0 (gT G b21).2 ∧ ∀ G23, G23 = sA G b21 (upd (gA G b21) (0 : Int32).toNatClampNeg (x1 + (gA G b22 (2 : Int32).toNatClampNeg))) → gT G23 a0 = (1, 11) ∧ ∃ b24, gR G23 352 a0 = some b24 ∧ (gT G23 b24).1 = 2 ∧ vp_in 13 (gT G23 b24).2 ∧ (gT G23 b24).1 = 2 ∧ vp_in 13 (gT G23 b24).2 ∧ ∀ G25, G25 = sA G23 b24 (upd (gA G23 b24) (13 : Int32).toNatClampNeg ((gA G23 b24 (13 : Int32).toNatClampNeg) + 1)) → gT G25 a0 = (1, 11) ∧ ∃ b26, gR G25 352 a0 = some b26 ∧ (gT G25 b26).1 = 2 ∧ vp_in 8 (gT G25 b26).2 ∧ ∀ G27, G27 = sA G25 b26 (upd (gA G25 b26) (8 : Int32).toNatClampNeg 1) → Pr 0 G27) ∧ (¬ (x2 < 0) → gT G a0 = (1, 11) ∧ wX10_fits X G a0 x2 (fun r41 G42 => ∃ (I : Gt → Nat → Int32 → Int32 → Int32 → Int32 → Prop) (μ : Gt → Nat → Int32 → Int32 → Int32 → Int32 → Nat), I G42 a0 x1 x2 r41 (0 : Int32) ∧ ∀ (G : Gt) (a0 : Nat) (x1 : Int32) (x2 : Int32) (x3 : Int32) (x4 : Int32), I G a0 x1 x2 x3 x4 → wX10_attempts_110 X Pr k97 (fun G' a0' x1' x2' x3' x4' => I G' a0' x1' x2' x3' x4' ∧ μ G' a0' x1' x2' x3' x4' < μ G a0 x1 x2 x3 x4) G a0 x1 x2 x3 x4))
set_option maxRecDepth 20000 in
theorem bX10_attempts_97 {X : Xt} {K : Kt} {l : Launch} {G0 : Gt} {Pr : Int32 → Gt → Prop} (B : BX X K l cX10_attempts 5 RX10 4 93 G0 (some (.boolean)) "attempts") {k97 : Gt → Nat → Int32 → Int32 → Prop} (hk97 : ∀ (G : Gt) (a0 : Nat) (x1 : Int32) (x2 : Int32), k97 G a0 x1 x2 → WM X K (QM X K G0 (rI Pr) noX) G 97 [some (.ref a0), some (.int x1), some (.int x2), none, none] []) {G : Gt} {a0 : Nat} {x1 : Int32} {x2 : Int32} (h : wX10_attempts_97 X Pr k97 G a0 x1 x2) : WM X K (QM X K G0 (rI Pr) noX) G 97 [some (.ref a0), some (.int x1), some (.int x2), none, none] [] := by
  obtain ⟨hL, C, E0, hr, hnm, hex, hfl⟩ := id B
  unfold wX10_attempts_97 at h
  refine r_iload_n C 2 dX10_attempts_97 rfl rfl ?_
  refine r_if_lt C 243 dX10_attempts_98 (by decide) (fun c => ?_) (fun c => ?_)
  · replace h := h.1 c
    refine r_aloadR_n C 0 dX10_attempts_243 rfl rfl ?_
    obtain ⟨ht, h⟩ := h
    obtain ⟨b21, hb, h⟩ := h
    refine r_getR C fw_RX10_7 rfl ht hb dX10_attempts_244 ?_
    refine r_iconst C 0 dX10_attempts_247 (by decide) ?_
    refine r_iload_n C 1 dX10_attempts_248 rfl rfl ?_
    refine r_aloadR_n C 0 dX10_attempts_249 rfl rfl ?_
    obtain ⟨ht, h⟩ := h
    obtain ⟨b22, hb, h⟩ := h
    refine r_getR C fw_RX10_7 rfl ht hb dX10_attempts_250 ?_
    refine r_iconst C 2 dX10_attempts_253 (by decide) ?_
    obtain ⟨ht, hi, h⟩ := h
    refine r_ialdP C ht hi dX10_attempts_254 ?_
    refine r_iadd C dX10_attempts_255 ?_
    obtain ⟨ht, hi, h⟩ := h
    refine r_iastP C ht hi dX10_attempts_256 ?_
    refine r_nm (fun G23 hG23 => ?_)
    replace h := h G23 hG23
    refine r_aloadR_n C 0 dX10_attempts_257 rfl rfl ?_
    obtain ⟨ht, h⟩ := h
    obtain ⟨b24, hb, h⟩ := h
    refine r_getR C fw_RX10_7 rfl ht hb dX10_attempts_258 ?_
    refine r_bipush C 13 dX10_attempts_261 (by decide) ?_
    refine r_dup2 C dX10_attempts_263 rfl rfl ?_
    obtain ⟨ht, hi, h⟩ := h
    refine r_ialdP C ht hi dX10_attempts_264 ?_
    refine r_iconst C 1 dX10_attempts_265 (by decide) ?_
    refine r_iadd C dX10_attempts_266 ?_
    obtain ⟨ht, hi, h⟩ := h
    refine r_iastP C ht hi dX10_attempts_267 ?_
    refine r_nm (fun G25 hG25 => ?_)
    replace h := h G25 hG25
    refine r_aloadR_n C 0 dX10_attempts_268 rfl rfl ?_
    obtain ⟨ht, h⟩ := h
    obtain ⟨b26, hb, h⟩ := h
    refine r_getR C fw_RX10_7 rfl ht hb dX10_attempts_269 ?_
    refine r_bipush C 8 dX10_attempts_272 (by decide) ?_
    refine r_iconst C 1 dX10_attempts_274 (by decide) ?_
    obtain ⟨ht, hi, h⟩ := h
    refine r_iastP C ht hi dX10_attempts_275 ?_
    refine r_nm (fun G27 hG27 => ?_)
    replace h := h G27 hG27
    refine r_iconst C 0 dX10_attempts_276 (by decide) ?_
    exact r_zret C E0 hr (Or.inl rfl) ⟨_, rfl, h⟩ dX10_attempts_277
  · replace h := h.2 c
    refine r_aloadR_n C 0 dX10_attempts_101 rfl rfl ?_
    refine r_iload_n C 2 dX10_attempts_102 rfl rfl ?_
    obtain ⟨ht, h⟩ := h
    refine r_callV C (r := (RX10, TX10, 19)) hL yw_X10_fits vw_RX10_159 rfl rfl ht rfl rfl (Nat.le_of_ble_eq_true rfl) ⟨(Nat.le_of_ble_eq_true rfl), (Nat.le_of_ble_eq_true rfl)⟩ (mX10_fits hfl h) rfl dX10_attempts_103 (kI (fun r41 G42 h => ?_)) kN
    refine r_istore_n C 3 (lv' := [some (.ref a0), some (.int x1), some (.int x2), some (.int r41), none]) dX10_attempts_106 rfl (Nat.le_of_ble_eq_true rfl) rfl rfl ?_
    refine r_iconst C 0 dX10_attempts_107 (by decide) ?_
    refine r_istore C (lv' := [some (.ref a0), some (.int x1), some (.int x2), some (.int r41), some (.int 0)]) dX10_attempts_108 (Nat.le_of_ble_eq_true rfl) rfl rfl ?_
    obtain ⟨I, μ, hI, hS⟩ := h
    exact lX10_attempts_110 B hk97 I μ hS _ _ _ _ _ _ _ (Nat.lt_succ_self _) hI
theorem lX10_attempts_97 {X : Xt} {K : Kt} {l : Launch} {G0 : Gt} {Pr : Int32 → Gt → Prop} (B : BX X K l cX10_attempts 5 RX10 4 93 G0 (some (.boolean)) "attempts") (I : Gt → Nat → Int32 → Int32 → Prop) (μ : Gt → Nat → Int32 → Int32 → Nat) (hS : ∀ (G : Gt) (a0 : Nat) (x1 : Int32) (x2 : Int32), I G a0 x1 x2 → wX10_attempts_97 X Pr (fun G' a0' x1' x2' => I G' a0' x1' x2' ∧ μ G' a0' x1' x2' < μ G a0 x1 x2) G a0 x1 x2) : ∀ (n : Nat) (G : Gt) (a0 : Nat) (x1 : Int32) (x2 : Int32), μ G a0 x1 x2 < n → I G a0 x1 x2 → WM X K (QM X K G0 (rI Pr) noX) G 97 [some (.ref a0), some (.int x1), some (.int x2), none, none] [] := by
  intro n
  induction n with
  | zero => intro G a0 x1 x2 hm; exact absurd hm (Nat.not_lt_zero _)
  | succ n ih =>
    intro G a0 x1 x2 hm hi
    exact bX10_attempts_97 B (fun G' a0' x1' x2' hk => ih G' a0' x1' x2' (Nat.lt_of_lt_of_le hk.2 (Nat.le_of_lt_succ hm)) hk.1) (hS G a0 x1 x2 hi)
def wX10_attempts_51 (X : Xt) (Pr : Int32 → Gt → Prop) (k51 : Gt → Nat → Int32 → Int32 → Prop) (G : Gt) (a0 : Nat) (x1 : Int32) (x2 : Int32) : Prop := (x2 < 0 → gT G a0 = (1, 11) ∧ ∃ b21, gR G 352 a0 = some b21 ∧ (gT G b21).1 = 2 ∧ vp_in 2 (gT G b21).2 ∧ gT G a0 = (1, 11) ∧ wX10_earliest X G a0 x1 (x1 + (gA G b21 (2 : Int32).toNatClampNeg)) (fun r22 G23 => ∃ (I : Gt → Nat → Int32 → Int32 → Prop) (μ : Gt → Nat → Int32 → Int32 → Nat), I G23 a0 x1 r22 ∧ ∀ (G : Gt) (a0 : Nat) (x1 : Int32) (x2 : Int32), I G a0 x1 x2 → wX10_attempts_97 X Pr (fun G' a0' x1' x2' => I G' a0' x1' x2' ∧ μ G' a0' x1' x2' < μ G a0 x1 x2) G a0 x1 x2)) ∧ (¬ (x2 < 0) → gT G a0 = (1, 11) ∧ ∃ b41, gR G 352 a0 = some b41 ∧ (gT G b41).1 = 2 ∧ vp_in (1700 + (42 * x2)) (gT G b41).2 ∧ (x1 ≤ (gA G b41 (1700 + (42 * x2)).toNatClampNeg) → k51 G a0 x1 (x2 + (-1))) ∧ (¬ (x1 ≤ (gA G b41 (1700 + (42 * x2)).toNatClampNeg)) → gT G a0 = (1, 11) ∧ wX10_goes X G a0 x2 (fun G82 => k51 G82 a0 x1 (x2 + (-1)))))
set_option maxRecDepth 20000 in
theorem bX10_attempts_51 {X : Xt} {K : Kt} {l : Launch} {G0 : Gt} {Pr : Int32 → Gt → Prop} (B : BX X K l cX10_attempts 5 RX10 4 93 G0 (some (.boolean)) "attempts") {k51 : Gt → Nat → Int32 → Int32 → Prop} (hk51 : ∀ (G : Gt) (a0 : Nat) (x1 : Int32) (x2 : Int32), k51 G a0 x1 x2 → WM X K (QM X K G0 (rI Pr) noX) G 51 [some (.ref a0), some (.int x1), some (.int x2), none, none] []) {G : Gt} {a0 : Nat} {x1 : Int32} {x2 : Int32} (h : wX10_attempts_51 X Pr k51 G a0 x1 x2) : WM X K (QM X K G0 (rI Pr) noX) G 51 [some (.ref a0), some (.int x1), some (.int x2), none, none] [] := by
  obtain ⟨hL, C, E0, hr, hnm, hex, hfl⟩ := id B
  unfold wX10_attempts_51 at h
  refine r_iload_n C 2 dX10_attempts_51 rfl rfl ?_
  refine r_if_lt C 83 dX10_attempts_52 (by decide) (fun c => ?_) (fun c => ?_)
  · replace h := h.1 c
    refine r_aloadR_n C 0 dX10_attempts_83 rfl rfl ?_
    refine r_iload_n C 1 dX10_attempts_84 rfl rfl ?_
    refine r_iload_n C 1 dX10_attempts_85 rfl rfl ?_
    refine r_aloadR_n C 0 dX10_attempts_86 rfl rfl ?_
    obtain ⟨ht, h⟩ := h
    obtain ⟨b21, hb, h⟩ := h
    refine r_getR C fw_RX10_7 rfl ht hb dX10_attempts_87 ?_
    refine r_iconst C 2 dX10_attempts_90 (by decide) ?_
    obtain ⟨ht, hi, h⟩ := h
    refine r_ialdP C ht hi dX10_attempts_91 ?_
    refine r_iadd C dX10_attempts_92 ?_
    obtain ⟨ht, h⟩ := h
    refine r_callV C (r := (RX10, TX10, 19)) hL yw_X10_earliest vw_RX10_156 rfl rfl ht rfl rfl (Nat.le_of_ble_eq_true rfl) ⟨(Nat.le_of_ble_eq_true rfl), (Nat.le_of_ble_eq_true rfl)⟩ (mX10_earliest hfl h) rfl dX10_attempts_93 (kI (fun r22 G23 h => ?_)) kN
    refine r_istore_n C 2 (lv' := [some (.ref a0), some (.int x1), some (.int r22), none, none]) dX10_attempts_96 rfl (Nat.le_of_ble_eq_true rfl) rfl rfl ?_
    obtain ⟨I, μ, hI, hS⟩ := h
    exact lX10_attempts_97 B I μ hS _ _ _ _ _ (Nat.lt_succ_self _) hI
  · replace h := h.2 c
    refine r_aloadR_n C 0 dX10_attempts_55 rfl rfl ?_
    obtain ⟨ht, h⟩ := h
    obtain ⟨b41, hb, h⟩ := h
    refine r_getR C fw_RX10_7 rfl ht hb dX10_attempts_56 ?_
    refine r_sipush C 1700 dX10_attempts_59 (by decide) ?_
    refine r_bipush C 42 dX10_attempts_62 (by decide) ?_
    refine r_iload_n C 2 dX10_attempts_64 rfl rfl ?_
    refine r_imul C dX10_attempts_65 ?_
    refine r_iadd C dX10_attempts_66 ?_
    obtain ⟨ht, hi, h⟩ := h
    refine r_ialdP C ht hi dX10_attempts_67 ?_
    refine r_iload_n C 1 dX10_attempts_68 rfl rfl ?_
    refine r_icmp_ge C 77 dX10_attempts_69 (by decide) (fun c => ?_) (fun c => ?_)
    · replace h := h.1 c
      refine r_iinc C (-1) (lv' := [some (.ref a0), some (.int x1), some (.int (x2 + (-1))), none, none]) dX10_attempts_77 rfl (by decide) rfl rfl ?_
      refine r_goto C 51 dX10_attempts_80 (by decide) ?_
      exact hk51 _ _ _ _ h
    · replace h := h.2 c
      refine r_aloadR_n C 0 dX10_attempts_72 rfl rfl ?_
      refine r_iload_n C 2 dX10_attempts_73 rfl rfl ?_
      obtain ⟨ht, h⟩ := h
      refine r_callV C (r := (RX10, TX10, 19)) hL yw_X10_goes vw_RX10_153 rfl rfl ht rfl rfl (Nat.le_of_ble_eq_true rfl) ⟨(Nat.le_of_ble_eq_true rfl), (Nat.le_of_ble_eq_true rfl)⟩ (mX10_goes hfl h) rfl dX10_attempts_74 (kV' (fun G82 h => ?_)) kN
      refine r_iinc C (-1) (lv' := [some (.ref a0), some (.int x1), some (.int (x2 + (-1))), none, none]) dX10_attempts_77 rfl (by decide) rfl rfl ?_
      refine r_goto C 51 dX10_attempts_80 (by decide) ?_
      exact hk51 _ _ _ _ h
theorem lX10_attempts_51 {X : Xt} {K : Kt} {l : Launch} {G0 : Gt} {Pr : Int32 → Gt → Prop} (B : BX X K l cX10_attempts 5 RX10 4 93 G0 (some (.boolean)) "attempts") (I : Gt → Nat → Int32 → Int32 → Prop) (μ : Gt → Nat → Int32 → Int32 → Nat) (hS : ∀ (G : Gt) (a0 : Nat) (x1 : Int32) (x2 : Int32), I G a0 x1 x2 → wX10_attempts_51 X Pr (fun G' a0' x1' x2' => I G' a0' x1' x2' ∧ μ G' a0' x1' x2' < μ G a0 x1 x2) G a0 x1 x2) : ∀ (n : Nat) (G : Gt) (a0 : Nat) (x1 : Int32) (x2 : Int32), μ G a0 x1 x2 < n → I G a0 x1 x2 → WM X K (QM X K G0 (rI Pr) noX) G 51 [some (.ref a0), some (.int x1), some (.int x2), none, none] [] := by
  intro n
  induction n with
  | zero => intro G a0 x1 x2 hm; exact absurd hm (Nat.not_lt_zero _)
  | succ n ih =>
    intro G a0 x1 x2 hm hi
    exact bX10_attempts_51 B (fun G' a0' x1' x2' hk => ih G' a0' x1' x2' (Nat.lt_of_lt_of_le hk.2 (Nat.le_of_lt_succ hm)) hk.1) (hS G a0 x1 x2 hi)
def wX10_attempts (X : Xt) (G : Gt) (a0 : Nat) (Pr : Int32 → Gt → Prop) : Prop := gT G a0 = (1, 11) ∧ wX10_frames X G a0 (fun G1 => gT G1 a0 = (1, 11) ∧ ∃ b2, gR G1 352 a0 = some b2 ∧ (gT G1 b2).1 = 2 ∧ vp_in 10 (gT G1 b2).2 ∧ (gT G1 b2).1 = 2 ∧ vp_in 10 (gT G1 b2).2 ∧ ∀ G3, G3 = sA G1 b2 (upd (gA G1 b2) (10 : Int32).toNatClampNeg ((gA G1 b2 (10 : Int32).toNatClampNeg) + 1)) → gT G3 a0 = (1, 11) ∧ ∃ b4, gR G3 352 a0 = some b4 ∧ (gT G3 b4).1 = 2 ∧ vp_in 0 (gT G3 b4).2 ∧ gT G3 a0 = (1, 11) ∧ (gT G3 b4).1 = 2 ∧ vp_in 0 (gT G3 b4).2 ∧ ∀ G5, G5 = sA G3 b4 (upd (gA G3 b4) (0 : Int32).toNatClampNeg ((gA G3 b4 (0 : Int32).toNatClampNeg) + (4 + (gI G3 362 a0)))) → gT G5 a0 = (1, 11) ∧ ∃ b6, gR G5 352 a0 = some b6 ∧ (gT G5 b6).1 = 2 ∧ vp_in 0 (gT G5 b6).2 ∧ gT G5 a0 = (1, 11) ∧ wX10_gets X G5 a0 (fun G7 => gT G7 a0 = (1, 11) ∧ ∃ b8, gR G7 352 a0 = some b8 ∧ (gT G7 b8).1 = 2 ∧ vp_in 9 (gT G7 b8).2 ∧ ∃ (I : Gt → Nat → Int32 → Int32 → Prop) (μ : Gt → Nat → Int32 → Int32 → Nat), I G7 a0 (gA G5 b6 (0 : Int32).toNatClampNeg) ((gA G7 b8 (9 : Int32).toNatClampNeg) - 1) ∧ ∀ (G : Gt) (a0 : Nat) (x1 : Int32) (x2 : Int32), I G a0 x1 x2 → wX10_attempts_51 X Pr (fun G' a0' x1' x2' => I G' a0' x1' x2' ∧ μ G' a0' x1' x2' < μ G a0 x1 x2) G a0 x1 x2))
set_option maxRecDepth 20000 in
theorem mX10_attempts {X : Xt} {l : Launch} (hfl : l.stackTraces = false) {G : Gt} {a0 : Nat} {Pr : Int32 → Gt → Prop} (h : wX10_attempts X G a0 Pr) : Mc X l yX10_attempts (.code yX10_attempts cX10_attempts 5 (some (.boolean))) 4 93 [.ref a0] G (rI Pr) noX := by
  refine Mc.of (by decide +kernel) hfl [some (.ref a0), none, none, none, none] rfl (Nat.le_of_ble_eq_true rfl) rfl ?_
  intro K hL C E0 hr hnm hex
  have B : BX X K l cX10_attempts 5 RX10 4 93 G (some (.boolean)) "attempts" := ⟨hL, C, E0, hr, hnm, hex, hfl⟩
  have C : Cx X K cX10_attempts 5 RX10 4 93 := C
  unfold wX10_attempts at h
  refine r_aloadR_n C 0 dX10_attempts_0 rfl rfl ?_
  obtain ⟨ht, h⟩ := h
  refine r_callV C (r := (RX10, TX10, 19)) hL yw_X10_frames vw_RX10_147 rfl rfl ht rfl rfl (Nat.le_of_ble_eq_true rfl) ⟨(Nat.le_of_ble_eq_true rfl), (Nat.le_of_ble_eq_true rfl)⟩ (mX10_frames hfl h) rfl dX10_attempts_1 (kV' (fun G1 h => ?_)) kN
  refine r_aloadR_n C 0 dX10_attempts_4 rfl rfl ?_
  obtain ⟨ht, h⟩ := h
  obtain ⟨b2, hb, h⟩ := h
  refine r_getR C fw_RX10_7 rfl ht hb dX10_attempts_5 ?_
  refine r_bipush C 10 dX10_attempts_8 (by decide) ?_
  refine r_dup2 C dX10_attempts_10 rfl rfl ?_
  obtain ⟨ht, hi, h⟩ := h
  refine r_ialdP C ht hi dX10_attempts_11 ?_
  refine r_iconst C 1 dX10_attempts_12 (by decide) ?_
  refine r_iadd C dX10_attempts_13 ?_
  obtain ⟨ht, hi, h⟩ := h
  refine r_iastP C ht hi dX10_attempts_14 ?_
  refine r_nm (fun G3 hG3 => ?_)
  replace h := h G3 hG3
  refine r_aloadR_n C 0 dX10_attempts_15 rfl rfl ?_
  obtain ⟨ht, h⟩ := h
  obtain ⟨b4, hb, h⟩ := h
  refine r_getR C fw_RX10_7 rfl ht hb dX10_attempts_16 ?_
  refine r_iconst C 0 dX10_attempts_19 (by decide) ?_
  refine r_dup2 C dX10_attempts_20 rfl rfl ?_
  obtain ⟨ht, hi, h⟩ := h
  refine r_ialdP C ht hi dX10_attempts_21 ?_
  refine r_iconst C 4 dX10_attempts_22 (by decide) ?_
  refine r_aloadR_n C 0 dX10_attempts_23 rfl rfl ?_
  obtain ⟨ht, h⟩ := h
  refine r_getI C fw_RX10_118 rfl ht dX10_attempts_24 ?_
  refine r_iadd C dX10_attempts_27 ?_
  refine r_iadd C dX10_attempts_28 ?_
  obtain ⟨ht, hi, h⟩ := h
  refine r_iastP C ht hi dX10_attempts_29 ?_
  refine r_nm (fun G5 hG5 => ?_)
  replace h := h G5 hG5
  refine r_aloadR_n C 0 dX10_attempts_30 rfl rfl ?_
  obtain ⟨ht, h⟩ := h
  obtain ⟨b6, hb, h⟩ := h
  refine r_getR C fw_RX10_7 rfl ht hb dX10_attempts_31 ?_
  refine r_iconst C 0 dX10_attempts_34 (by decide) ?_
  obtain ⟨ht, hi, h⟩ := h
  refine r_ialdP C ht hi dX10_attempts_35 ?_
  refine r_istore_n C 1 (lv' := [some (.ref a0), some (.int (gA G5 b6 (0 : Int32).toNatClampNeg)), none, none, none]) dX10_attempts_36 rfl (Nat.le_of_ble_eq_true rfl) rfl rfl ?_
  refine r_aloadR_n C 0 dX10_attempts_37 rfl rfl ?_
  obtain ⟨ht, h⟩ := h
  refine r_callV C (r := (RX10, TX10, 19)) hL yw_X10_gets vw_RX10_150 rfl rfl ht rfl rfl (Nat.le_of_ble_eq_true rfl) ⟨(Nat.le_of_ble_eq_true rfl), (Nat.le_of_ble_eq_true rfl)⟩ (mX10_gets hfl h) rfl dX10_attempts_38 (kV' (fun G7 h => ?_)) kN
  refine r_aloadR_n C 0 dX10_attempts_41 rfl rfl ?_
  obtain ⟨ht, h⟩ := h
  obtain ⟨b8, hb, h⟩ := h
  refine r_getR C fw_RX10_7 rfl ht hb dX10_attempts_42 ?_
  refine r_bipush C 9 dX10_attempts_45 (by decide) ?_
  obtain ⟨ht, hi, h⟩ := h
  refine r_ialdP C ht hi dX10_attempts_47 ?_
  refine r_iconst C 1 dX10_attempts_48 (by decide) ?_
  refine r_isub C dX10_attempts_49 ?_
  refine r_istore_n C 2 (lv' := [some (.ref a0), some (.int (gA G5 b6 (0 : Int32).toNatClampNeg)), some (.int ((gA G7 b8 (9 : Int32).toNatClampNeg) - 1)), none, none]) dX10_attempts_50 rfl (Nat.le_of_ble_eq_true rfl) rfl rfl ?_
  obtain ⟨I, μ, hI, hS⟩ := h
  exact lX10_attempts_51 B I μ hS _ _ _ _ _ (Nat.lt_succ_self _) hI
def wX10_tries_45 (X : Xt) (Pr : Int32 → Gt → Prop) (k45 : Gt → Nat → Int32 → Int32 → Prop) (G : Gt) (a0 : Nat) (x1 : Int32) (x2 : Int32) : Prop := gT G a0 = (1, 11) ∧ ∃ b1, gR G 352 a0 = some b1 ∧ (gT G b1).1 = 2 ∧ vp_in 3 (gT G b1).2 ∧ ((gA G b1 (3 : Int32).toNatClampNeg) < x2 → (x1 = 0 ∨ x1 = 1) ∧ Pr x1 G) ∧ (¬ ((gA G b1 (3 : Int32).toNatClampNeg) < x2) → (¬ x1 = 0 → (x1 = 0 ∨ x1 = 1) ∧ Pr x1 G) ∧ (x1 = 0 → gT G a0 = (1, 11) ∧ wX10_attempts X G a0 (fun r82 G83 => k45 G83 a0 r82 (x2 + 1))))
set_option maxRecDepth 20000 in
theorem bX10_tries_45 {X : Xt} {K : Kt} {l : Launch} {G0 : Gt} {Pr : Int32 → Gt → Prop} (B : BX X K l cX10_tries 3 RX10 5 117 G0 (some (.boolean)) "tries") {k45 : Gt → Nat → Int32 → Int32 → Prop} (hk45 : ∀ (G : Gt) (a0 : Nat) (x1 : Int32) (x2 : Int32), k45 G a0 x1 x2 → WM X K (QM X K G0 (rI Pr) noX) G 45 [some (.ref a0), some (.int x1), some (.int x2)] []) {G : Gt} {a0 : Nat} {x1 : Int32} {x2 : Int32} (h : wX10_tries_45 X Pr k45 G a0 x1 x2) : WM X K (QM X K G0 (rI Pr) noX) G 45 [some (.ref a0), some (.int x1), some (.int x2)] [] := by
  obtain ⟨hL, C, E0, hr, hnm, hex, hfl⟩ := id B
  unfold wX10_tries_45 at h
  refine r_iload_n C 2 dX10_tries_45 rfl rfl ?_
  refine r_aloadR_n C 0 dX10_tries_46 rfl rfl ?_
  obtain ⟨ht, h⟩ := h
  obtain ⟨b1, hb, h⟩ := h
  refine r_getR C fw_RX10_7 rfl ht hb dX10_tries_47 ?_
  refine r_iconst C 3 dX10_tries_50 (by decide) ?_
  obtain ⟨ht, hi, h⟩ := h
  refine r_ialdP C ht hi dX10_tries_51 ?_
  refine r_icmp_gt C 70 dX10_tries_52 (by decide) (fun c => ?_) (fun c => ?_)
  · replace h := h.1 c
    refine r_iload_n C 1 dX10_tries_70 rfl rfl ?_
    obtain ⟨hz, h⟩ := h
    exact r_zret C E0 hr hz ⟨_, rfl, h⟩ dX10_tries_71
  · replace h := h.2 c
    refine r_iload_n C 1 dX10_tries_55 rfl rfl ?_
    refine r_if_ne C 70 dX10_tries_56 (by decide) (fun c => ?_) (fun c => ?_)
    · replace h := h.1 c
      refine r_iload_n C 1 dX10_tries_70 rfl rfl ?_
      obtain ⟨hz, h⟩ := h
      exact r_zret C E0 hr hz ⟨_, rfl, h⟩ dX10_tries_71
    · replace h := h.2 c
      refine r_aloadR_n C 0 dX10_tries_59 rfl rfl ?_
      obtain ⟨ht, h⟩ := h
      refine r_callV C (r := (RX10, TX10, 19)) hL yw_X10_attempts vw_RX10_162 rfl rfl ht rfl rfl (Nat.le_of_ble_eq_true rfl) ⟨(Nat.le_of_ble_eq_true rfl), (Nat.le_of_ble_eq_true rfl)⟩ (mX10_attempts hfl h) rfl dX10_tries_60 (kI (fun r82 G83 h => ?_)) kN
      refine r_istore_n C 1 (lv' := [some (.ref a0), some (.int r82), some (.int x2)]) dX10_tries_63 rfl (Nat.le_of_ble_eq_true rfl) rfl rfl ?_
      refine r_iinc C 1 (lv' := [some (.ref a0), some (.int r82), some (.int (x2 + 1))]) dX10_tries_64 rfl (by decide) rfl rfl ?_
      refine r_goto C 45 dX10_tries_67 (by decide) ?_
      exact hk45 _ _ _ _ h
theorem lX10_tries_45 {X : Xt} {K : Kt} {l : Launch} {G0 : Gt} {Pr : Int32 → Gt → Prop} (B : BX X K l cX10_tries 3 RX10 5 117 G0 (some (.boolean)) "tries") (I : Gt → Nat → Int32 → Int32 → Prop) (μ : Gt → Nat → Int32 → Int32 → Nat) (hS : ∀ (G : Gt) (a0 : Nat) (x1 : Int32) (x2 : Int32), I G a0 x1 x2 → wX10_tries_45 X Pr (fun G' a0' x1' x2' => I G' a0' x1' x2' ∧ μ G' a0' x1' x2' < μ G a0 x1 x2) G a0 x1 x2) : ∀ (n : Nat) (G : Gt) (a0 : Nat) (x1 : Int32) (x2 : Int32), μ G a0 x1 x2 < n → I G a0 x1 x2 → WM X K (QM X K G0 (rI Pr) noX) G 45 [some (.ref a0), some (.int x1), some (.int x2)] [] := by
  intro n
  induction n with
  | zero => intro G a0 x1 x2 hm; exact absurd hm (Nat.not_lt_zero _)
  | succ n ih =>
    intro G a0 x1 x2 hm hi
    exact bX10_tries_45 B (fun G' a0' x1' x2' hk => ih G' a0' x1' x2' (Nat.lt_of_lt_of_le hk.2 (Nat.le_of_lt_succ hm)) hk.1) (hS G a0 x1 x2 hi)
def wX10_tries (X : Xt) (G : Gt) (a0 : Nat) (Pr : Int32 → Gt → Prop) : Prop := gT G a0 = (1, 11) ∧ ∃ b1, gR G 352 a0 = some b1 ∧ (gT G b1).1 = 2 ∧ vp_in 7 (gT G b1).2 ∧ (gT G b1).1 = 2 ∧ vp_in 7 (gT G b1).2 ∧ ∀ G2, G2 = sA G b1 (upd (gA G b1) (7 : Int32).toNatClampNeg ((gA G b1 (7 : Int32).toNatClampNeg) + 1)) → gT G2 a0 = (1, 11) ∧ ∃ b3, gR G2 352 a0 = some b3 ∧ (gT G2 b3).1 = 2 ∧ vp_in 0 (gT G2 b3).2 ∧ gT G2 a0 = (1, 11) ∧ ∃ b4, gR G2 352 a0 = some b4 ∧ (gT G2 b4).1 = 2 ∧ vp_in 8 (gT G2 b4).2 ∧ (¬ (gA G2 b4 (8 : Int32).toNatClampNeg) = 1 → (gT G2 b3).1 = 2 ∧ vp_in 0 (gT G2 b3).2 ∧ ∀ G25, G25 = sA G2 b3 (upd (gA G2 b3) (0 : Int32).toNatClampNeg ((gA G2 b3 (0 : Int32).toNatClampNeg) + 0)) → ∃ (I : Gt → Nat → Int32 → Int32 → Prop) (μ : Gt → Nat → Int32 → Int32 → Nat), I G25 a0 (0 : Int32) (0 : Int32) ∧ ∀ (G : Gt) (a0 : Nat) (x1 : Int32) (x2 : Int32), I G a0 x1 x2 → wX10_tries_45 X Pr (fun G' a0' x1' x2' => I G' a0' x1' x2' ∧ μ G' a0' x1' x2' < μ G a0 x1 x2) G a0 x1 x2) ∧ ((gA G2 b4 (8 : Int32).toNatClampNeg) = 1 → gT G2 a0 = (1, 11) ∧ ∃ b45, gR G2 352 a0 = some b45 ∧ (gT G2 b45).1 = 2 ∧ vp_in 4 (gT G2 b45).2 ∧ (gT G2 b3).1 = 2 ∧ vp_in 0 (gT G2 b3).2 ∧ ∀ G46, G46 = sA G2 b3 (upd (gA G2 b3) (0 : Int32).toNatClampNeg ((gA G2 b3 (0 : Int32).toNatClampNeg) + (gA G2 b45 (4 : Int32).toNatClampNeg))) → ∃ (I : Gt → Nat → Int32 → Int32 → Prop) (μ : Gt → Nat → Int32 → Int32 → Nat), I G46 a0 (0 : Int32) (0 : Int32) ∧ ∀ (G : Gt) (a0 : Nat) (x1 : Int32) (x2 : Int32), I G a0 x1 x2 → wX10_tries_45 X Pr (fun G' a0' x1' x2' => I G' a0' x1' x2' ∧ μ G' a0' x1' x2' < μ G a0 x1 x2) G a0 x1 x2)
set_option maxRecDepth 20000 in
theorem mX10_tries {X : Xt} {l : Launch} (hfl : l.stackTraces = false) {G : Gt} {a0 : Nat} {Pr : Int32 → Gt → Prop} (h : wX10_tries X G a0 Pr) : Mc X l yX10_tries (.code yX10_tries cX10_tries 3 (some (.boolean))) 5 117 [.ref a0] G (rI Pr) noX := by
  refine Mc.of (by decide +kernel) hfl [some (.ref a0), none, none] rfl (Nat.le_of_ble_eq_true rfl) rfl ?_
  intro K hL C E0 hr hnm hex
  have B : BX X K l cX10_tries 3 RX10 5 117 G (some (.boolean)) "tries" := ⟨hL, C, E0, hr, hnm, hex, hfl⟩
  have C : Cx X K cX10_tries 3 RX10 5 117 := C
  unfold wX10_tries at h
  refine r_aloadR_n C 0 dX10_tries_0 rfl rfl ?_
  obtain ⟨ht, h⟩ := h
  obtain ⟨b1, hb, h⟩ := h
  refine r_getR C fw_RX10_7 rfl ht hb dX10_tries_1 ?_
  refine r_bipush C 7 dX10_tries_4 (by decide) ?_
  refine r_dup2 C dX10_tries_6 rfl rfl ?_
  obtain ⟨ht, hi, h⟩ := h
  refine r_ialdP C ht hi dX10_tries_7 ?_
  refine r_iconst C 1 dX10_tries_8 (by decide) ?_
  refine r_iadd C dX10_tries_9 ?_
  obtain ⟨ht, hi, h⟩ := h
  refine r_iastP C ht hi dX10_tries_10 ?_
  refine r_nm (fun G2 hG2 => ?_)
  replace h := h G2 hG2
  refine r_aloadR_n C 0 dX10_tries_11 rfl rfl ?_
  obtain ⟨ht, h⟩ := h
  obtain ⟨b3, hb, h⟩ := h
  refine r_getR C fw_RX10_7 rfl ht hb dX10_tries_12 ?_
  refine r_iconst C 0 dX10_tries_15 (by decide) ?_
  refine r_dup2 C dX10_tries_16 rfl rfl ?_
  obtain ⟨ht, hi, h⟩ := h
  refine r_ialdP C ht hi dX10_tries_17 ?_
  refine r_aloadR_n C 0 dX10_tries_18 rfl rfl ?_
  obtain ⟨ht, h⟩ := h
  obtain ⟨b4, hb, h⟩ := h
  refine r_getR C fw_RX10_7 rfl ht hb dX10_tries_19 ?_
  refine r_bipush C 8 dX10_tries_22 (by decide) ?_
  obtain ⟨ht, hi, h⟩ := h
  refine r_ialdP C ht hi dX10_tries_24 ?_
  refine r_iconst C 1 dX10_tries_25 (by decide) ?_
  refine r_icmp_ne C 38 dX10_tries_26 (by decide) (fun c => ?_) (fun c => ?_)
  · replace h := h.1 c
    refine r_iconst C 0 dX10_tries_38 (by decide) ?_
    refine r_iadd C dX10_tries_39 ?_
    obtain ⟨ht, hi, h⟩ := h
    refine r_iastP C ht hi dX10_tries_40 ?_
    refine r_nm (fun G25 hG25 => ?_)
    replace h := h G25 hG25
    refine r_iconst C 0 dX10_tries_41 (by decide) ?_
    refine r_istore_n C 1 (lv' := [some (.ref a0), some (.int 0), none]) dX10_tries_42 rfl (Nat.le_of_ble_eq_true rfl) rfl rfl ?_
    refine r_iconst C 0 dX10_tries_43 (by decide) ?_
    refine r_istore_n C 2 (lv' := [some (.ref a0), some (.int 0), some (.int 0)]) dX10_tries_44 rfl (Nat.le_of_ble_eq_true rfl) rfl rfl ?_
    obtain ⟨I, μ, hI, hS⟩ := h
    exact lX10_tries_45 B I μ hS _ _ _ _ _ (Nat.lt_succ_self _) hI
  · replace h := h.2 c
    refine r_aloadR_n C 0 dX10_tries_29 rfl rfl ?_
    obtain ⟨ht, h⟩ := h
    obtain ⟨b45, hb, h⟩ := h
    refine r_getR C fw_RX10_7 rfl ht hb dX10_tries_30 ?_
    refine r_iconst C 4 dX10_tries_33 (by decide) ?_
    obtain ⟨ht, hi, h⟩ := h
    refine r_ialdP C ht hi dX10_tries_34 ?_
    refine r_goto C 39 dX10_tries_35 (by decide) ?_
    refine r_iadd C dX10_tries_39 ?_
    obtain ⟨ht, hi, h⟩ := h
    refine r_iastP C ht hi dX10_tries_40 ?_
    refine r_nm (fun G46 hG46 => ?_)
    replace h := h G46 hG46
    refine r_iconst C 0 dX10_tries_41 (by decide) ?_
    refine r_istore_n C 1 (lv' := [some (.ref a0), some (.int 0), none]) dX10_tries_42 rfl (Nat.le_of_ble_eq_true rfl) rfl rfl ?_
    refine r_iconst C 0 dX10_tries_43 (by decide) ?_
    refine r_istore_n C 2 (lv' := [some (.ref a0), some (.int 0), some (.int 0)]) dX10_tries_44 rfl (Nat.le_of_ble_eq_true rfl) rfl rfl ?_
    obtain ⟨I, μ, hI, hS⟩ := h
    exact lX10_tries_45 B I μ hS _ _ _ _ _ (Nat.lt_succ_self _) hI
def wX10_caches (X : Xt) (G : Gt) (a0 : Nat) (x1 : Int32) (x2 : Int32) (Pr : Gt → Prop) : Prop := wX10_in X G x1 0 31 (fun r1 G2 => (r1 = 0 → Pr G2) ∧ (¬ (r1 = 0) → gT G2 a0 = (1, 11) ∧ ∃ b43, gR G2 352 a0 = some b43 ∧ gT G2 a0 = (1, 11) ∧ wX10_cacheAt X G2 (gI G2 360 a0) x1 (fun r44 G45 => (gT G45 b43).1 = 2 ∧ vp_in r44 (gT G45 b43).2 ∧ ∀ G46, G46 = sA G45 b43 (upd (gA G45 b43) r44.toNatClampNeg 1) → gT G46 a0 = (1, 11) ∧ ∃ b47, gR G46 352 a0 = some b47 ∧ gT G46 a0 = (1, 11) ∧ wX10_cacheAt X G46 (gI G46 360 a0) x1 (fun r48 G49 => (gT G49 b47).1 = 2 ∧ vp_in (r48 + 1) (gT G49 b47).2 ∧ ∀ G50, G50 = sA G49 b47 (upd (gA G49 b47) (r48 + 1).toNatClampNeg x2) → gT G50 a0 = (1, 11) ∧ ∃ b51, gR G50 352 a0 = some b51 ∧ gT G50 a0 = (1, 11) ∧ wX10_cacheAt X G50 (gI G50 360 a0) x1 (fun r52 G53 => gT G53 a0 = (1, 11) ∧ ∃ b54, gR G53 352 a0 = some b54 ∧ (gT G53 b54).1 = 2 ∧ vp_in 0 (gT G53 b54).2 ∧ (gT G53 b51).1 = 2 ∧ vp_in (r52 + 2) (gT G53 b51).2 ∧ ∀ G55, G55 = sA G53 b51 (upd (gA G53 b51) (r52 + 2).toNatClampNeg (gA G53 b54 (0 : Int32).toNatClampNeg)) → Pr G55)))))
set_option maxRecDepth 20000 in
theorem mX10_caches {X : Xt} {l : Launch} (hfl : l.stackTraces = false) {G : Gt} {a0 : Nat} {x1 : Int32} {x2 : Int32} {Pr : Gt → Prop} (h : wX10_caches X G a0 x1 x2 Pr) : Mc X l yX10_caches (.code yX10_caches cX10_caches 3 none) 2 42 [.ref a0, .int x1, .int x2] G (rV Pr) noX := by
  refine Mc.of (by decide +kernel) hfl [some (.ref a0), some (.int x1), some (.int x2)] rfl (Nat.le_of_ble_eq_true rfl) rfl ?_
  intro K hL C E0 hr hnm hex
  have B : BX X K l cX10_caches 3 RX10 2 42 G none "caches" := ⟨hL, C, E0, hr, hnm, hex, hfl⟩
  have C : Cx X K cX10_caches 3 RX10 2 42 := C
  unfold wX10_caches at h
  refine r_iload_n C 1 dX10_caches_0 rfl rfl ?_
  refine r_iconst C 0 dX10_caches_1 (by decide) ?_
  refine r_bipush C 31 dX10_caches_2 (by decide) ?_
  refine r_callS C hL yw_X10_in sw_RX10_39 rfl rfl (Nat.le_of_ble_eq_true rfl) ⟨(Nat.le_of_ble_eq_true rfl), (Nat.le_of_ble_eq_true rfl)⟩ (mX10_in hfl h) rfl dX10_caches_4 (kI (fun r1 G2 h => ?_)) kN
  refine r_if_eq C 61 dX10_caches_7 (by decide) (fun c => ?_) (fun c => ?_)
  · replace h := h.1 c
    exact r_vret C E0 hr ⟨rfl, h⟩ dX10_caches_61
  · replace h := h.2 c
    refine r_aloadR_n C 0 dX10_caches_10 rfl rfl ?_
    obtain ⟨ht, h⟩ := h
    obtain ⟨b43, hb, h⟩ := h
    refine r_getR C fw_RX10_7 rfl ht hb dX10_caches_11 ?_
    refine r_aloadR_n C 0 dX10_caches_14 rfl rfl ?_
    obtain ⟨ht, h⟩ := h
    refine r_getI C fw_RX10_91 rfl ht dX10_caches_15 ?_
    refine r_iload_n C 1 dX10_caches_18 rfl rfl ?_
    refine r_callS C hL yw_X10_cacheAt sw_RX10_79 rfl rfl (Nat.le_of_ble_eq_true rfl) ⟨(Nat.le_of_ble_eq_true rfl), (Nat.le_of_ble_eq_true rfl)⟩ (mX10_cacheAt hfl h) rfl dX10_caches_19 (kI (fun r44 G45 h => ?_)) kN
    refine r_iconst C 1 dX10_caches_22 (by decide) ?_
    obtain ⟨ht, hi, h⟩ := h
    refine r_iastP C ht hi dX10_caches_23 ?_
    refine r_nm (fun G46 hG46 => ?_)
    replace h := h G46 hG46
    refine r_aloadR_n C 0 dX10_caches_24 rfl rfl ?_
    obtain ⟨ht, h⟩ := h
    obtain ⟨b47, hb, h⟩ := h
    refine r_getR C fw_RX10_7 rfl ht hb dX10_caches_25 ?_
    refine r_aloadR_n C 0 dX10_caches_28 rfl rfl ?_
    obtain ⟨ht, h⟩ := h
    refine r_getI C fw_RX10_91 rfl ht dX10_caches_29 ?_
    refine r_iload_n C 1 dX10_caches_32 rfl rfl ?_
    refine r_callS C hL yw_X10_cacheAt sw_RX10_79 rfl rfl (Nat.le_of_ble_eq_true rfl) ⟨(Nat.le_of_ble_eq_true rfl), (Nat.le_of_ble_eq_true rfl)⟩ (mX10_cacheAt hfl h) rfl dX10_caches_33 (kI (fun r48 G49 h => ?_)) kN
    refine r_iconst C 1 dX10_caches_36 (by decide) ?_
    refine r_iadd C dX10_caches_37 ?_
    refine r_iload_n C 2 dX10_caches_38 rfl rfl ?_
    obtain ⟨ht, hi, h⟩ := h
    refine r_iastP C ht hi dX10_caches_39 ?_
    refine r_nm (fun G50 hG50 => ?_)
    replace h := h G50 hG50
    refine r_aloadR_n C 0 dX10_caches_40 rfl rfl ?_
    obtain ⟨ht, h⟩ := h
    obtain ⟨b51, hb, h⟩ := h
    refine r_getR C fw_RX10_7 rfl ht hb dX10_caches_41 ?_
    refine r_aloadR_n C 0 dX10_caches_44 rfl rfl ?_
    obtain ⟨ht, h⟩ := h
    refine r_getI C fw_RX10_91 rfl ht dX10_caches_45 ?_
    refine r_iload_n C 1 dX10_caches_48 rfl rfl ?_
    refine r_callS C hL yw_X10_cacheAt sw_RX10_79 rfl rfl (Nat.le_of_ble_eq_true rfl) ⟨(Nat.le_of_ble_eq_true rfl), (Nat.le_of_ble_eq_true rfl)⟩ (mX10_cacheAt hfl h) rfl dX10_caches_49 (kI (fun r52 G53 h => ?_)) kN
    refine r_iconst C 2 dX10_caches_52 (by decide) ?_
    refine r_iadd C dX10_caches_53 ?_
    refine r_aloadR_n C 0 dX10_caches_54 rfl rfl ?_
    obtain ⟨ht, h⟩ := h
    obtain ⟨b54, hb, h⟩ := h
    refine r_getR C fw_RX10_7 rfl ht hb dX10_caches_55 ?_
    refine r_iconst C 0 dX10_caches_58 (by decide) ?_
    obtain ⟨ht, hi, h⟩ := h
    refine r_ialdP C ht hi dX10_caches_59 ?_
    obtain ⟨ht, hi, h⟩ := h
    refine r_iastP C ht hi dX10_caches_60 ?_
    refine r_nm (fun G55 hG55 => ?_)
    replace h := h G55 hG55
    exact r_vret C E0 hr ⟨rfl, h⟩ dX10_caches_61
def wX10_ends (X : Xt) (G : Gt) (a0 : Nat) (x1 : Int32) (x2 : Int32) (x3 : Int32) (Pr : Gt → Prop) : Prop := gT G a0 = (1, 11) ∧ ∃ b1, gR G 352 a0 = some b1 ∧ wX10_requestAt X G x1 (fun r2 G3 => (gT G3 b1).1 = 2 ∧ vp_in (r2 + 5) (gT G3 b1).2 ∧ ∀ G4, G4 = sA G3 b1 (upd (gA G3 b1) (r2 + 5).toNatClampNeg x2) → gT G4 a0 = (1, 11) ∧ ∃ b5, gR G4 352 a0 = some b5 ∧ wX10_requestAt X G4 x1 (fun r6 G7 => (gT G7 b5).1 = 2 ∧ vp_in (r6 + 6) (gT G7 b5).2 ∧ ∀ G8, G8 = sA G7 b5 (upd (gA G7 b5) (r6 + 6).toNatClampNeg x3) → gT G8 a0 = (1, 11) ∧ ∃ b9, gR G8 352 a0 = some b9 ∧ wX10_requestAt X G8 x1 (fun r10 G11 => gT G11 a0 = (1, 11) ∧ ∃ b12, gR G11 352 a0 = some b12 ∧ (gT G11 b12).1 = 2 ∧ vp_in 0 (gT G11 b12).2 ∧ (gT G11 b9).1 = 2 ∧ vp_in (r10 + 7) (gT G11 b9).2 ∧ ∀ G13, G13 = sA G11 b9 (upd (gA G11 b9) (r10 + 7).toNatClampNeg (gA G11 b12 (0 : Int32).toNatClampNeg)) → Pr G13)))
set_option maxRecDepth 20000 in
theorem mX10_ends {X : Xt} {l : Launch} (hfl : l.stackTraces = false) {G : Gt} {a0 : Nat} {x1 : Int32} {x2 : Int32} {x3 : Int32} {Pr : Gt → Prop} (h : wX10_ends X G a0 x1 x2 x3 Pr) : Mc X l yX10_ends (.code yX10_ends cX10_ends 4 none) 1 20 [.ref a0, .int x1, .int x2, .int x3] G (rV Pr) noX := by
  refine Mc.of (by decide +kernel) hfl [some (.ref a0), some (.int x1), some (.int x2), some (.int x3)] rfl (Nat.le_of_ble_eq_true rfl) rfl ?_
  intro K hL C E0 hr hnm hex
  have B : BX X K l cX10_ends 4 RX10 1 20 G none "ends" := ⟨hL, C, E0, hr, hnm, hex, hfl⟩
  have C : Cx X K cX10_ends 4 RX10 1 20 := C
  unfold wX10_ends at h
  refine r_aloadR_n C 0 dX10_ends_0 rfl rfl ?_
  obtain ⟨ht, h⟩ := h
  obtain ⟨b1, hb, h⟩ := h
  refine r_getR C fw_RX10_7 rfl ht hb dX10_ends_1 ?_
  refine r_iload_n C 1 dX10_ends_4 rfl rfl ?_
  refine r_callS C hL yw_X10_requestAt sw_RX10_61 rfl rfl (Nat.le_of_ble_eq_true rfl) ⟨(Nat.le_of_ble_eq_true rfl), (Nat.le_of_ble_eq_true rfl)⟩ (mX10_requestAt hfl h) rfl dX10_ends_5 (kI (fun r2 G3 h => ?_)) kN
  refine r_iconst C 5 dX10_ends_8 (by decide) ?_
  refine r_iadd C dX10_ends_9 ?_
  refine r_iload_n C 2 dX10_ends_10 rfl rfl ?_
  obtain ⟨ht, hi, h⟩ := h
  refine r_iastP C ht hi dX10_ends_11 ?_
  refine r_nm (fun G4 hG4 => ?_)
  replace h := h G4 hG4
  refine r_aloadR_n C 0 dX10_ends_12 rfl rfl ?_
  obtain ⟨ht, h⟩ := h
  obtain ⟨b5, hb, h⟩ := h
  refine r_getR C fw_RX10_7 rfl ht hb dX10_ends_13 ?_
  refine r_iload_n C 1 dX10_ends_16 rfl rfl ?_
  refine r_callS C hL yw_X10_requestAt sw_RX10_61 rfl rfl (Nat.le_of_ble_eq_true rfl) ⟨(Nat.le_of_ble_eq_true rfl), (Nat.le_of_ble_eq_true rfl)⟩ (mX10_requestAt hfl h) rfl dX10_ends_17 (kI (fun r6 G7 h => ?_)) kN
  refine r_bipush C 6 dX10_ends_20 (by decide) ?_
  refine r_iadd C dX10_ends_22 ?_
  refine r_iload_n C 3 dX10_ends_23 rfl rfl ?_
  obtain ⟨ht, hi, h⟩ := h
  refine r_iastP C ht hi dX10_ends_24 ?_
  refine r_nm (fun G8 hG8 => ?_)
  replace h := h G8 hG8
  refine r_aloadR_n C 0 dX10_ends_25 rfl rfl ?_
  obtain ⟨ht, h⟩ := h
  obtain ⟨b9, hb, h⟩ := h
  refine r_getR C fw_RX10_7 rfl ht hb dX10_ends_26 ?_
  refine r_iload_n C 1 dX10_ends_29 rfl rfl ?_
  refine r_callS C hL yw_X10_requestAt sw_RX10_61 rfl rfl (Nat.le_of_ble_eq_true rfl) ⟨(Nat.le_of_ble_eq_true rfl), (Nat.le_of_ble_eq_true rfl)⟩ (mX10_requestAt hfl h) rfl dX10_ends_30 (kI (fun r10 G11 h => ?_)) kN
  refine r_bipush C 7 dX10_ends_33 (by decide) ?_
  refine r_iadd C dX10_ends_35 ?_
  refine r_aloadR_n C 0 dX10_ends_36 rfl rfl ?_
  obtain ⟨ht, h⟩ := h
  obtain ⟨b12, hb, h⟩ := h
  refine r_getR C fw_RX10_7 rfl ht hb dX10_ends_37 ?_
  refine r_iconst C 0 dX10_ends_40 (by decide) ?_
  obtain ⟨ht, hi, h⟩ := h
  refine r_ialdP C ht hi dX10_ends_41 ?_
  obtain ⟨ht, hi, h⟩ := h
  refine r_iastP C ht hi dX10_ends_42 ?_
  refine r_nm (fun G13 hG13 => ?_)
  replace h := h G13 hG13
  exact r_vret C E0 hr ⟨rfl, h⟩ dX10_ends_43
def wX10_byCache_7 (X : Xt) (Pr : Int32 → Gt → Prop) (k7 : Gt → Nat → Int32 → Int32 → Int32 → Prop) (G : Gt) (a0 : Nat) (x1 : Int32) (x2 : Int32) (x3 : Int32) : Prop := gT G a0 = (1, 11) ∧ ∃ b1, gR G 352 a0 = some b1 ∧ (gT G b1).1 = 2 ∧ vp_in (x2 + 3) (gT G b1).2 ∧ ((gA G b1 (x2 + 3).toNatClampNeg) ≤ x3 → gT G a0 = (1, 11) ∧ wX10_ends X G a0 x1 1 0 (fun G22 => gT G22 a0 = (1, 11) ∧ ∃ b23, gR G22 352 a0 = some b23 ∧ (gT G22 b23).1 = 2 ∧ vp_in (x2 + 8) (gT G22 b23).2 ∧ ∀ G24, G24 = sA G22 b23 (upd (gA G22 b23) (x2 + 8).toNatClampNeg 1) → gT G24 a0 = (1, 11) ∧ ∃ b25, gR G24 352 a0 = some b25 ∧ (gT G24 b25).1 = 2 ∧ vp_in 14 (gT G24 b25).2 ∧ (gT G24 b25).1 = 2 ∧ vp_in 14 (gT G24 b25).2 ∧ ∀ G26, G26 = sA G24 b25 (upd (gA G24 b25) (14 : Int32).toNatClampNeg ((gA G24 b25 (14 : Int32).toNatClampNeg) + 1)) → Pr 1 G26)) ∧ (¬ ((gA G b1 (x2 + 3).toNatClampNeg) ≤ x3) → gT G a0 = (1, 11) ∧ ∃ b42, gR G 352 a0 = some b42 ∧ gT G a0 = (1, 11) ∧ ∃ b43, gR G 352 a0 = some b43 ∧ gT G a0 = (1, 11) ∧ ∃ b44, gR G 352 a0 = some b44 ∧ (gT G b44).1 = 2 ∧ vp_in (x2 + 1) (gT G b44).2 ∧ gT G a0 = (1, 11) ∧ ∃ b45, gR G 352 a0 = some b45 ∧ (gT G b45).1 = 2 ∧ vp_in (x2 + 2) (gT G b45).2 ∧ wX10_cacheAt X G (gA G b44 (x2 + 1).toNatClampNeg) ((gA G b45 (x2 + 2).toNatClampNeg) + x3) (fun r46 G47 => (gT G47 b43).1 = 2 ∧ vp_in (r46 + 1) (gT G47 b43).2 ∧ (gT G47 b42).1 = 2 ∧ vp_in ((760 + (16 * x1)) + x3) (gT G47 b42).2 ∧ ∀ G48, G48 = sA G47 b42 (upd (gA G47 b42) ((760 + (16 * x1)) + x3).toNatClampNeg (gA G47 b43 (r46 + 1).toNatClampNeg)) → k7 G48 a0 x1 x2 (x3 + 1)))
set_option maxRecDepth 20000 in
theorem bX10_byCache_7 {X : Xt} {K : Kt} {l : Launch} {G0 : Gt} {Pr : Int32 → Gt → Prop} (B : BX X K l cX10_byCache 4 RX10 2 43 G0 (some (.int)) "byCache") {k7 : Gt → Nat → Int32 → Int32 → Int32 → Prop} (hk7 : ∀ (G : Gt) (a0 : Nat) (x1 : Int32) (x2 : Int32) (x3 : Int32), k7 G a0 x1 x2 x3 → WM X K (QM X K G0 (rI Pr) noX) G 7 [some (.ref a0), some (.int x1), some (.int x2), some (.int x3)] []) {G : Gt} {a0 : Nat} {x1 : Int32} {x2 : Int32} {x3 : Int32} (h : wX10_byCache_7 X Pr k7 G a0 x1 x2 x3) : WM X K (QM X K G0 (rI Pr) noX) G 7 [some (.ref a0), some (.int x1), some (.int x2), some (.int x3)] [] := by
  obtain ⟨hL, C, E0, hr, hnm, hex, hfl⟩ := id B
  unfold wX10_byCache_7 at h
  refine r_iload_n C 3 dX10_byCache_7 rfl rfl ?_
  refine r_aloadR_n C 0 dX10_byCache_8 rfl rfl ?_
  obtain ⟨ht, h⟩ := h
  obtain ⟨b1, hb, h⟩ := h
  refine r_getR C fw_RX10_7 rfl ht hb dX10_byCache_9 ?_
  refine r_iload_n C 2 dX10_byCache_12 rfl rfl ?_
  refine r_iconst C 3 dX10_byCache_13 (by decide) ?_
  refine r_iadd C dX10_byCache_14 ?_
  obtain ⟨ht, hi, h⟩ := h
  refine r_ialdP C ht hi dX10_byCache_15 ?_
  refine r_icmp_ge C 68 dX10_byCache_16 (by decide) (fun c => ?_) (fun c => ?_)
  · replace h := h.1 c
    refine r_aloadR_n C 0 dX10_byCache_68 rfl rfl ?_
    refine r_iload_n C 1 dX10_byCache_69 rfl rfl ?_
    refine r_iconst C 1 dX10_byCache_70 (by decide) ?_
    refine r_iconst C 0 dX10_byCache_71 (by decide) ?_
    obtain ⟨ht, h⟩ := h
    refine r_callV C (r := (RX10, TX10, 19)) hL yw_X10_ends vw_RX10_166 rfl rfl ht rfl rfl (Nat.le_of_ble_eq_true rfl) ⟨(Nat.le_of_ble_eq_true rfl), (Nat.le_of_ble_eq_true rfl)⟩ (mX10_ends hfl h) rfl dX10_byCache_72 (kV' (fun G22 h => ?_)) kN
    refine r_aloadR_n C 0 dX10_byCache_75 rfl rfl ?_
    obtain ⟨ht, h⟩ := h
    obtain ⟨b23, hb, h⟩ := h
    refine r_getR C fw_RX10_7 rfl ht hb dX10_byCache_76 ?_
    refine r_iload_n C 2 dX10_byCache_79 rfl rfl ?_
    refine r_bipush C 8 dX10_byCache_80 (by decide) ?_
    refine r_iadd C dX10_byCache_82 ?_
    refine r_iconst C 1 dX10_byCache_83 (by decide) ?_
    obtain ⟨ht, hi, h⟩ := h
    refine r_iastP C ht hi dX10_byCache_84 ?_
    refine r_nm (fun G24 hG24 => ?_)
    replace h := h G24 hG24
    refine r_aloadR_n C 0 dX10_byCache_85 rfl rfl ?_
    obtain ⟨ht, h⟩ := h
    obtain ⟨b25, hb, h⟩ := h
    refine r_getR C fw_RX10_7 rfl ht hb dX10_byCache_86 ?_
    refine r_bipush C 14 dX10_byCache_89 (by decide) ?_
    refine r_dup2 C dX10_byCache_91 rfl rfl ?_
    obtain ⟨ht, hi, h⟩ := h
    refine r_ialdP C ht hi dX10_byCache_92 ?_
    refine r_iconst C 1 dX10_byCache_93 (by decide) ?_
    refine r_iadd C dX10_byCache_94 ?_
    obtain ⟨ht, hi, h⟩ := h
    refine r_iastP C ht hi dX10_byCache_95 ?_
    refine r_nm (fun G26 hG26 => ?_)
    replace h := h G26 hG26
    refine r_iconst C 1 dX10_byCache_96 (by decide) ?_
    exact r_iret C E0 hr ⟨_, rfl, h⟩ dX10_byCache_97
  · replace h := h.2 c
    refine r_aloadR_n C 0 dX10_byCache_19 rfl rfl ?_
    obtain ⟨ht, h⟩ := h
    obtain ⟨b42, hb, h⟩ := h
    refine r_getR C fw_RX10_7 rfl ht hb dX10_byCache_20 ?_
    refine r_sipush C 760 dX10_byCache_23 (by decide) ?_
    refine r_bipush C 16 dX10_byCache_26 (by decide) ?_
    refine r_iload_n C 1 dX10_byCache_28 rfl rfl ?_
    refine r_imul C dX10_byCache_29 ?_
    refine r_iadd C dX10_byCache_30 ?_
    refine r_iload_n C 3 dX10_byCache_31 rfl rfl ?_
    refine r_iadd C dX10_byCache_32 ?_
    refine r_aloadR_n C 0 dX10_byCache_33 rfl rfl ?_
    obtain ⟨ht, h⟩ := h
    obtain ⟨b43, hb, h⟩ := h
    refine r_getR C fw_RX10_7 rfl ht hb dX10_byCache_34 ?_
    refine r_aloadR_n C 0 dX10_byCache_37 rfl rfl ?_
    obtain ⟨ht, h⟩ := h
    obtain ⟨b44, hb, h⟩ := h
    refine r_getR C fw_RX10_7 rfl ht hb dX10_byCache_38 ?_
    refine r_iload_n C 2 dX10_byCache_41 rfl rfl ?_
    refine r_iconst C 1 dX10_byCache_42 (by decide) ?_
    refine r_iadd C dX10_byCache_43 ?_
    obtain ⟨ht, hi, h⟩ := h
    refine r_ialdP C ht hi dX10_byCache_44 ?_
    refine r_aloadR_n C 0 dX10_byCache_45 rfl rfl ?_
    obtain ⟨ht, h⟩ := h
    obtain ⟨b45, hb, h⟩ := h
    refine r_getR C fw_RX10_7 rfl ht hb dX10_byCache_46 ?_
    refine r_iload_n C 2 dX10_byCache_49 rfl rfl ?_
    refine r_iconst C 2 dX10_byCache_50 (by decide) ?_
    refine r_iadd C dX10_byCache_51 ?_
    obtain ⟨ht, hi, h⟩ := h
    refine r_ialdP C ht hi dX10_byCache_52 ?_
    refine r_iload_n C 3 dX10_byCache_53 rfl rfl ?_
    refine r_iadd C dX10_byCache_54 ?_
    refine r_callS C hL yw_X10_cacheAt sw_RX10_79 rfl rfl (Nat.le_of_ble_eq_true rfl) ⟨(Nat.le_of_ble_eq_true rfl), (Nat.le_of_ble_eq_true rfl)⟩ (mX10_cacheAt hfl h) rfl dX10_byCache_55 (kI (fun r46 G47 h => ?_)) kN
    refine r_iconst C 1 dX10_byCache_58 (by decide) ?_
    refine r_iadd C dX10_byCache_59 ?_
    obtain ⟨ht, hi, h⟩ := h
    refine r_ialdP C ht hi dX10_byCache_60 ?_
    obtain ⟨ht, hi, h⟩ := h
    refine r_iastP C ht hi dX10_byCache_61 ?_
    refine r_nm (fun G48 hG48 => ?_)
    replace h := h G48 hG48
    refine r_iinc C 1 (lv' := [some (.ref a0), some (.int x1), some (.int x2), some (.int (x3 + 1))]) dX10_byCache_62 rfl (by decide) rfl rfl ?_
    refine r_goto C 7 dX10_byCache_65 (by decide) ?_
    exact hk7 _ _ _ _ _ h
theorem lX10_byCache_7 {X : Xt} {K : Kt} {l : Launch} {G0 : Gt} {Pr : Int32 → Gt → Prop} (B : BX X K l cX10_byCache 4 RX10 2 43 G0 (some (.int)) "byCache") (I : Gt → Nat → Int32 → Int32 → Int32 → Prop) (μ : Gt → Nat → Int32 → Int32 → Int32 → Nat) (hS : ∀ (G : Gt) (a0 : Nat) (x1 : Int32) (x2 : Int32) (x3 : Int32), I G a0 x1 x2 x3 → wX10_byCache_7 X Pr (fun G' a0' x1' x2' x3' => I G' a0' x1' x2' x3' ∧ μ G' a0' x1' x2' x3' < μ G a0 x1 x2 x3) G a0 x1 x2 x3) : ∀ (n : Nat) (G : Gt) (a0 : Nat) (x1 : Int32) (x2 : Int32) (x3 : Int32), μ G a0 x1 x2 x3 < n → I G a0 x1 x2 x3 → WM X K (QM X K G0 (rI Pr) noX) G 7 [some (.ref a0), some (.int x1), some (.int x2), some (.int x3)] [] := by
  intro n
  induction n with
  | zero => intro G a0 x1 x2 x3 hm; exact absurd hm (Nat.not_lt_zero _)
  | succ n ih =>
    intro G a0 x1 x2 x3 hm hi
    exact bX10_byCache_7 B (fun G' a0' x1' x2' x3' hk => ih G' a0' x1' x2' x3' (Nat.lt_of_lt_of_le hk.2 (Nat.le_of_lt_succ hm)) hk.1) (hS G a0 x1 x2 x3 hi)
def wX10_byCache (X : Xt) (G : Gt) (a0 : Nat) (x1 : Int32) (Pr : Int32 → Gt → Prop) : Prop := wX10_requestAt X G x1 (fun r1 G2 => ∃ (I : Gt → Nat → Int32 → Int32 → Int32 → Prop) (μ : Gt → Nat → Int32 → Int32 → Int32 → Nat), I G2 a0 x1 r1 (0 : Int32) ∧ ∀ (G : Gt) (a0 : Nat) (x1 : Int32) (x2 : Int32) (x3 : Int32), I G a0 x1 x2 x3 → wX10_byCache_7 X Pr (fun G' a0' x1' x2' x3' => I G' a0' x1' x2' x3' ∧ μ G' a0' x1' x2' x3' < μ G a0 x1 x2 x3) G a0 x1 x2 x3)
set_option maxRecDepth 20000 in
theorem mX10_byCache {X : Xt} {l : Launch} (hfl : l.stackTraces = false) {G : Gt} {a0 : Nat} {x1 : Int32} {Pr : Int32 → Gt → Prop} (h : wX10_byCache X G a0 x1 Pr) : Mc X l yX10_byCache (.code yX10_byCache cX10_byCache 4 (some (.int))) 2 43 [.ref a0, .int x1] G (rI Pr) noX := by
  refine Mc.of (by decide +kernel) hfl [some (.ref a0), some (.int x1), none, none] rfl (Nat.le_of_ble_eq_true rfl) rfl ?_
  intro K hL C E0 hr hnm hex
  have B : BX X K l cX10_byCache 4 RX10 2 43 G (some (.int)) "byCache" := ⟨hL, C, E0, hr, hnm, hex, hfl⟩
  have C : Cx X K cX10_byCache 4 RX10 2 43 := C
  unfold wX10_byCache at h
  refine r_iload_n C 1 dX10_byCache_0 rfl rfl ?_
  refine r_callS C hL yw_X10_requestAt sw_RX10_61 rfl rfl (Nat.le_of_ble_eq_true rfl) ⟨(Nat.le_of_ble_eq_true rfl), (Nat.le_of_ble_eq_true rfl)⟩ (mX10_requestAt hfl h) rfl dX10_byCache_1 (kI (fun r1 G2 h => ?_)) kN
  refine r_istore_n C 2 (lv' := [some (.ref a0), some (.int x1), some (.int r1), none]) dX10_byCache_4 rfl (Nat.le_of_ble_eq_true rfl) rfl rfl ?_
  refine r_iconst C 0 dX10_byCache_5 (by decide) ?_
  refine r_istore_n C 3 (lv' := [some (.ref a0), some (.int x1), some (.int r1), some (.int 0)]) dX10_byCache_6 rfl (Nat.le_of_ble_eq_true rfl) rfl rfl ?_
  obtain ⟨I, μ, hI, hS⟩ := h
  exact lX10_byCache_7 B I μ hS _ _ _ _ _ _ (Nat.lt_succ_self _) hI
def wX10_word (X : Xt) (G : Gt) (a0 : Nat) (x1 : Int32) (Pr : Int32 → Gt → Prop) : Prop := gT G a0 = (1, 11) ∧ ∃ b1, gR G 364 a0 = some b1 ∧ (gT G b1).1 = 2 ∧ vp_in (6 + (2 * x1)) (gT G b1).2 ∧ gT G a0 = (1, 11) ∧ ∃ b2, gR G 364 a0 = some b2 ∧ (gT G b2).1 = 2 ∧ vp_in (7 + (2 * x1)) (gT G b2).2 ∧ Pr ((256 * (gA G b1 (6 + (2 * x1)).toNatClampNeg)) + (gA G b2 (7 + (2 * x1)).toNatClampNeg)) G
set_option maxRecDepth 20000 in
theorem mX10_word {X : Xt} {l : Launch} (hfl : l.stackTraces = false) {G : Gt} {a0 : Nat} {x1 : Int32} {Pr : Int32 → Gt → Prop} (h : wX10_word X G a0 x1 Pr) : Mc X l yX10_word (.code yX10_word cX10_word 2 (some (.int))) 0 0 [.ref a0, .int x1] G (rI Pr) noX := by
  refine Mc.of (by decide +kernel) hfl [some (.ref a0), some (.int x1)] rfl (Nat.le_of_ble_eq_true rfl) rfl ?_
  intro K hL C E0 hr hnm hex
  have B : BX X K l cX10_word 2 RX10 0 0 G (some (.int)) "word" := ⟨hL, C, E0, hr, hnm, hex, hfl⟩
  have C : Cx X K cX10_word 2 RX10 0 0 := C
  unfold wX10_word at h
  refine r_sipush C 256 dX10_word_0 (by decide) ?_
  refine r_aloadR_n C 0 dX10_word_3 rfl rfl ?_
  obtain ⟨ht, h⟩ := h
  obtain ⟨b1, hb, h⟩ := h
  refine r_getR C fw_RX10_22 rfl ht hb dX10_word_4 ?_
  refine r_bipush C 6 dX10_word_7 (by decide) ?_
  refine r_iconst C 2 dX10_word_9 (by decide) ?_
  refine r_iload_n C 1 dX10_word_10 rfl rfl ?_
  refine r_imul C dX10_word_11 ?_
  refine r_iadd C dX10_word_12 ?_
  obtain ⟨ht, hi, h⟩ := h
  refine r_ialdP C ht hi dX10_word_13 ?_
  refine r_imul C dX10_word_14 ?_
  refine r_aloadR_n C 0 dX10_word_15 rfl rfl ?_
  obtain ⟨ht, h⟩ := h
  obtain ⟨b2, hb, h⟩ := h
  refine r_getR C fw_RX10_22 rfl ht hb dX10_word_16 ?_
  refine r_bipush C 7 dX10_word_19 (by decide) ?_
  refine r_iconst C 2 dX10_word_21 (by decide) ?_
  refine r_iload_n C 1 dX10_word_22 rfl rfl ?_
  refine r_imul C dX10_word_23 ?_
  refine r_iadd C dX10_word_24 ?_
  obtain ⟨ht, hi, h⟩ := h
  refine r_ialdP C ht hi dX10_word_25 ?_
  refine r_iadd C dX10_word_26 ?_
  exact r_iret C E0 hr ⟨_, rfl, h⟩ dX10_word_27
def wX10_settles_166 (X : Xt) (Pr : Int32 → Gt → Prop) (k66 : Gt → Nat → Int32 → Int32 → Int32 → Prop) (k106 : Gt → Nat → Int32 → Int32 → Int32 → Int32 → Int32 → Prop) (G : Gt) (a0 : Nat) (x1 : Int32) (x2 : Int32) (x3 : Int32) (x4 : Int32) (x5 : Int32) (sa0 : Nat) (sx1 : Int32) (sx2 : Int32) : Prop := (gT G sa0).1 = 2 ∧ vp_in sx1 (gT G sa0).2 ∧ ∀ G1, G1 = sA G sa0 (upd (gA G sa0) sx1.toNatClampNeg sx2) → (x1 ≤ 0 → k106 G1 a0 x1 x2 x3 x4 (x5 + 1)) ∧ (¬ (x1 ≤ 0) → gT G1 a0 = (1, 11) ∧ ((gI G1 359 a0) = 0 → k106 G1 a0 x1 x2 x3 x4 (x5 + 1)) ∧ (¬ ((gI G1 359 a0) = 0) → (32 ≤ x4 → k106 G1 a0 x1 x2 x3 x4 (x5 + 1)) ∧ (¬ (32 ≤ x4) → gT G1 a0 = (1, 11) ∧ ∃ b122, gR G1 352 a0 = some b122 ∧ gT G1 a0 = (1, 11) ∧ wX10_cacheAt X G1 (gI G1 360 a0) x4 (fun r123 G124 => (gT G124 b122).1 = 2 ∧ vp_in r123 (gT G124 b122).2 ∧ ∀ G125, G125 = sA G124 b122 (upd (gA G124 b122) r123.toNatClampNeg 0) → k106 G125 a0 x1 x2 x3 x4 (x5 + 1)))))
set_option maxRecDepth 20000 in
theorem bX10_settles_166 {X : Xt} {K : Kt} {l : Launch} {G0 : Gt} {Pr : Int32 → Gt → Prop} (B : BX X K l cX10_settles 6 RX10 3 64 G0 (some (.int)) "settles") {k66 : Gt → Nat → Int32 → Int32 → Int32 → Prop} {k106 : Gt → Nat → Int32 → Int32 → Int32 → Int32 → Int32 → Prop} (hk66 : ∀ (G : Gt) (a0 : Nat) (x1 : Int32) (x2 : Int32) (x3 : Int32), k66 G a0 x1 x2 x3 → WM X K (QM X K G0 (rI Pr) noX) G 66 [some (.ref a0), some (.int x1), some (.int x2), some (.int x3), none, none] []) (hk106 : ∀ (G : Gt) (a0 : Nat) (x1 : Int32) (x2 : Int32) (x3 : Int32) (x4 : Int32) (x5 : Int32), k106 G a0 x1 x2 x3 x4 x5 → WM X K (QM X K G0 (rI Pr) noX) G 106 [some (.ref a0), some (.int x1), some (.int x2), some (.int x3), some (.int x4), some (.int x5)] []) {G : Gt} {a0 : Nat} {x1 : Int32} {x2 : Int32} {x3 : Int32} {x4 : Int32} {x5 : Int32} {sa0 : Nat} {sx1 : Int32} {sx2 : Int32} (h : wX10_settles_166 X Pr k66 k106 G a0 x1 x2 x3 x4 x5 sa0 sx1 sx2) : WM X K (QM X K G0 (rI Pr) noX) G 166 [some (.ref a0), some (.int x1), some (.int x2), some (.int x3), some (.int x4), some (.int x5)] [.int sx2, .int sx1, .ref sa0] := by
  obtain ⟨hL, C, E0, hr, hnm, hex, hfl⟩ := id B
  unfold wX10_settles_166 at h
  obtain ⟨ht, hi, h⟩ := h
  refine r_iastP C ht hi dX10_settles_166 ?_
  refine r_nm (fun G1 hG1 => ?_)
  replace h := h G1 hG1
  refine r_iload_n C 1 dX10_settles_167 rfl rfl ?_
  refine r_if_le C 200 dX10_settles_168 (by decide) (fun c => ?_) (fun c => ?_)
  · replace h := h.1 c
    refine r_iinc C 1 (lv' := [some (.ref a0), some (.int x1), some (.int x2), some (.int x3), some (.int x4), some (.int (x5 + 1))]) dX10_settles_200 rfl (by decide) rfl rfl ?_
    refine r_goto C 106 dX10_settles_203 (by decide) ?_
    exact hk106 _ _ _ _ _ _ _ h
  · replace h := h.2 c
    refine r_aloadR_n C 0 dX10_settles_171 rfl rfl ?_
    obtain ⟨ht, h⟩ := h
    refine r_getI C fw_RX10_101 rfl ht dX10_settles_172 ?_
    refine r_if_eq C 200 dX10_settles_175 (by decide) (fun c => ?_) (fun c => ?_)
    · replace h := h.1 c
      refine r_iinc C 1 (lv' := [some (.ref a0), some (.int x1), some (.int x2), some (.int x3), some (.int x4), some (.int (x5 + 1))]) dX10_settles_200 rfl (by decide) rfl rfl ?_
      refine r_goto C 106 dX10_settles_203 (by decide) ?_
      exact hk106 _ _ _ _ _ _ _ h
    · replace h := h.2 c
      refine r_iload C dX10_settles_178 rfl ?_
      refine r_bipush C 32 dX10_settles_180 (by decide) ?_
      refine r_icmp_ge C 200 dX10_settles_182 (by decide) (fun c => ?_) (fun c => ?_)
      · replace h := h.1 c
        refine r_iinc C 1 (lv' := [some (.ref a0), some (.int x1), some (.int x2), some (.int x3), some (.int x4), some (.int (x5 + 1))]) dX10_settles_200 rfl (by decide) rfl rfl ?_
        refine r_goto C 106 dX10_settles_203 (by decide) ?_
        exact hk106 _ _ _ _ _ _ _ h
      · replace h := h.2 c
        refine r_aloadR_n C 0 dX10_settles_185 rfl rfl ?_
        obtain ⟨ht, h⟩ := h
        obtain ⟨b122, hb, h⟩ := h
        refine r_getR C fw_RX10_7 rfl ht hb dX10_settles_186 ?_
        refine r_aloadR_n C 0 dX10_settles_189 rfl rfl ?_
        obtain ⟨ht, h⟩ := h
        refine r_getI C fw_RX10_91 rfl ht dX10_settles_190 ?_
        refine r_iload C dX10_settles_193 rfl ?_
        refine r_callS C hL yw_X10_cacheAt sw_RX10_79 rfl rfl (Nat.le_of_ble_eq_true rfl) ⟨(Nat.le_of_ble_eq_true rfl), (Nat.le_of_ble_eq_true rfl)⟩ (mX10_cacheAt hfl h) rfl dX10_settles_195 (kI (fun r123 G124 h => ?_)) kN
        refine r_iconst C 0 dX10_settles_198 (by decide) ?_
        obtain ⟨ht, hi, h⟩ := h
        refine r_iastP C ht hi dX10_settles_199 ?_
        refine r_nm (fun G125 hG125 => ?_)
        replace h := h G125 hG125
        refine r_iinc C 1 (lv' := [some (.ref a0), some (.int x1), some (.int x2), some (.int x3), some (.int x4), some (.int (x5 + 1))]) dX10_settles_200 rfl (by decide) rfl rfl ?_
        refine r_goto C 106 dX10_settles_203 (by decide) ?_
        exact hk106 _ _ _ _ _ _ _ h
def wX10_settles_106 (X : Xt) (Pr : Int32 → Gt → Prop) (k66 : Gt → Nat → Int32 → Int32 → Int32 → Prop) (k106 : Gt → Nat → Int32 → Int32 → Int32 → Int32 → Int32 → Prop) (G : Gt) (a0 : Nat) (x1 : Int32) (x2 : Int32) (x3 : Int32) (x4 : Int32) (x5 : Int32) : Prop := gT G a0 = (1, 11) ∧ ∃ b1, gR G 352 a0 = some b1 ∧ wX10_requestAt X G x3 (fun r2 G3 => (gT G3 b1).1 = 2 ∧ vp_in (r2 + 3) (gT G3 b1).2 ∧ ((gA G3 b1 (r2 + 3).toNatClampNeg) ≤ x5 → (¬ x1 = 0 → gT G3 a0 = (1, 11) ∧ wX10_ends X G3 a0 x3 2 x1 (fun G44 => k66 G44 a0 x1 (x2 + 1) (x3 + 1))) ∧ (x1 = 0 → gT G3 a0 = (1, 11) ∧ wX10_ends X G3 a0 x3 1 x1 (fun G64 => k66 G64 a0 x1 (x2 + 1) (x3 + 1)))) ∧ (¬ ((gA G3 b1 (r2 + 3).toNatClampNeg) ≤ x5) → gT G3 a0 = (1, 11) ∧ ∃ b44, gR G3 352 a0 = some b44 ∧ (¬ x1 = 0 → wX10_settles_166 X Pr k66 k106 G3 a0 x1 x2 x3 x4 x5 b44 ((760 + (16 * x3)) + x5) (0 : Int32)) ∧ (x1 = 0 → gT G3 a0 = (1, 11) ∧ (¬ (gI G3 359 a0) = 0 → wX10_settles_166 X Pr k66 k106 G3 a0 x1 x2 x3 x4 x5 b44 ((760 + (16 * x3)) + x5) (0 : Int32)) ∧ ((gI G3 359 a0) = 0 → gT G3 a0 = (1, 11) ∧ gT G3 a0 = (1, 11) ∧ wX10_word X G3 a0 ((x4 - (gI G3 357 a0)) + x5) (fun r125 G126 => wX10_settles_166 X Pr k66 k106 G126 a0 x1 x2 x3 x4 x5 b44 ((760 + (16 * x3)) + x5) r125)))))
set_option maxRecDepth 20000 in
theorem bX10_settles_106 {X : Xt} {K : Kt} {l : Launch} {G0 : Gt} {Pr : Int32 → Gt → Prop} (B : BX X K l cX10_settles 6 RX10 3 64 G0 (some (.int)) "settles") {k66 : Gt → Nat → Int32 → Int32 → Int32 → Prop} {k106 : Gt → Nat → Int32 → Int32 → Int32 → Int32 → Int32 → Prop} (hk66 : ∀ (G : Gt) (a0 : Nat) (x1 : Int32) (x2 : Int32) (x3 : Int32), k66 G a0 x1 x2 x3 → WM X K (QM X K G0 (rI Pr) noX) G 66 [some (.ref a0), some (.int x1), some (.int x2), some (.int x3), none, none] []) (hk106 : ∀ (G : Gt) (a0 : Nat) (x1 : Int32) (x2 : Int32) (x3 : Int32) (x4 : Int32) (x5 : Int32), k106 G a0 x1 x2 x3 x4 x5 → WM X K (QM X K G0 (rI Pr) noX) G 106 [some (.ref a0), some (.int x1), some (.int x2), some (.int x3), some (.int x4), some (.int x5)] []) {G : Gt} {a0 : Nat} {x1 : Int32} {x2 : Int32} {x3 : Int32} {x4 : Int32} {x5 : Int32} (h : wX10_settles_106 X Pr k66 k106 G a0 x1 x2 x3 x4 x5) : WM X K (QM X K G0 (rI Pr) noX) G 106 [some (.ref a0), some (.int x1), some (.int x2), some (.int x3), some (.int x4), some (.int x5)] [] := by
  obtain ⟨hL, C, E0, hr, hnm, hex, hfl⟩ := id B
  unfold wX10_settles_106 at h
  refine r_iload C dX10_settles_106 rfl ?_
  refine r_aloadR_n C 0 dX10_settles_108 rfl rfl ?_
  obtain ⟨ht, h⟩ := h
  obtain ⟨b1, hb, h⟩ := h
  refine r_getR C fw_RX10_7 rfl ht hb dX10_settles_109 ?_
  refine r_iload_n C 3 dX10_settles_112 rfl rfl ?_
  refine r_callS C hL yw_X10_requestAt sw_RX10_61 rfl rfl (Nat.le_of_ble_eq_true rfl) ⟨(Nat.le_of_ble_eq_true rfl), (Nat.le_of_ble_eq_true rfl)⟩ (mX10_requestAt hfl h) rfl dX10_settles_113 (kI (fun r2 G3 h => ?_)) kN
  refine r_iconst C 3 dX10_settles_116 (by decide) ?_
  refine r_iadd C dX10_settles_117 ?_
  obtain ⟨ht, hi, h⟩ := h
  refine r_ialdP C ht hi dX10_settles_118 ?_
  refine r_icmp_ge C 206 dX10_settles_119 (by decide) (fun c => ?_) (fun c => ?_)
  · replace h := h.1 c
    refine r_aloadR_n C 0 dX10_settles_206 rfl rfl ?_
    refine r_iload_n C 3 dX10_settles_207 rfl rfl ?_
    refine r_iload_n C 1 dX10_settles_208 rfl rfl ?_
    refine r_if_ne C 216 dX10_settles_209 (by decide) (fun c => ?_) (fun c => ?_)
    · replace h := h.1 c
      refine r_iconst C 2 dX10_settles_216 (by decide) ?_
      refine r_iload_n C 1 dX10_settles_217 rfl rfl ?_
      obtain ⟨ht, h⟩ := h
      refine r_callV C (r := (RX10, TX10, 19)) hL yw_X10_ends vw_RX10_166 rfl rfl ht rfl rfl (Nat.le_of_ble_eq_true rfl) ⟨(Nat.le_of_ble_eq_true rfl), (Nat.le_of_ble_eq_true rfl)⟩ (mX10_ends hfl h) rfl dX10_settles_218 (kV' (fun G44 h => ?_)) kN
      refine r_iinc C 1 (lv' := [some (.ref a0), some (.int x1), some (.int (x2 + 1)), some (.int x3), some (.int x4), some (.int x5)]) dX10_settles_221 rfl (by decide) rfl rfl ?_
      refine r_iinc C 1 (lv' := [some (.ref a0), some (.int x1), some (.int (x2 + 1)), some (.int (x3 + 1)), some (.int x4), some (.int x5)]) dX10_settles_224 rfl (by decide) rfl rfl ?_
      refine r_goto C 66 dX10_settles_227 (by decide) ?_
      refine r_fg (lv' := [some (.ref a0), some (.int x1), some (.int (x2 + 1)), some (.int (x3 + 1)), none, none]) (show fgt _ _ from ⟨rfl, ⟨rfl, ⟨rfl, ⟨rfl, trivial⟩⟩⟩⟩) ?_
      exact hk66 _ _ _ _ _ h
    · replace h := h.2 c
      refine r_iconst C 1 dX10_settles_212 (by decide) ?_
      refine r_goto C 217 dX10_settles_213 (by decide) ?_
      refine r_iload_n C 1 dX10_settles_217 rfl rfl ?_
      obtain ⟨ht, h⟩ := h
      refine r_callV C (r := (RX10, TX10, 19)) hL yw_X10_ends vw_RX10_166 rfl rfl ht rfl rfl (Nat.le_of_ble_eq_true rfl) ⟨(Nat.le_of_ble_eq_true rfl), (Nat.le_of_ble_eq_true rfl)⟩ (mX10_ends hfl h) rfl dX10_settles_218 (kV' (fun G64 h => ?_)) kN
      refine r_iinc C 1 (lv' := [some (.ref a0), some (.int x1), some (.int (x2 + 1)), some (.int x3), some (.int x4), some (.int x5)]) dX10_settles_221 rfl (by decide) rfl rfl ?_
      refine r_iinc C 1 (lv' := [some (.ref a0), some (.int x1), some (.int (x2 + 1)), some (.int (x3 + 1)), some (.int x4), some (.int x5)]) dX10_settles_224 rfl (by decide) rfl rfl ?_
      refine r_goto C 66 dX10_settles_227 (by decide) ?_
      refine r_fg (lv' := [some (.ref a0), some (.int x1), some (.int (x2 + 1)), some (.int (x3 + 1)), none, none]) (show fgt _ _ from ⟨rfl, ⟨rfl, ⟨rfl, ⟨rfl, trivial⟩⟩⟩⟩) ?_
      exact hk66 _ _ _ _ _ h
  · replace h := h.2 c
    refine r_aloadR_n C 0 dX10_settles_122 rfl rfl ?_
    obtain ⟨ht, h⟩ := h
    obtain ⟨b44, hb, h⟩ := h
    refine r_getR C fw_RX10_7 rfl ht hb dX10_settles_123 ?_
    refine r_sipush C 760 dX10_settles_126 (by decide) ?_
    refine r_bipush C 16 dX10_settles_129 (by decide) ?_
    refine r_iload_n C 3 dX10_settles_131 rfl rfl ?_
    refine r_imul C dX10_settles_132 ?_
    refine r_iadd C dX10_settles_133 ?_
    refine r_iload C dX10_settles_134 rfl ?_
    refine r_iadd C dX10_settles_136 ?_
    refine r_iload_n C 1 dX10_settles_137 rfl rfl ?_
    refine r_if_ne C 165 dX10_settles_138 (by decide) (fun c => ?_) (fun c => ?_)
    · replace h := h.1 c
      refine r_iconst C 0 dX10_settles_165 (by decide) ?_
      exact bX10_settles_166 B hk66 hk106 h
    · replace h := h.2 c
      refine r_aloadR_n C 0 dX10_settles_141 rfl rfl ?_
      obtain ⟨ht, h⟩ := h
      refine r_getI C fw_RX10_101 rfl ht dX10_settles_142 ?_
      refine r_if_ne C 165 dX10_settles_145 (by decide) (fun c => ?_) (fun c => ?_)
      · replace h := h.1 c
        refine r_iconst C 0 dX10_settles_165 (by decide) ?_
        exact bX10_settles_166 B hk66 hk106 h
      · replace h := h.2 c
        refine r_aloadR_n C 0 dX10_settles_148 rfl rfl ?_
        refine r_iload C dX10_settles_149 rfl ?_
        refine r_aloadR_n C 0 dX10_settles_151 rfl rfl ?_
        obtain ⟨ht, h⟩ := h
        refine r_getI C fw_RX10_108 rfl ht dX10_settles_152 ?_
        refine r_isub C dX10_settles_155 ?_
        refine r_iload C dX10_settles_156 rfl ?_
        refine r_iadd C dX10_settles_158 ?_
        obtain ⟨ht, h⟩ := h
        refine r_callV C (r := (RX10, TX10, 19)) hL yw_X10_word vw_RX10_170 rfl rfl ht rfl rfl (Nat.le_of_ble_eq_true rfl) ⟨(Nat.le_of_ble_eq_true rfl), (Nat.le_of_ble_eq_true rfl)⟩ (mX10_word hfl h) rfl dX10_settles_159 (kI (fun r125 G126 h => ?_)) kN
        refine r_goto C 166 dX10_settles_162 (by decide) ?_
        exact bX10_settles_166 B hk66 hk106 h
theorem lX10_settles_106 {X : Xt} {K : Kt} {l : Launch} {G0 : Gt} {Pr : Int32 → Gt → Prop} (B : BX X K l cX10_settles 6 RX10 3 64 G0 (some (.int)) "settles") {k66 : Gt → Nat → Int32 → Int32 → Int32 → Prop} (hk66 : ∀ (G : Gt) (a0 : Nat) (x1 : Int32) (x2 : Int32) (x3 : Int32), k66 G a0 x1 x2 x3 → WM X K (QM X K G0 (rI Pr) noX) G 66 [some (.ref a0), some (.int x1), some (.int x2), some (.int x3), none, none] []) (I : Gt → Nat → Int32 → Int32 → Int32 → Int32 → Int32 → Prop) (μ : Gt → Nat → Int32 → Int32 → Int32 → Int32 → Int32 → Nat) (hS : ∀ (G : Gt) (a0 : Nat) (x1 : Int32) (x2 : Int32) (x3 : Int32) (x4 : Int32) (x5 : Int32), I G a0 x1 x2 x3 x4 x5 → wX10_settles_106 X Pr k66 (fun G' a0' x1' x2' x3' x4' x5' => I G' a0' x1' x2' x3' x4' x5' ∧ μ G' a0' x1' x2' x3' x4' x5' < μ G a0 x1 x2 x3 x4 x5) G a0 x1 x2 x3 x4 x5) : ∀ (n : Nat) (G : Gt) (a0 : Nat) (x1 : Int32) (x2 : Int32) (x3 : Int32) (x4 : Int32) (x5 : Int32), μ G a0 x1 x2 x3 x4 x5 < n → I G a0 x1 x2 x3 x4 x5 → WM X K (QM X K G0 (rI Pr) noX) G 106 [some (.ref a0), some (.int x1), some (.int x2), some (.int x3), some (.int x4), some (.int x5)] [] := by
  intro n
  induction n with
  | zero => intro G a0 x1 x2 x3 x4 x5 hm; exact absurd hm (Nat.not_lt_zero _)
  | succ n ih =>
    intro G a0 x1 x2 x3 x4 x5 hm hi
    exact bX10_settles_106 B hk66 (fun G' a0' x1' x2' x3' x4' x5' hk => ih G' a0' x1' x2' x3' x4' x5' (Nat.lt_of_lt_of_le hk.2 (Nat.le_of_lt_succ hm)) hk.1) (hS G a0 x1 x2 x3 x4 x5 hi)
def wX10_settles_66 (X : Xt) (Pr : Int32 → Gt → Prop) (k66 : Gt → Nat → Int32 → Int32 → Int32 → Prop) (G : Gt) (a0 : Nat) (x1 : Int32) (x2 : Int32) (x3 : Int32) : Prop := gT G a0 = (1, 11) ∧ ∃ b1, gR G 352 a0 = some b1 ∧ (gT G b1).1 = 2 ∧ vp_in 6 (gT G b1).2 ∧ ((gA G b1 (6 : Int32).toNatClampNeg) ≤ x3 → gT G a0 = (1, 11) ∧ ∃ b22, gR G 352 a0 = some b22 ∧ (gT G b22).1 = 2 ∧ vp_in 15 (gT G b22).2 ∧ (gT G b22).1 = 2 ∧ vp_in 15 (gT G b22).2 ∧ ∀ G23, G23 = sA G b22 (upd (gA G b22) (15 : Int32).toNatClampNeg ((gA G b22 (15 : Int32).toNatClampNeg) + (x2 - 1))) → Pr x2 G23) ∧ (¬ ((gA G b1 (6 : Int32).toNatClampNeg) ≤ x3) → gT G a0 = (1, 11) ∧ (¬ (lg_cmp (((gJ G 355 a0) >>> ((x3 : Int32).toInt64 &&& 63)) &&& (1 : Int64)) (1 : Int64)) = 0 → k66 G a0 x1 x2 (x3 + 1)) ∧ ((lg_cmp (((gJ G 355 a0) >>> ((x3 : Int32).toInt64 &&& 63)) &&& (1 : Int64)) (1 : Int64)) = 0 → gT G a0 = (1, 11) ∧ ∃ b82, gR G 352 a0 = some b82 ∧ wX10_requestAt X G x3 (fun r83 G84 => (gT G84 b82).1 = 2 ∧ vp_in (r83 + 2) (gT G84 b82).2 ∧ ∃ (I : Gt → Nat → Int32 → Int32 → Int32 → Int32 → Int32 → Prop) (μ : Gt → Nat → Int32 → Int32 → Int32 → Int32 → Int32 → Nat), I G84 a0 x1 x2 x3 (gA G84 b82 (r83 + 2).toNatClampNeg) (0 : Int32) ∧ ∀ (G : Gt) (a0 : Nat) (x1 : Int32) (x2 : Int32) (x3 : Int32) (x4 : Int32) (x5 : Int32), I G a0 x1 x2 x3 x4 x5 → wX10_settles_106 X Pr k66 (fun G' a0' x1' x2' x3' x4' x5' => I G' a0' x1' x2' x3' x4' x5' ∧ μ G' a0' x1' x2' x3' x4' x5' < μ G a0 x1 x2 x3 x4 x5) G a0 x1 x2 x3 x4 x5)))
set_option maxRecDepth 20000 in
theorem bX10_settles_66 {X : Xt} {K : Kt} {l : Launch} {G0 : Gt} {Pr : Int32 → Gt → Prop} (B : BX X K l cX10_settles 6 RX10 3 64 G0 (some (.int)) "settles") {k66 : Gt → Nat → Int32 → Int32 → Int32 → Prop} (hk66 : ∀ (G : Gt) (a0 : Nat) (x1 : Int32) (x2 : Int32) (x3 : Int32), k66 G a0 x1 x2 x3 → WM X K (QM X K G0 (rI Pr) noX) G 66 [some (.ref a0), some (.int x1), some (.int x2), some (.int x3), none, none] []) {G : Gt} {a0 : Nat} {x1 : Int32} {x2 : Int32} {x3 : Int32} (h : wX10_settles_66 X Pr k66 G a0 x1 x2 x3) : WM X K (QM X K G0 (rI Pr) noX) G 66 [some (.ref a0), some (.int x1), some (.int x2), some (.int x3), none, none] [] := by
  obtain ⟨hL, C, E0, hr, hnm, hex, hfl⟩ := id B
  unfold wX10_settles_66 at h
  refine r_iload_n C 3 dX10_settles_66 rfl rfl ?_
  refine r_aloadR_n C 0 dX10_settles_67 rfl rfl ?_
  obtain ⟨ht, h⟩ := h
  obtain ⟨b1, hb, h⟩ := h
  refine r_getR C fw_RX10_7 rfl ht hb dX10_settles_68 ?_
  refine r_bipush C 6 dX10_settles_71 (by decide) ?_
  obtain ⟨ht, hi, h⟩ := h
  refine r_ialdP C ht hi dX10_settles_73 ?_
  refine r_icmp_ge C 230 dX10_settles_74 (by decide) (fun c => ?_) (fun c => ?_)
  · replace h := h.1 c
    refine r_aloadR_n C 0 dX10_settles_230 rfl rfl ?_
    obtain ⟨ht, h⟩ := h
    obtain ⟨b22, hb, h⟩ := h
    refine r_getR C fw_RX10_7 rfl ht hb dX10_settles_231 ?_
    refine r_bipush C 15 dX10_settles_234 (by decide) ?_
    refine r_dup2 C dX10_settles_236 rfl rfl ?_
    obtain ⟨ht, hi, h⟩ := h
    refine r_ialdP C ht hi dX10_settles_237 ?_
    refine r_iload_n C 2 dX10_settles_238 rfl rfl ?_
    refine r_iconst C 1 dX10_settles_239 (by decide) ?_
    refine r_isub C dX10_settles_240 ?_
    refine r_iadd C dX10_settles_241 ?_
    obtain ⟨ht, hi, h⟩ := h
    refine r_iastP C ht hi dX10_settles_242 ?_
    refine r_nm (fun G23 hG23 => ?_)
    replace h := h G23 hG23
    refine r_iload_n C 2 dX10_settles_243 rfl rfl ?_
    exact r_iret C E0 hr ⟨_, rfl, h⟩ dX10_settles_244
  · replace h := h.2 c
    refine r_aloadR_n C 0 dX10_settles_77 rfl rfl ?_
    obtain ⟨ht, h⟩ := h
    refine r_getJ C fw_RX10_94 rfl ht dX10_settles_78 ?_
    refine r_iload_n C 3 dX10_settles_81 rfl rfl ?_
    refine r_lshr C dX10_settles_82 ?_
    refine r_lconst C 1 dX10_settles_83 (by decide) ?_
    refine r_land C dX10_settles_84 ?_
    refine r_lconst C 1 dX10_settles_85 (by decide) ?_
    refine r_lcmp C dX10_settles_86 ?_
    refine r_if_ne C 224 dX10_settles_87 (by decide) (fun c => ?_) (fun c => ?_)
    · replace h := h.1 c
      refine r_iinc C 1 (lv' := [some (.ref a0), some (.int x1), some (.int x2), some (.int (x3 + 1)), none, none]) dX10_settles_224 rfl (by decide) rfl rfl ?_
      refine r_goto C 66 dX10_settles_227 (by decide) ?_
      exact hk66 _ _ _ _ _ h
    · replace h := h.2 c
      refine r_aloadR_n C 0 dX10_settles_90 rfl rfl ?_
      obtain ⟨ht, h⟩ := h
      obtain ⟨b82, hb, h⟩ := h
      refine r_getR C fw_RX10_7 rfl ht hb dX10_settles_91 ?_
      refine r_iload_n C 3 dX10_settles_94 rfl rfl ?_
      refine r_callS C hL yw_X10_requestAt sw_RX10_61 rfl rfl (Nat.le_of_ble_eq_true rfl) ⟨(Nat.le_of_ble_eq_true rfl), (Nat.le_of_ble_eq_true rfl)⟩ (mX10_requestAt hfl h) rfl dX10_settles_95 (kI (fun r83 G84 h => ?_)) kN
      refine r_iconst C 2 dX10_settles_98 (by decide) ?_
      refine r_iadd C dX10_settles_99 ?_
      obtain ⟨ht, hi, h⟩ := h
      refine r_ialdP C ht hi dX10_settles_100 ?_
      refine r_istore C (lv' := [some (.ref a0), some (.int x1), some (.int x2), some (.int x3), some (.int (gA G84 b82 (r83 + 2).toNatClampNeg)), none]) dX10_settles_101 (Nat.le_of_ble_eq_true rfl) rfl rfl ?_
      refine r_iconst C 0 dX10_settles_103 (by decide) ?_
      refine r_istore C (lv' := [some (.ref a0), some (.int x1), some (.int x2), some (.int x3), some (.int (gA G84 b82 (r83 + 2).toNatClampNeg)), some (.int 0)]) dX10_settles_104 (Nat.le_of_ble_eq_true rfl) rfl rfl ?_
      obtain ⟨I, μ, hI, hS⟩ := h
      exact lX10_settles_106 B hk66 I μ hS _ _ _ _ _ _ _ _ (Nat.lt_succ_self _) hI
theorem lX10_settles_66 {X : Xt} {K : Kt} {l : Launch} {G0 : Gt} {Pr : Int32 → Gt → Prop} (B : BX X K l cX10_settles 6 RX10 3 64 G0 (some (.int)) "settles") (I : Gt → Nat → Int32 → Int32 → Int32 → Prop) (μ : Gt → Nat → Int32 → Int32 → Int32 → Nat) (hS : ∀ (G : Gt) (a0 : Nat) (x1 : Int32) (x2 : Int32) (x3 : Int32), I G a0 x1 x2 x3 → wX10_settles_66 X Pr (fun G' a0' x1' x2' x3' => I G' a0' x1' x2' x3' ∧ μ G' a0' x1' x2' x3' < μ G a0 x1 x2 x3) G a0 x1 x2 x3) : ∀ (n : Nat) (G : Gt) (a0 : Nat) (x1 : Int32) (x2 : Int32) (x3 : Int32), μ G a0 x1 x2 x3 < n → I G a0 x1 x2 x3 → WM X K (QM X K G0 (rI Pr) noX) G 66 [some (.ref a0), some (.int x1), some (.int x2), some (.int x3), none, none] [] := by
  intro n
  induction n with
  | zero => intro G a0 x1 x2 x3 hm; exact absurd hm (Nat.not_lt_zero _)
  | succ n ih =>
    intro G a0 x1 x2 x3 hm hi
    exact bX10_settles_66 B (fun G' a0' x1' x2' x3' hk => ih G' a0' x1' x2' x3' (Nat.lt_of_lt_of_le hk.2 (Nat.le_of_lt_succ hm)) hk.1) (hS G a0 x1 x2 x3 hi)
def wX10_settles_5 (X : Xt) (Pr : Int32 → Gt → Prop) (k5 : Gt → Nat → Int32 → Int32 → Prop) (G : Gt) (a0 : Nat) (x1 : Int32) (x2 : Int32) : Prop := gT G a0 = (1, 11) ∧ ((gI G 358 a0) ≤ x2 → gT G a0 = (1, 11) ∧ ∃ (I : Gt → Nat → Int32 → Int32 → Int32 → Prop) (μ : Gt → Nat → Int32 → Int32 → Int32 → Nat), I G a0 x1 (0 : Int32) (gI G 356 a0) ∧ ∀ (G : Gt) (a0 : Nat) (x1 : Int32) (x2 : Int32) (x3 : Int32), I G a0 x1 x2 x3 → wX10_settles_66 X Pr (fun G' a0' x1' x2' x3' => I G' a0' x1' x2' x3' ∧ μ G' a0' x1' x2' x3' < μ G a0 x1 x2 x3) G a0 x1 x2 x3) ∧ (¬ ((gI G 358 a0) ≤ x2) → (¬ x1 = 0 → k5 G a0 x1 (x2 + 1)) ∧ (x1 = 0 → gT G a0 = (1, 11) ∧ ((gI G 359 a0) = 0 → gT G a0 = (1, 11) ∧ gT G a0 = (1, 11) ∧ wX10_word X G a0 (x2 - (gI G 357 a0)) (fun r101 G102 => gT G102 a0 = (1, 11) ∧ wX10_caches X G102 a0 x2 r101 (fun G103 => k5 G103 a0 x1 (x2 + 1)))) ∧ (¬ ((gI G 359 a0) = 0) → gT G a0 = (1, 11) ∧ ∃ b121, gR G 363 a0 = some b121 ∧ gT G a0 = (1, 11) ∧ (gT G b121).1 = 2 ∧ vp_in (x2 - (gI G 357 a0)) (gT G b121).2 ∧ gT G a0 = (1, 11) ∧ wX10_caches X G a0 x2 (gA G b121 (x2 - (gI G 357 a0)).toNatClampNeg) (fun G122 => k5 G122 a0 x1 (x2 + 1)))))
set_option maxRecDepth 20000 in
theorem bX10_settles_5 {X : Xt} {K : Kt} {l : Launch} {G0 : Gt} {Pr : Int32 → Gt → Prop} (B : BX X K l cX10_settles 6 RX10 3 64 G0 (some (.int)) "settles") {k5 : Gt → Nat → Int32 → Int32 → Prop} (hk5 : ∀ (G : Gt) (a0 : Nat) (x1 : Int32) (x2 : Int32), k5 G a0 x1 x2 → WM X K (QM X K G0 (rI Pr) noX) G 5 [some (.ref a0), some (.int x1), some (.int x2), none, none, none] []) {G : Gt} {a0 : Nat} {x1 : Int32} {x2 : Int32} (h : wX10_settles_5 X Pr k5 G a0 x1 x2) : WM X K (QM X K G0 (rI Pr) noX) G 5 [some (.ref a0), some (.int x1), some (.int x2), none, none, none] [] := by
  obtain ⟨hL, C, E0, hr, hnm, hex, hfl⟩ := id B
  unfold wX10_settles_5 at h
  refine r_iload_n C 2 dX10_settles_5 rfl rfl ?_
  refine r_aloadR_n C 0 dX10_settles_6 rfl rfl ?_
  obtain ⟨ht, h⟩ := h
  refine r_getI C fw_RX10_111 rfl ht dX10_settles_7 ?_
  refine r_icmp_ge C 59 dX10_settles_10 (by decide) (fun c => ?_) (fun c => ?_)
  · replace h := h.1 c
    refine r_iconst C 0 dX10_settles_59 (by decide) ?_
    refine r_istore_n C 2 (lv' := [some (.ref a0), some (.int x1), some (.int 0), none, none, none]) dX10_settles_60 rfl (Nat.le_of_ble_eq_true rfl) rfl rfl ?_
    refine r_aloadR_n C 0 dX10_settles_61 rfl rfl ?_
    obtain ⟨ht, h⟩ := h
    refine r_getI C fw_RX10_105 rfl ht dX10_settles_62 ?_
    refine r_istore_n C 3 (lv' := [some (.ref a0), some (.int x1), some (.int 0), some (.int (gI G 356 a0)), none, none]) dX10_settles_65 rfl (Nat.le_of_ble_eq_true rfl) rfl rfl ?_
    obtain ⟨I, μ, hI, hS⟩ := h
    exact lX10_settles_66 B I μ hS _ _ _ _ _ _ (Nat.lt_succ_self _) hI
  · replace h := h.2 c
    refine r_iload_n C 1 dX10_settles_13 rfl rfl ?_
    refine r_if_ne C 53 dX10_settles_14 (by decide) (fun c => ?_) (fun c => ?_)
    · replace h := h.1 c
      refine r_iinc C 1 (lv' := [some (.ref a0), some (.int x1), some (.int (x2 + 1)), none, none, none]) dX10_settles_53 rfl (by decide) rfl rfl ?_
      refine r_goto C 5 dX10_settles_56 (by decide) ?_
      exact hk5 _ _ _ _ h
    · replace h := h.2 c
      refine r_aloadR_n C 0 dX10_settles_17 rfl rfl ?_
      refine r_iload_n C 2 dX10_settles_18 rfl rfl ?_
      refine r_aloadR_n C 0 dX10_settles_19 rfl rfl ?_
      obtain ⟨ht, h⟩ := h
      refine r_getI C fw_RX10_101 rfl ht dX10_settles_20 ?_
      refine r_if_eq C 40 dX10_settles_23 (by decide) (fun c => ?_) (fun c => ?_)
      · replace h := h.1 c
        refine r_aloadR_n C 0 dX10_settles_40 rfl rfl ?_
        refine r_iload_n C 2 dX10_settles_41 rfl rfl ?_
        refine r_aloadR_n C 0 dX10_settles_42 rfl rfl ?_
        obtain ⟨ht, h⟩ := h
        refine r_getI C fw_RX10_108 rfl ht dX10_settles_43 ?_
        refine r_isub C dX10_settles_46 ?_
        obtain ⟨ht, h⟩ := h
        refine r_callV C (r := (RX10, TX10, 19)) hL yw_X10_word vw_RX10_170 rfl rfl ht rfl rfl (Nat.le_of_ble_eq_true rfl) ⟨(Nat.le_of_ble_eq_true rfl), (Nat.le_of_ble_eq_true rfl)⟩ (mX10_word hfl h) rfl dX10_settles_47 (kI (fun r101 G102 h => ?_)) kN
        obtain ⟨ht, h⟩ := h
        refine r_callV C (r := (RX10, TX10, 19)) hL yw_X10_caches vw_RX10_173 rfl rfl ht rfl rfl (Nat.le_of_ble_eq_true rfl) ⟨(Nat.le_of_ble_eq_true rfl), (Nat.le_of_ble_eq_true rfl)⟩ (mX10_caches hfl h) rfl dX10_settles_50 (kV' (fun G103 h => ?_)) kN
        refine r_iinc C 1 (lv' := [some (.ref a0), some (.int x1), some (.int (x2 + 1)), none, none, none]) dX10_settles_53 rfl (by decide) rfl rfl ?_
        refine r_goto C 5 dX10_settles_56 (by decide) ?_
        exact hk5 _ _ _ _ h
      · replace h := h.2 c
        refine r_aloadR_n C 0 dX10_settles_26 rfl rfl ?_
        obtain ⟨ht, h⟩ := h
        obtain ⟨b121, hb, h⟩ := h
        refine r_getR C fw_RX10_19 rfl ht hb dX10_settles_27 ?_
        refine r_iload_n C 2 dX10_settles_30 rfl rfl ?_
        refine r_aloadR_n C 0 dX10_settles_31 rfl rfl ?_
        obtain ⟨ht, h⟩ := h
        refine r_getI C fw_RX10_108 rfl ht dX10_settles_32 ?_
        refine r_isub C dX10_settles_35 ?_
        obtain ⟨ht, hi, h⟩ := h
        refine r_ialdP C ht hi dX10_settles_36 ?_
        refine r_goto C 50 dX10_settles_37 (by decide) ?_
        obtain ⟨ht, h⟩ := h
        refine r_callV C (r := (RX10, TX10, 19)) hL yw_X10_caches vw_RX10_173 rfl rfl ht rfl rfl (Nat.le_of_ble_eq_true rfl) ⟨(Nat.le_of_ble_eq_true rfl), (Nat.le_of_ble_eq_true rfl)⟩ (mX10_caches hfl h) rfl dX10_settles_50 (kV' (fun G122 h => ?_)) kN
        refine r_iinc C 1 (lv' := [some (.ref a0), some (.int x1), some (.int (x2 + 1)), none, none, none]) dX10_settles_53 rfl (by decide) rfl rfl ?_
        refine r_goto C 5 dX10_settles_56 (by decide) ?_
        exact hk5 _ _ _ _ h
theorem lX10_settles_5 {X : Xt} {K : Kt} {l : Launch} {G0 : Gt} {Pr : Int32 → Gt → Prop} (B : BX X K l cX10_settles 6 RX10 3 64 G0 (some (.int)) "settles") (I : Gt → Nat → Int32 → Int32 → Prop) (μ : Gt → Nat → Int32 → Int32 → Nat) (hS : ∀ (G : Gt) (a0 : Nat) (x1 : Int32) (x2 : Int32), I G a0 x1 x2 → wX10_settles_5 X Pr (fun G' a0' x1' x2' => I G' a0' x1' x2' ∧ μ G' a0' x1' x2' < μ G a0 x1 x2) G a0 x1 x2) : ∀ (n : Nat) (G : Gt) (a0 : Nat) (x1 : Int32) (x2 : Int32), μ G a0 x1 x2 < n → I G a0 x1 x2 → WM X K (QM X K G0 (rI Pr) noX) G 5 [some (.ref a0), some (.int x1), some (.int x2), none, none, none] [] := by
  intro n
  induction n with
  | zero => intro G a0 x1 x2 hm; exact absurd hm (Nat.not_lt_zero _)
  | succ n ih =>
    intro G a0 x1 x2 hm hi
    exact bX10_settles_5 B (fun G' a0' x1' x2' hk => ih G' a0' x1' x2' (Nat.lt_of_lt_of_le hk.2 (Nat.le_of_lt_succ hm)) hk.1) (hS G a0 x1 x2 hi)
def wX10_settles (X : Xt) (G : Gt) (a0 : Nat) (x1 : Int32) (Pr : Int32 → Gt → Prop) : Prop := gT G a0 = (1, 11) ∧ ∃ (I : Gt → Nat → Int32 → Int32 → Prop) (μ : Gt → Nat → Int32 → Int32 → Nat), I G a0 x1 (gI G 357 a0) ∧ ∀ (G : Gt) (a0 : Nat) (x1 : Int32) (x2 : Int32), I G a0 x1 x2 → wX10_settles_5 X Pr (fun G' a0' x1' x2' => I G' a0' x1' x2' ∧ μ G' a0' x1' x2' < μ G a0 x1 x2) G a0 x1 x2
set_option maxRecDepth 20000 in
theorem mX10_settles {X : Xt} {l : Launch} (hfl : l.stackTraces = false) {G : Gt} {a0 : Nat} {x1 : Int32} {Pr : Int32 → Gt → Prop} (h : wX10_settles X G a0 x1 Pr) : Mc X l yX10_settles (.code yX10_settles cX10_settles 6 (some (.int))) 3 64 [.ref a0, .int x1] G (rI Pr) noX := by
  refine Mc.of (by decide +kernel) hfl [some (.ref a0), some (.int x1), none, none, none, none] rfl (Nat.le_of_ble_eq_true rfl) rfl ?_
  intro K hL C E0 hr hnm hex
  have B : BX X K l cX10_settles 6 RX10 3 64 G (some (.int)) "settles" := ⟨hL, C, E0, hr, hnm, hex, hfl⟩
  have C : Cx X K cX10_settles 6 RX10 3 64 := C
  unfold wX10_settles at h
  refine r_aloadR_n C 0 dX10_settles_0 rfl rfl ?_
  obtain ⟨ht, h⟩ := h
  refine r_getI C fw_RX10_108 rfl ht dX10_settles_1 ?_
  refine r_istore_n C 2 (lv' := [some (.ref a0), some (.int x1), some (.int (gI G 357 a0)), none, none, none]) dX10_settles_4 rfl (Nat.le_of_ble_eq_true rfl) rfl rfl ?_
  obtain ⟨I, μ, hI, hS⟩ := h
  exact lX10_settles_5 B I μ hS _ _ _ _ _ (Nat.lt_succ_self _) hI
def wX10_steps (X : Xt) (G : Gt) (a0 : Nat) (Pr : Int32 → Gt → Prop) : Prop := gT G a0 = (1, 11) ∧ wX10_firstWaiting X G a0 (fun r1 G2 => (0 ≤ r1 → gT G2 a0 = (1, 11) ∧ wX10_isCached X G2 a0 r1 (fun r23 G24 => (r23 = 0 → gT G24 a0 = (1, 11) ∧ wX10_gathers X G24 a0 r1 (fun G45 => gT G45 a0 = (1, 11) ∧ wX10_tries X G45 a0 (fun r46 G47 => (¬ r46 = 0 → gT G47 a0 = (1, 11) ∧ ∃ b68, gR G47 364 a0 = some b68 ∧ (gT G47 b68).1 = 2 ∧ vp_in 4 (gT G47 b68).2 ∧ ((gA G47 b68 (4 : Int32).toNatClampNeg) ≤ 128 → gT G47 a0 = (1, 11) ∧ wX10_settles X G47 a0 0 (fun r89 G90 => Pr r89 G90)) ∧ (¬ ((gA G47 b68 (4 : Int32).toNatClampNeg) ≤ 128) → gT G47 a0 = (1, 11) ∧ ∃ b109, gR G47 364 a0 = some b109 ∧ (gT G47 b109).1 = 2 ∧ vp_in 5 (gT G47 b109).2 ∧ gT G47 a0 = (1, 11) ∧ wX10_settles X G47 a0 (gA G47 b109 (5 : Int32).toNatClampNeg) (fun r110 G111 => Pr r110 G111))) ∧ (r46 = 0 → gT G47 a0 = (1, 11) ∧ wX10_settles X G47 a0 11 (fun r88 G89 => Pr r88 G89))))) ∧ (¬ (r23 = 0) → gT G24 a0 = (1, 11) ∧ wX10_byCache X G24 a0 r1 (fun r65 G66 => Pr r65 G66)))) ∧ (¬ (0 ≤ r1) → Pr 0 G2))
set_option maxRecDepth 20000 in
theorem mX10_steps {X : Xt} {l : Launch} (hfl : l.stackTraces = false) {G : Gt} {a0 : Nat} {Pr : Int32 → Gt → Prop} (h : wX10_steps X G a0 Pr) : Mc X l yX10_steps (.code yX10_steps cX10_steps 3 (some (.int))) 6 139 [.ref a0] G (rI Pr) noX := by
  refine Mc.of (by decide +kernel) hfl [some (.ref a0), none, none] rfl (Nat.le_of_ble_eq_true rfl) rfl ?_
  intro K hL C E0 hr hnm hex
  have B : BX X K l cX10_steps 3 RX10 6 139 G (some (.int)) "steps" := ⟨hL, C, E0, hr, hnm, hex, hfl⟩
  have C : Cx X K cX10_steps 3 RX10 6 139 := C
  unfold wX10_steps at h
  refine r_aloadR_n C 0 dX10_steps_0 rfl rfl ?_
  obtain ⟨ht, h⟩ := h
  refine r_callV C (r := (RX10, TX10, 19)) hL yw_X10_firstWaiting vw_RX10_177 rfl rfl ht rfl rfl (Nat.le_of_ble_eq_true rfl) ⟨(Nat.le_of_ble_eq_true rfl), (Nat.le_of_ble_eq_true rfl)⟩ (mX10_firstWaiting hfl h) rfl dX10_steps_1 (kI (fun r1 G2 h => ?_)) kN
  refine r_istore_n C 1 (lv' := [some (.ref a0), some (.int r1), none]) dX10_steps_4 rfl (Nat.le_of_ble_eq_true rfl) rfl rfl ?_
  refine r_iload_n C 1 dX10_steps_5 rfl rfl ?_
  refine r_if_ge C 11 dX10_steps_6 (by decide) (fun c => ?_) (fun c => ?_)
  · replace h := h.1 c
    refine r_aloadR_n C 0 dX10_steps_11 rfl rfl ?_
    refine r_iload_n C 1 dX10_steps_12 rfl rfl ?_
    obtain ⟨ht, h⟩ := h
    refine r_callV C (r := (RX10, TX10, 19)) hL yw_X10_isCached vw_RX10_180 rfl rfl ht rfl rfl (Nat.le_of_ble_eq_true rfl) ⟨(Nat.le_of_ble_eq_true rfl), (Nat.le_of_ble_eq_true rfl)⟩ (mX10_isCached hfl h) rfl dX10_steps_13 (kI (fun r23 G24 h => ?_)) kN
    refine r_if_eq C 25 dX10_steps_16 (by decide) (fun c => ?_) (fun c => ?_)
    · replace h := h.1 c
      refine r_aloadR_n C 0 dX10_steps_25 rfl rfl ?_
      refine r_iload_n C 1 dX10_steps_26 rfl rfl ?_
      obtain ⟨ht, h⟩ := h
      refine r_callV C (r := (RX10, TX10, 19)) hL yw_X10_gathers vw_RX10_186 rfl rfl ht rfl rfl (Nat.le_of_ble_eq_true rfl) ⟨(Nat.le_of_ble_eq_true rfl), (Nat.le_of_ble_eq_true rfl)⟩ (mX10_gathers hfl h) rfl dX10_steps_27 (kV' (fun G45 h => ?_)) kN
      refine r_aloadR_n C 0 dX10_steps_30 rfl rfl ?_
      obtain ⟨ht, h⟩ := h
      refine r_callV C (r := (RX10, TX10, 19)) hL yw_X10_tries vw_RX10_189 rfl rfl ht rfl rfl (Nat.le_of_ble_eq_true rfl) ⟨(Nat.le_of_ble_eq_true rfl), (Nat.le_of_ble_eq_true rfl)⟩ (mX10_tries hfl h) rfl dX10_steps_31 (kI (fun r46 G47 h => ?_)) kN
      refine r_istore_n C 2 (lv' := [some (.ref a0), some (.int r1), some (.int r46)]) dX10_steps_34 rfl (Nat.le_of_ble_eq_true rfl) rfl rfl ?_
      refine r_aloadR_n C 0 dX10_steps_35 rfl rfl ?_
      refine r_iload_n C 2 dX10_steps_36 rfl rfl ?_
      refine r_if_ne C 45 dX10_steps_37 (by decide) (fun c => ?_) (fun c => ?_)
      · replace h := h.1 c
        refine r_aloadR_n C 0 dX10_steps_45 rfl rfl ?_
        obtain ⟨ht, h⟩ := h
        obtain ⟨b68, hb, h⟩ := h
        refine r_getR C fw_RX10_22 rfl ht hb dX10_steps_46 ?_
        refine r_iconst C 4 dX10_steps_49 (by decide) ?_
        obtain ⟨ht, hi, h⟩ := h
        refine r_ialdP C ht hi dX10_steps_50 ?_
        refine r_sipush C 128 dX10_steps_51 (by decide) ?_
        refine r_icmp_le C 66 dX10_steps_54 (by decide) (fun c => ?_) (fun c => ?_)
        · replace h := h.1 c
          refine r_iconst C 0 dX10_steps_66 (by decide) ?_
          obtain ⟨ht, h⟩ := h
          refine r_callV C (r := (RX10, TX10, 19)) hL yw_X10_settles vw_RX10_192 rfl rfl ht rfl rfl (Nat.le_of_ble_eq_true rfl) ⟨(Nat.le_of_ble_eq_true rfl), (Nat.le_of_ble_eq_true rfl)⟩ (mX10_settles hfl h) rfl dX10_steps_67 (kI (fun r89 G90 h => ?_)) kN
          exact r_iret C E0 hr ⟨_, rfl, h⟩ dX10_steps_70
        · replace h := h.2 c
          refine r_aloadR_n C 0 dX10_steps_57 rfl rfl ?_
          obtain ⟨ht, h⟩ := h
          obtain ⟨b109, hb, h⟩ := h
          refine r_getR C fw_RX10_22 rfl ht hb dX10_steps_58 ?_
          refine r_iconst C 5 dX10_steps_61 (by decide) ?_
          obtain ⟨ht, hi, h⟩ := h
          refine r_ialdP C ht hi dX10_steps_62 ?_
          refine r_goto C 67 dX10_steps_63 (by decide) ?_
          obtain ⟨ht, h⟩ := h
          refine r_callV C (r := (RX10, TX10, 19)) hL yw_X10_settles vw_RX10_192 rfl rfl ht rfl rfl (Nat.le_of_ble_eq_true rfl) ⟨(Nat.le_of_ble_eq_true rfl), (Nat.le_of_ble_eq_true rfl)⟩ (mX10_settles hfl h) rfl dX10_steps_67 (kI (fun r110 G111 h => ?_)) kN
          exact r_iret C E0 hr ⟨_, rfl, h⟩ dX10_steps_70
      · replace h := h.2 c
        refine r_bipush C 11 dX10_steps_40 (by decide) ?_
        refine r_goto C 67 dX10_steps_42 (by decide) ?_
        obtain ⟨ht, h⟩ := h
        refine r_callV C (r := (RX10, TX10, 19)) hL yw_X10_settles vw_RX10_192 rfl rfl ht rfl rfl (Nat.le_of_ble_eq_true rfl) ⟨(Nat.le_of_ble_eq_true rfl), (Nat.le_of_ble_eq_true rfl)⟩ (mX10_settles hfl h) rfl dX10_steps_67 (kI (fun r88 G89 h => ?_)) kN
        exact r_iret C E0 hr ⟨_, rfl, h⟩ dX10_steps_70
    · replace h := h.2 c
      refine r_aloadR_n C 0 dX10_steps_19 rfl rfl ?_
      refine r_iload_n C 1 dX10_steps_20 rfl rfl ?_
      obtain ⟨ht, h⟩ := h
      refine r_callV C (r := (RX10, TX10, 19)) hL yw_X10_byCache vw_RX10_183 rfl rfl ht rfl rfl (Nat.le_of_ble_eq_true rfl) ⟨(Nat.le_of_ble_eq_true rfl), (Nat.le_of_ble_eq_true rfl)⟩ (mX10_byCache hfl h) rfl dX10_steps_21 (kI (fun r65 G66 h => ?_)) kN
      exact r_iret C E0 hr ⟨_, rfl, h⟩ dX10_steps_24
  · replace h := h.2 c
    refine r_iconst C 0 dX10_steps_9 (by decide) ?_
    exact r_iret C E0 hr ⟨_, rfl, h⟩ dX10_steps_10
def wX10_step (X : Xt) (G : Gt) (a0 : Nat) (Pr : Int32 → Gt → Prop) : Prop := gT G a0 = (1, 11) ∧ ∀ G1, G1 = sI G 354 a0 0 → gT G1 a0 = (1, 11) ∧ wX10_steps X G1 a0 (fun r2 G3 => Pr r2 G3)
set_option maxRecDepth 20000 in
theorem mX10_step {X : Xt} {l : Launch} (hfl : l.stackTraces = false) {G : Gt} {a0 : Nat} {Pr : Int32 → Gt → Prop} (h : wX10_step X G a0 Pr) : Mc X l yX10_step (.code yX10_step cX10_step 1 (some (.int))) 7 161 [.ref a0] G (rI Pr) noX := by
  refine Mc.of (by decide +kernel) hfl [some (.ref a0)] rfl (Nat.le_of_ble_eq_true rfl) rfl ?_
  intro K hL C E0 hr hnm hex
  have B : BX X K l cX10_step 1 RX10 7 161 G (some (.int)) "step" := ⟨hL, C, E0, hr, hnm, hex, hfl⟩
  have C : Cx X K cX10_step 1 RX10 7 161 := C
  unfold wX10_step at h
  refine r_aloadR_n C 0 dX10_step_0 rfl rfl ?_
  refine r_iconst C 0 dX10_step_1 (by decide) ?_
  obtain ⟨ht, h⟩ := h
  refine r_putI C cw_11 fp_RX10_36 rfl ht dX10_step_2 ?_
  refine r_nm (fun G1 hG1 => ?_)
  replace h := h G1 hG1
  refine r_aloadR_n C 0 dX10_step_5 rfl rfl ?_
  obtain ⟨ht, h⟩ := h
  refine r_callV C (r := (RX10, TX10, 19)) hL yw_X10_steps vw_RX10_195 rfl rfl ht rfl rfl (Nat.le_of_ble_eq_true rfl) ⟨(Nat.le_of_ble_eq_true rfl), (Nat.le_of_ble_eq_true rfl)⟩ (mX10_steps hfl h) rfl dX10_step_6 (kI (fun r2 G3 h => ?_)) kN
  exact r_iret C E0 hr ⟨_, rfl, h⟩ dX10_step_9
def wX10_stepsAll_2 (X : Xt) (Pr : Gt → Prop) (k2 : Gt → Nat → Int32 → Prop) (G : Gt) (a0 : Nat) (x1 : Int32) : Prop := (x1 ≤ 0 → Pr G) ∧ (¬ (x1 ≤ 0) → gT G a0 = (1, 11) ∧ wX10_steps X G a0 (fun r41 G42 => k2 G42 a0 r41))
set_option maxRecDepth 20000 in
theorem bX10_stepsAll_2 {X : Xt} {K : Kt} {l : Launch} {G0 : Gt} {Pr : Gt → Prop} (B : BX X K l cX10_stepsAll 2 RX10 7 161 G0 none "stepsAll") {k2 : Gt → Nat → Int32 → Prop} (hk2 : ∀ (G : Gt) (a0 : Nat) (x1 : Int32), k2 G a0 x1 → WM X K (QM X K G0 (rV Pr) noX) G 2 [some (.ref a0), some (.int x1)] []) {G : Gt} {a0 : Nat} {x1 : Int32} (h : wX10_stepsAll_2 X Pr k2 G a0 x1) : WM X K (QM X K G0 (rV Pr) noX) G 2 [some (.ref a0), some (.int x1)] [] := by
  obtain ⟨hL, C, E0, hr, hnm, hex, hfl⟩ := id B
  unfold wX10_stepsAll_2 at h
  refine r_iload_n C 1 dX10_stepsAll_2 rfl rfl ?_
  refine r_if_le C 14 dX10_stepsAll_3 (by decide) (fun c => ?_) (fun c => ?_)
  · replace h := h.1 c
    exact r_vret C E0 hr ⟨rfl, h⟩ dX10_stepsAll_14
  · replace h := h.2 c
    refine r_aloadR_n C 0 dX10_stepsAll_6 rfl rfl ?_
    obtain ⟨ht, h⟩ := h
    refine r_callV C (r := (RX10, TX10, 19)) hL yw_X10_steps vw_RX10_195 rfl rfl ht rfl rfl (Nat.le_of_ble_eq_true rfl) ⟨(Nat.le_of_ble_eq_true rfl), (Nat.le_of_ble_eq_true rfl)⟩ (mX10_steps hfl h) rfl dX10_stepsAll_7 (kI (fun r41 G42 h => ?_)) kN
    refine r_istore_n C 1 (lv' := [some (.ref a0), some (.int r41)]) dX10_stepsAll_10 rfl (Nat.le_of_ble_eq_true rfl) rfl rfl ?_
    refine r_goto C 2 dX10_stepsAll_11 (by decide) ?_
    exact hk2 _ _ _ h
theorem lX10_stepsAll_2 {X : Xt} {K : Kt} {l : Launch} {G0 : Gt} {Pr : Gt → Prop} (B : BX X K l cX10_stepsAll 2 RX10 7 161 G0 none "stepsAll") (I : Gt → Nat → Int32 → Prop) (μ : Gt → Nat → Int32 → Nat) (hS : ∀ (G : Gt) (a0 : Nat) (x1 : Int32), I G a0 x1 → wX10_stepsAll_2 X Pr (fun G' a0' x1' => I G' a0' x1' ∧ μ G' a0' x1' < μ G a0 x1) G a0 x1) : ∀ (n : Nat) (G : Gt) (a0 : Nat) (x1 : Int32), μ G a0 x1 < n → I G a0 x1 → WM X K (QM X K G0 (rV Pr) noX) G 2 [some (.ref a0), some (.int x1)] [] := by
  intro n
  induction n with
  | zero => intro G a0 x1 hm; exact absurd hm (Nat.not_lt_zero _)
  | succ n ih =>
    intro G a0 x1 hm hi
    exact bX10_stepsAll_2 B (fun G' a0' x1' hk => ih G' a0' x1' (Nat.lt_of_lt_of_le hk.2 (Nat.le_of_lt_succ hm)) hk.1) (hS G a0 x1 hi)
def wX10_stepsAll (X : Xt) (G : Gt) (a0 : Nat) (Pr : Gt → Prop) : Prop := ∃ (I : Gt → Nat → Int32 → Prop) (μ : Gt → Nat → Int32 → Nat), I G a0 (1 : Int32) ∧ ∀ (G : Gt) (a0 : Nat) (x1 : Int32), I G a0 x1 → wX10_stepsAll_2 X Pr (fun G' a0' x1' => I G' a0' x1' ∧ μ G' a0' x1' < μ G a0 x1) G a0 x1
set_option maxRecDepth 20000 in
theorem mX10_stepsAll {X : Xt} {l : Launch} (hfl : l.stackTraces = false) {G : Gt} {a0 : Nat} {Pr : Gt → Prop} (h : wX10_stepsAll X G a0 Pr) : Mc X l yX10_stepsAll (.code yX10_stepsAll cX10_stepsAll 2 none) 7 161 [.ref a0] G (rV Pr) noX := by
  refine Mc.of (by decide +kernel) hfl [some (.ref a0), none] rfl (Nat.le_of_ble_eq_true rfl) rfl ?_
  intro K hL C E0 hr hnm hex
  have B : BX X K l cX10_stepsAll 2 RX10 7 161 G none "stepsAll" := ⟨hL, C, E0, hr, hnm, hex, hfl⟩
  have C : Cx X K cX10_stepsAll 2 RX10 7 161 := C
  unfold wX10_stepsAll at h
  refine r_iconst C 1 dX10_stepsAll_0 (by decide) ?_
  refine r_istore_n C 1 (lv' := [some (.ref a0), some (.int 1)]) dX10_stepsAll_1 rfl (Nat.le_of_ble_eq_true rfl) rfl rfl ?_
  obtain ⟨I, μ, hI, hS⟩ := h
  exact lX10_stepsAll_2 B I μ hS _ _ _ _ (Nat.lt_succ_self _) hI
def wX10_finish (X : Xt) (G : Gt) (a0 : Nat) (Pr : Int32 → Gt → Prop) : Prop := gT G a0 = (1, 11) ∧ ∀ G1, G1 = sI G 354 a0 0 → gT G1 a0 = (1, 11) ∧ wX10_stepsAll X G1 a0 (fun G2 => gT G2 a0 = (1, 11) ∧ ∃ b3, gR G2 352 a0 = some b3 ∧ (gT G2 b3).1 = 2 ∧ vp_in 0 (gT G2 b3).2 ∧ Pr (gA G2 b3 (0 : Int32).toNatClampNeg) G2)
set_option maxRecDepth 20000 in
theorem mX10_finish {X : Xt} {l : Launch} (hfl : l.stackTraces = false) {G : Gt} {a0 : Nat} {Pr : Int32 → Gt → Prop} (h : wX10_finish X G a0 Pr) : Mc X l yX10_finish (.code yX10_finish cX10_finish 1 (some (.int))) 8 182 [.ref a0] G (rI Pr) noX := by
  refine Mc.of (by decide +kernel) hfl [some (.ref a0)] rfl (Nat.le_of_ble_eq_true rfl) rfl ?_
  intro K hL C E0 hr hnm hex
  have B : BX X K l cX10_finish 1 RX10 8 182 G (some (.int)) "finish" := ⟨hL, C, E0, hr, hnm, hex, hfl⟩
  have C : Cx X K cX10_finish 1 RX10 8 182 := C
  unfold wX10_finish at h
  refine r_aloadR_n C 0 dX10_finish_0 rfl rfl ?_
  refine r_iconst C 0 dX10_finish_1 (by decide) ?_
  obtain ⟨ht, h⟩ := h
  refine r_putI C cw_11 fp_RX10_36 rfl ht dX10_finish_2 ?_
  refine r_nm (fun G1 hG1 => ?_)
  replace h := h G1 hG1
  refine r_aloadR_n C 0 dX10_finish_5 rfl rfl ?_
  obtain ⟨ht, h⟩ := h
  refine r_callV C (r := (RX10, TX10, 19)) hL yw_X10_stepsAll vw_RX10_198 rfl rfl ht rfl rfl (Nat.le_of_ble_eq_true rfl) ⟨(Nat.le_of_ble_eq_true rfl), (Nat.le_of_ble_eq_true rfl)⟩ (mX10_stepsAll hfl h) rfl dX10_finish_6 (kV' (fun G2 h => ?_)) kN
  refine r_aloadR_n C 0 dX10_finish_9 rfl rfl ?_
  obtain ⟨ht, h⟩ := h
  obtain ⟨b3, hb, h⟩ := h
  refine r_getR C fw_RX10_7 rfl ht hb dX10_finish_10 ?_
  refine r_iconst C 0 dX10_finish_13 (by decide) ?_
  obtain ⟨ht, hi, h⟩ := h
  refine r_ialdP C ht hi dX10_finish_14 ?_
  exact r_iret C E0 hr ⟨_, rfl, h⟩ dX10_finish_15
def wX10_pass_56 (X : Xt) (Pr : Int32 → Gt → Prop) (G : Gt) (a0 : Nat) (sa0 : Nat) (sx1 : Int32) (sx2 : Int32) (sx3 : Int32) : Prop := (gT G sa0).1 = 2 ∧ vp_in sx1 (gT G sa0).2 ∧ ∀ G1, G1 = sA G sa0 (upd (gA G sa0) sx1.toNatClampNeg (sx2 + sx3)) → gT G1 a0 = (1, 11) ∧ (¬ (gI G1 354 a0) = 0 → Pr 0 G1) ∧ ((gI G1 354 a0) = 0 → gT G1 a0 = (1, 11) ∧ ∃ b42, gR G1 352 a0 = some b42 ∧ (gT G1 b42).1 = 2 ∧ vp_in 0 (gT G1 b42).2 ∧ Pr (gA G1 b42 (0 : Int32).toNatClampNeg) G1)
set_option maxRecDepth 20000 in
theorem bX10_pass_56 {X : Xt} {K : Kt} {l : Launch} {G0 : Gt} {Pr : Int32 → Gt → Prop} (B : BX X K l cX10_pass 2 RX10 1 22 G0 (some (.int)) "pass") {G : Gt} {a0 : Nat} {sa0 : Nat} {sx1 : Int32} {sx2 : Int32} {sx3 : Int32} (h : wX10_pass_56 X Pr G a0 sa0 sx1 sx2 sx3) : WM X K (QM X K G0 (rI Pr) noX) G 56 [some (.ref a0), none] [.int sx3, .int sx2, .int sx1, .ref sa0] := by
  obtain ⟨hL, C, E0, hr, hnm, hex, hfl⟩ := id B
  unfold wX10_pass_56 at h
  refine r_iadd C dX10_pass_56 ?_
  obtain ⟨ht, hi, h⟩ := h
  refine r_iastP C ht hi dX10_pass_57 ?_
  refine r_nm (fun G1 hG1 => ?_)
  replace h := h G1 hG1
  refine r_aloadR_n C 0 dX10_pass_58 rfl rfl ?_
  obtain ⟨ht, h⟩ := h
  refine r_getI C fw_RX10_36 rfl ht dX10_pass_59 ?_
  refine r_if_ne C 74 dX10_pass_62 (by decide) (fun c => ?_) (fun c => ?_)
  · replace h := h.1 c
    refine r_iconst C 0 dX10_pass_74 (by decide) ?_
    exact r_iret C E0 hr ⟨_, rfl, h⟩ dX10_pass_75
  · replace h := h.2 c
    refine r_aloadR_n C 0 dX10_pass_65 rfl rfl ?_
    obtain ⟨ht, h⟩ := h
    obtain ⟨b42, hb, h⟩ := h
    refine r_getR C fw_RX10_7 rfl ht hb dX10_pass_66 ?_
    refine r_iconst C 0 dX10_pass_69 (by decide) ?_
    obtain ⟨ht, hi, h⟩ := h
    refine r_ialdP C ht hi dX10_pass_70 ?_
    refine r_goto C 75 dX10_pass_71 (by decide) ?_
    exact r_iret C E0 hr ⟨_, rfl, h⟩ dX10_pass_75
def wX10_pass_34 (X : Xt) (Pr : Int32 → Gt → Prop) (G : Gt) (a0 : Nat) (x1 : Int32) (sa0 : Nat) (sx1 : Int32) : Prop := gT G sa0 = (1, 11) ∧ ∀ G1, G1 = sI G 354 sa0 sx1 → gT G1 a0 = (1, 11) ∧ ∃ b2, gR G1 352 a0 = some b2 ∧ (gT G1 b2).1 = 2 ∧ vp_in 0 (gT G1 b2).2 ∧ gT G1 a0 = (1, 11) ∧ (¬ (gI G1 354 a0) = 0 → wX10_pass_56 X Pr G1 a0 b2 (0 : Int32) (gA G1 b2 (0 : Int32).toNatClampNeg) (0 : Int32)) ∧ ((gI G1 354 a0) = 0 → wX10_pass_56 X Pr G1 a0 b2 (0 : Int32) (gA G1 b2 (0 : Int32).toNatClampNeg) x1)
set_option maxRecDepth 20000 in
theorem bX10_pass_34 {X : Xt} {K : Kt} {l : Launch} {G0 : Gt} {Pr : Int32 → Gt → Prop} (B : BX X K l cX10_pass 2 RX10 1 22 G0 (some (.int)) "pass") {G : Gt} {a0 : Nat} {x1 : Int32} {sa0 : Nat} {sx1 : Int32} (h : wX10_pass_34 X Pr G a0 x1 sa0 sx1) : WM X K (QM X K G0 (rI Pr) noX) G 34 [some (.ref a0), some (.int x1)] [.int sx1, .ref sa0] := by
  obtain ⟨hL, C, E0, hr, hnm, hex, hfl⟩ := id B
  unfold wX10_pass_34 at h
  obtain ⟨ht, h⟩ := h
  refine r_putI C cw_11 fp_RX10_36 rfl ht dX10_pass_34 ?_
  refine r_nm (fun G1 hG1 => ?_)
  replace h := h G1 hG1
  refine r_aloadR_n C 0 dX10_pass_37 rfl rfl ?_
  obtain ⟨ht, h⟩ := h
  obtain ⟨b2, hb, h⟩ := h
  refine r_getR C fw_RX10_7 rfl ht hb dX10_pass_38 ?_
  refine r_iconst C 0 dX10_pass_41 (by decide) ?_
  refine r_dup2 C dX10_pass_42 rfl rfl ?_
  obtain ⟨ht, hi, h⟩ := h
  refine r_ialdP C ht hi dX10_pass_43 ?_
  refine r_aloadR_n C 0 dX10_pass_44 rfl rfl ?_
  obtain ⟨ht, h⟩ := h
  refine r_getI C fw_RX10_36 rfl ht dX10_pass_45 ?_
  refine r_if_ne C 55 dX10_pass_48 (by decide) (fun c => ?_) (fun c => ?_)
  · replace h := h.1 c
    refine r_iconst C 0 dX10_pass_55 (by decide) ?_
    refine r_fg (lv' := [some (.ref a0), none]) (show fgt _ _ from ⟨rfl, trivial⟩) ?_
    exact bX10_pass_56 B h
  · replace h := h.2 c
    refine r_iload_n C 1 dX10_pass_51 rfl rfl ?_
    refine r_goto C 56 dX10_pass_52 (by decide) ?_
    refine r_fg (lv' := [some (.ref a0), none]) (show fgt _ _ from ⟨rfl, trivial⟩) ?_
    exact bX10_pass_56 B h
def wX10_pass (X : Xt) (G : Gt) (a0 : Nat) (x1 : Int32) (Pr : Int32 → Gt → Prop) : Prop := wX10_in X G x1 0 10000 (fun r1 G2 => (¬ r1 = 0 → gT G2 a0 = (1, 11) ∧ ∃ b23, gR G2 352 a0 = some b23 ∧ (gT G2 b23).1 = 2 ∧ vp_in 0 (gT G2 b23).2 ∧ (((gA G2 b23 (0 : Int32).toNatClampNeg) + x1) ≤ 10000000 → wX10_pass_34 X Pr G2 a0 x1 a0 (0 : Int32)) ∧ (¬ (((gA G2 b23 (0 : Int32).toNatClampNeg) + x1) ≤ 10000000) → wX10_pass_34 X Pr G2 a0 x1 a0 (2 : Int32))) ∧ (r1 = 0 → wX10_pass_34 X Pr G2 a0 x1 a0 (1 : Int32)))
set_option maxRecDepth 20000 in
theorem mX10_pass {X : Xt} {l : Launch} (hfl : l.stackTraces = false) {G : Gt} {a0 : Nat} {x1 : Int32} {Pr : Int32 → Gt → Prop} (h : wX10_pass X G a0 x1 Pr) : Mc X l yX10_pass (.code yX10_pass cX10_pass 2 (some (.int))) 1 22 [.ref a0, .int x1] G (rI Pr) noX := by
  refine Mc.of (by decide +kernel) hfl [some (.ref a0), some (.int x1)] rfl (Nat.le_of_ble_eq_true rfl) rfl ?_
  intro K hL C E0 hr hnm hex
  have B : BX X K l cX10_pass 2 RX10 1 22 G (some (.int)) "pass" := ⟨hL, C, E0, hr, hnm, hex, hfl⟩
  have C : Cx X K cX10_pass 2 RX10 1 22 := C
  unfold wX10_pass at h
  refine r_aloadR_n C 0 dX10_pass_0 rfl rfl ?_
  refine r_iload_n C 1 dX10_pass_1 rfl rfl ?_
  refine r_iconst C 0 dX10_pass_2 (by decide) ?_
  refine r_sipush C 10000 dX10_pass_3 (by decide) ?_
  refine r_callS C hL yw_X10_in sw_RX10_39 rfl rfl (Nat.le_of_ble_eq_true rfl) ⟨(Nat.le_of_ble_eq_true rfl), (Nat.le_of_ble_eq_true rfl)⟩ (mX10_in hfl h) rfl dX10_pass_6 (kI (fun r1 G2 h => ?_)) kN
  refine r_if_ne C 16 dX10_pass_9 (by decide) (fun c => ?_) (fun c => ?_)
  · replace h := h.1 c
    refine r_aloadR_n C 0 dX10_pass_16 rfl rfl ?_
    obtain ⟨ht, h⟩ := h
    obtain ⟨b23, hb, h⟩ := h
    refine r_getR C fw_RX10_7 rfl ht hb dX10_pass_17 ?_
    refine r_iconst C 0 dX10_pass_20 (by decide) ?_
    obtain ⟨ht, hi, h⟩ := h
    refine r_ialdP C ht hi dX10_pass_21 ?_
    refine r_iload_n C 1 dX10_pass_22 rfl rfl ?_
    refine r_iadd C dX10_pass_23 ?_
    refine r_ldc C kc_RX10_201 dX10_pass_24 ?_
    refine r_icmp_le C 33 dX10_pass_26 (by decide) (fun c => ?_) (fun c => ?_)
    · replace h := h.1 c
      refine r_iconst C 0 dX10_pass_33 (by decide) ?_
      exact bX10_pass_34 B h
    · replace h := h.2 c
      refine r_iconst C 2 dX10_pass_29 (by decide) ?_
      refine r_goto C 34 dX10_pass_30 (by decide) ?_
      exact bX10_pass_34 B h
  · replace h := h.2 c
    refine r_iconst C 1 dX10_pass_12 (by decide) ?_
    refine r_goto C 34 dX10_pass_13 (by decide) ?_
    exact bX10_pass_34 B h
def wX10_time (X : Xt) (G : Gt) (a0 : Nat) (Pr : Int32 → Gt → Prop) : Prop := gT G a0 = (1, 11) ∧ ∀ G1, G1 = sI G 354 a0 0 → gT G1 a0 = (1, 11) ∧ ∃ b2, gR G1 352 a0 = some b2 ∧ (gT G1 b2).1 = 2 ∧ vp_in 0 (gT G1 b2).2 ∧ Pr (gA G1 b2 (0 : Int32).toNatClampNeg) G1
set_option maxRecDepth 20000 in
theorem mX10_time {X : Xt} {l : Launch} (hfl : l.stackTraces = false) {G : Gt} {a0 : Nat} {Pr : Int32 → Gt → Prop} (h : wX10_time X G a0 Pr) : Mc X l yX10_time (.code yX10_time cX10_time 1 (some (.int))) 0 0 [.ref a0] G (rI Pr) noX := by
  refine Mc.of (by decide +kernel) hfl [some (.ref a0)] rfl (Nat.le_of_ble_eq_true rfl) rfl ?_
  intro K hL C E0 hr hnm hex
  have B : BX X K l cX10_time 1 RX10 0 0 G (some (.int)) "time" := ⟨hL, C, E0, hr, hnm, hex, hfl⟩
  have C : Cx X K cX10_time 1 RX10 0 0 := C
  unfold wX10_time at h
  refine r_aloadR_n C 0 dX10_time_0 rfl rfl ?_
  refine r_iconst C 0 dX10_time_1 (by decide) ?_
  obtain ⟨ht, h⟩ := h
  refine r_putI C cw_11 fp_RX10_36 rfl ht dX10_time_2 ?_
  refine r_nm (fun G1 hG1 => ?_)
  replace h := h G1 hG1
  refine r_aloadR_n C 0 dX10_time_5 rfl rfl ?_
  obtain ⟨ht, h⟩ := h
  obtain ⟨b2, hb, h⟩ := h
  refine r_getR C fw_RX10_7 rfl ht hb dX10_time_6 ?_
  refine r_iconst C 0 dX10_time_9 (by decide) ?_
  obtain ⟨ht, hi, h⟩ := h
  refine r_ialdP C ht hi dX10_time_10 ?_
  exact r_iret C E0 hr ⟨_, rfl, h⟩ dX10_time_11
def wX10_group (X : Xt) (G : Gt) (a0 : Nat) (Pr : Int64 → Gt → Prop) : Prop := gT G a0 = (1, 11) ∧ ∀ G1, G1 = sI G 354 a0 0 → gT G1 a0 = (1, 11) ∧ wX10_firstWaiting X G1 a0 (fun r2 G3 => (0 ≤ r2 → gT G3 a0 = (1, 11) ∧ wX10_isCached X G3 a0 r2 (fun r24 G25 => (r24 = 0 → gT G25 a0 = (1, 11) ∧ wX10_gathers X G25 a0 r2 (fun G46 => gT G46 a0 = (1, 11) ∧ Pr (gJ G46 355 a0) G46)) ∧ (¬ (r24 = 0) → Pr ((1 : Int64) <<< ((r2 : Int32).toInt64 &&& 63)) G25))) ∧ (¬ (0 ≤ r2) → Pr (0 : Int64) G3))
set_option maxRecDepth 20000 in
theorem mX10_group {X : Xt} {l : Launch} (hfl : l.stackTraces = false) {G : Gt} {a0 : Nat} {Pr : Int64 → Gt → Prop} (h : wX10_group X G a0 Pr) : Mc X l yX10_group (.code yX10_group cX10_group 2 (some (.long))) 5 114 [.ref a0] G (rJ Pr) noX := by
  refine Mc.of (by decide +kernel) hfl [some (.ref a0), none] rfl (Nat.le_of_ble_eq_true rfl) rfl ?_
  intro K hL C E0 hr hnm hex
  have B : BX X K l cX10_group 2 RX10 5 114 G (some (.long)) "group" := ⟨hL, C, E0, hr, hnm, hex, hfl⟩
  have C : Cx X K cX10_group 2 RX10 5 114 := C
  unfold wX10_group at h
  refine r_aloadR_n C 0 dX10_group_0 rfl rfl ?_
  refine r_iconst C 0 dX10_group_1 (by decide) ?_
  obtain ⟨ht, h⟩ := h
  refine r_putI C cw_11 fp_RX10_36 rfl ht dX10_group_2 ?_
  refine r_nm (fun G1 hG1 => ?_)
  replace h := h G1 hG1
  refine r_aloadR_n C 0 dX10_group_5 rfl rfl ?_
  obtain ⟨ht, h⟩ := h
  refine r_callV C (r := (RX10, TX10, 19)) hL yw_X10_firstWaiting vw_RX10_177 rfl rfl ht rfl rfl (Nat.le_of_ble_eq_true rfl) ⟨(Nat.le_of_ble_eq_true rfl), (Nat.le_of_ble_eq_true rfl)⟩ (mX10_firstWaiting hfl h) rfl dX10_group_6 (kI (fun r2 G3 h => ?_)) kN
  refine r_istore_n C 1 (lv' := [some (.ref a0), some (.int r2)]) dX10_group_9 rfl (Nat.le_of_ble_eq_true rfl) rfl rfl ?_
  refine r_iload_n C 1 dX10_group_10 rfl rfl ?_
  refine r_if_ge C 16 dX10_group_11 (by decide) (fun c => ?_) (fun c => ?_)
  · replace h := h.1 c
    refine r_aloadR_n C 0 dX10_group_16 rfl rfl ?_
    refine r_iload_n C 1 dX10_group_17 rfl rfl ?_
    obtain ⟨ht, h⟩ := h
    refine r_callV C (r := (RX10, TX10, 19)) hL yw_X10_isCached vw_RX10_180 rfl rfl ht rfl rfl (Nat.le_of_ble_eq_true rfl) ⟨(Nat.le_of_ble_eq_true rfl), (Nat.le_of_ble_eq_true rfl)⟩ (mX10_isCached hfl h) rfl dX10_group_18 (kI (fun r24 G25 h => ?_)) kN
    refine r_if_eq C 28 dX10_group_21 (by decide) (fun c => ?_) (fun c => ?_)
    · replace h := h.1 c
      refine r_aloadR_n C 0 dX10_group_28 rfl rfl ?_
      refine r_iload_n C 1 dX10_group_29 rfl rfl ?_
      obtain ⟨ht, h⟩ := h
      refine r_callV C (r := (RX10, TX10, 19)) hL yw_X10_gathers vw_RX10_186 rfl rfl ht rfl rfl (Nat.le_of_ble_eq_true rfl) ⟨(Nat.le_of_ble_eq_true rfl), (Nat.le_of_ble_eq_true rfl)⟩ (mX10_gathers hfl h) rfl dX10_group_30 (kV' (fun G46 h => ?_)) kN
      refine r_aloadR_n C 0 dX10_group_33 rfl rfl ?_
      obtain ⟨ht, h⟩ := h
      refine r_getJ C fw_RX10_94 rfl ht dX10_group_34 ?_
      exact r_lret C E0 hr ⟨_, rfl, h⟩ dX10_group_37
    · replace h := h.2 c
      refine r_lconst C 1 dX10_group_24 (by decide) ?_
      refine r_iload_n C 1 dX10_group_25 rfl rfl ?_
      refine r_lshl C dX10_group_26 ?_
      exact r_lret C E0 hr ⟨_, rfl, h⟩ dX10_group_27
  · replace h := h.2 c
    refine r_lconst C 0 dX10_group_14 (by decide) ?_
    exact r_lret C E0 hr ⟨_, rfl, h⟩ dX10_group_15
def wX10_frameByte (X : Xt) (G : Gt) (a0 : Nat) (x1 : Int32) (Pr : Int32 → Gt → Prop) : Prop := gT G a0 = (1, 11) ∧ ∀ G1, G1 = sI G 354 a0 0 → (0 ≤ x1 → gT G1 a0 = (1, 11) ∧ wX10_firstWaiting X G1 a0 (fun r22 G23 => (r22 < 0 → Pr (-1) G23) ∧ (¬ (r22 < 0) → gT G23 a0 = (1, 11) ∧ wX10_isCached X G23 a0 r22 (fun r64 G65 => (r64 = 0 → gT G65 a0 = (1, 11) ∧ wX10_gathers X G65 a0 r22 (fun G86 => gT G86 a0 = (1, 11) ∧ wX10_frames X G86 a0 (fun G87 => gT G87 a0 = (1, 11) ∧ ((gI G87 362 a0) ≤ x1 → Pr (-1) G87) ∧ (¬ ((gI G87 362 a0) ≤ x1) → gT G87 a0 = (1, 11) ∧ ∃ b128, gR G87 361 a0 = some b128 ∧ (gT G87 b128).1 = 2 ∧ vp_in x1 (gT G87 b128).2 ∧ Pr (gA G87 b128 x1.toNatClampNeg) G87)))) ∧ (¬ (r64 = 0) → Pr (-1) G65))))) ∧ (¬ (0 ≤ x1) → gT G1 a0 = (1, 11) ∧ wX10_fails X G1 a0 1 (fun r42 G43 => Pr r42 G43))
set_option maxRecDepth 20000 in
theorem mX10_frameByte {X : Xt} {l : Launch} (hfl : l.stackTraces = false) {G : Gt} {a0 : Nat} {x1 : Int32} {Pr : Int32 → Gt → Prop} (h : wX10_frameByte X G a0 x1 Pr) : Mc X l yX10_frameByte (.code yX10_frameByte cX10_frameByte 3 (some (.int))) 5 114 [.ref a0, .int x1] G (rI Pr) noX := by
  refine Mc.of (by decide +kernel) hfl [some (.ref a0), some (.int x1), none] rfl (Nat.le_of_ble_eq_true rfl) rfl ?_
  intro K hL C E0 hr hnm hex
  have B : BX X K l cX10_frameByte 3 RX10 5 114 G (some (.int)) "frameByte" := ⟨hL, C, E0, hr, hnm, hex, hfl⟩
  have C : Cx X K cX10_frameByte 3 RX10 5 114 := C
  unfold wX10_frameByte at h
  refine r_aloadR_n C 0 dX10_frameByte_0 rfl rfl ?_
  refine r_iconst C 0 dX10_frameByte_1 (by decide) ?_
  obtain ⟨ht, h⟩ := h
  refine r_putI C cw_11 fp_RX10_36 rfl ht dX10_frameByte_2 ?_
  refine r_nm (fun G1 hG1 => ?_)
  replace h := h G1 hG1
  refine r_iload_n C 1 dX10_frameByte_5 rfl rfl ?_
  refine r_if_ge C 15 dX10_frameByte_6 (by decide) (fun c => ?_) (fun c => ?_)
  · replace h := h.1 c
    refine r_aloadR_n C 0 dX10_frameByte_15 rfl rfl ?_
    obtain ⟨ht, h⟩ := h
    refine r_callV C (r := (RX10, TX10, 19)) hL yw_X10_firstWaiting vw_RX10_177 rfl rfl ht rfl rfl (Nat.le_of_ble_eq_true rfl) ⟨(Nat.le_of_ble_eq_true rfl), (Nat.le_of_ble_eq_true rfl)⟩ (mX10_firstWaiting hfl h) rfl dX10_frameByte_16 (kI (fun r22 G23 h => ?_)) kN
    refine r_istore_n C 2 (lv' := [some (.ref a0), some (.int x1), some (.int r22)]) dX10_frameByte_19 rfl (Nat.le_of_ble_eq_true rfl) rfl rfl ?_
    refine r_iload_n C 2 dX10_frameByte_20 rfl rfl ?_
    refine r_if_lt C 32 dX10_frameByte_21 (by decide) (fun c => ?_) (fun c => ?_)
    · replace h := h.1 c
      refine r_iconst C (-1) dX10_frameByte_32 (by decide) ?_
      exact r_iret C E0 hr ⟨_, rfl, h⟩ dX10_frameByte_33
    · replace h := h.2 c
      refine r_aloadR_n C 0 dX10_frameByte_24 rfl rfl ?_
      refine r_iload_n C 2 dX10_frameByte_25 rfl rfl ?_
      obtain ⟨ht, h⟩ := h
      refine r_callV C (r := (RX10, TX10, 19)) hL yw_X10_isCached vw_RX10_180 rfl rfl ht rfl rfl (Nat.le_of_ble_eq_true rfl) ⟨(Nat.le_of_ble_eq_true rfl), (Nat.le_of_ble_eq_true rfl)⟩ (mX10_isCached hfl h) rfl dX10_frameByte_26 (kI (fun r64 G65 h => ?_)) kN
      refine r_if_eq C 34 dX10_frameByte_29 (by decide) (fun c => ?_) (fun c => ?_)
      · replace h := h.1 c
        refine r_aloadR_n C 0 dX10_frameByte_34 rfl rfl ?_
        refine r_iload_n C 2 dX10_frameByte_35 rfl rfl ?_
        obtain ⟨ht, h⟩ := h
        refine r_callV C (r := (RX10, TX10, 19)) hL yw_X10_gathers vw_RX10_186 rfl rfl ht rfl rfl (Nat.le_of_ble_eq_true rfl) ⟨(Nat.le_of_ble_eq_true rfl), (Nat.le_of_ble_eq_true rfl)⟩ (mX10_gathers hfl h) rfl dX10_frameByte_36 (kV' (fun G86 h => ?_)) kN
        refine r_aloadR_n C 0 dX10_frameByte_39 rfl rfl ?_
        obtain ⟨ht, h⟩ := h
        refine r_callV C (r := (RX10, TX10, 19)) hL yw_X10_frames vw_RX10_147 rfl rfl ht rfl rfl (Nat.le_of_ble_eq_true rfl) ⟨(Nat.le_of_ble_eq_true rfl), (Nat.le_of_ble_eq_true rfl)⟩ (mX10_frames hfl h) rfl dX10_frameByte_40 (kV' (fun G87 h => ?_)) kN
        refine r_iload_n C 1 dX10_frameByte_43 rfl rfl ?_
        refine r_aloadR_n C 0 dX10_frameByte_44 rfl rfl ?_
        obtain ⟨ht, h⟩ := h
        refine r_getI C fw_RX10_118 rfl ht dX10_frameByte_45 ?_
        refine r_icmp_ge C 60 dX10_frameByte_48 (by decide) (fun c => ?_) (fun c => ?_)
        · replace h := h.1 c
          refine r_iconst C (-1) dX10_frameByte_60 (by decide) ?_
          exact r_iret C E0 hr ⟨_, rfl, h⟩ dX10_frameByte_61
        · replace h := h.2 c
          refine r_aloadR_n C 0 dX10_frameByte_51 rfl rfl ?_
          obtain ⟨ht, h⟩ := h
          obtain ⟨b128, hb, h⟩ := h
          refine r_getR C fw_RX10_16 rfl ht hb dX10_frameByte_52 ?_
          refine r_iload_n C 1 dX10_frameByte_55 rfl rfl ?_
          obtain ⟨ht, hi, h⟩ := h
          refine r_ialdP C ht hi dX10_frameByte_56 ?_
          refine r_goto C 61 dX10_frameByte_57 (by decide) ?_
          exact r_iret C E0 hr ⟨_, rfl, h⟩ dX10_frameByte_61
      · replace h := h.2 c
        refine r_iconst C (-1) dX10_frameByte_32 (by decide) ?_
        exact r_iret C E0 hr ⟨_, rfl, h⟩ dX10_frameByte_33
  · replace h := h.2 c
    refine r_aloadR_n C 0 dX10_frameByte_9 rfl rfl ?_
    refine r_iconst C 1 dX10_frameByte_10 (by decide) ?_
    obtain ⟨ht, h⟩ := h
    refine r_callV C (r := (RX10, TX10, 19)) hL yw_X10_fails vw_RX10_43 rfl rfl ht rfl rfl (Nat.le_of_ble_eq_true rfl) ⟨(Nat.le_of_ble_eq_true rfl), (Nat.le_of_ble_eq_true rfl)⟩ (mX10_fails hfl h) rfl dX10_frameByte_11 (kI (fun r42 G43 h => ?_)) kN
    exact r_iret C E0 hr ⟨_, rfl, h⟩ dX10_frameByte_14
def wX10_cacheAge (X : Xt) (G : Gt) (a0 : Nat) (x1 : Int32) (x2 : Int32) (Pr : Int32 → Gt → Prop) : Prop := gT G a0 = (1, 11) ∧ ∀ G1, G1 = sI G 354 a0 0 → wX10_isRegister X G1 x1 x2 (fun r2 G3 => (¬ r2 = 0 → wX10_cacheAt X G3 x1 x2 (fun r24 G25 => gT G25 a0 = (1, 11) ∧ ∃ b26, gR G25 352 a0 = some b26 ∧ (gT G25 b26).1 = 2 ∧ vp_in r24 (gT G25 b26).2 ∧ (¬ (gA G25 b26 r24.toNatClampNeg) = 1 → Pr (-1) G25) ∧ ((gA G25 b26 r24.toNatClampNeg) = 1 → gT G25 a0 = (1, 11) ∧ ∃ b67, gR G25 352 a0 = some b67 ∧ (gT G25 b67).1 = 2 ∧ vp_in 0 (gT G25 b67).2 ∧ gT G25 a0 = (1, 11) ∧ ∃ b68, gR G25 352 a0 = some b68 ∧ (gT G25 b68).1 = 2 ∧ vp_in (r24 + 2) (gT G25 b68).2 ∧ Pr ((gA G25 b67 (0 : Int32).toNatClampNeg) - (gA G25 b68 (r24 + 2).toNatClampNeg)) G25))) ∧ (r2 = 0 → gT G3 a0 = (1, 11) ∧ wX10_fails X G3 a0 1 (fun r44 G45 => Pr r44 G45)))
set_option maxRecDepth 20000 in
theorem mX10_cacheAge {X : Xt} {l : Launch} (hfl : l.stackTraces = false) {G : Gt} {a0 : Nat} {x1 : Int32} {x2 : Int32} {Pr : Int32 → Gt → Prop} (h : wX10_cacheAge X G a0 x1 x2 Pr) : Mc X l yX10_cacheAge (.code yX10_cacheAge cX10_cacheAge 4 (some (.int))) 2 43 [.ref a0, .int x1, .int x2] G (rI Pr) noX := by
  refine Mc.of (by decide +kernel) hfl [some (.ref a0), some (.int x1), some (.int x2), none] rfl (Nat.le_of_ble_eq_true rfl) rfl ?_
  intro K hL C E0 hr hnm hex
  have B : BX X K l cX10_cacheAge 4 RX10 2 43 G (some (.int)) "cacheAge" := ⟨hL, C, E0, hr, hnm, hex, hfl⟩
  have C : Cx X K cX10_cacheAge 4 RX10 2 43 := C
  unfold wX10_cacheAge at h
  refine r_aloadR_n C 0 dX10_cacheAge_0 rfl rfl ?_
  refine r_iconst C 0 dX10_cacheAge_1 (by decide) ?_
  obtain ⟨ht, h⟩ := h
  refine r_putI C cw_11 fp_RX10_36 rfl ht dX10_cacheAge_2 ?_
  refine r_nm (fun G1 hG1 => ?_)
  replace h := h G1 hG1
  refine r_iload_n C 1 dX10_cacheAge_5 rfl rfl ?_
  refine r_iload_n C 2 dX10_cacheAge_6 rfl rfl ?_
  refine r_callS C hL yw_X10_isRegister sw_RX10_51 rfl rfl (Nat.le_of_ble_eq_true rfl) ⟨(Nat.le_of_ble_eq_true rfl), (Nat.le_of_ble_eq_true rfl)⟩ (mX10_isRegister hfl h) rfl dX10_cacheAge_7 (kI (fun r2 G3 h => ?_)) kN
  refine r_if_ne C 19 dX10_cacheAge_10 (by decide) (fun c => ?_) (fun c => ?_)
  · replace h := h.1 c
    refine r_iload_n C 1 dX10_cacheAge_19 rfl rfl ?_
    refine r_iload_n C 2 dX10_cacheAge_20 rfl rfl ?_
    refine r_callS C hL yw_X10_cacheAt sw_RX10_79 rfl rfl (Nat.le_of_ble_eq_true rfl) ⟨(Nat.le_of_ble_eq_true rfl), (Nat.le_of_ble_eq_true rfl)⟩ (mX10_cacheAt hfl h) rfl dX10_cacheAge_21 (kI (fun r24 G25 h => ?_)) kN
    refine r_istore_n C 3 (lv' := [some (.ref a0), some (.int x1), some (.int x2), some (.int r24)]) dX10_cacheAge_24 rfl (Nat.le_of_ble_eq_true rfl) rfl rfl ?_
    refine r_aloadR_n C 0 dX10_cacheAge_25 rfl rfl ?_
    obtain ⟨ht, h⟩ := h
    obtain ⟨b26, hb, h⟩ := h
    refine r_getR C fw_RX10_7 rfl ht hb dX10_cacheAge_26 ?_
    refine r_iload_n C 3 dX10_cacheAge_29 rfl rfl ?_
    obtain ⟨ht, hi, h⟩ := h
    refine r_ialdP C ht hi dX10_cacheAge_30 ?_
    refine r_iconst C 1 dX10_cacheAge_31 (by decide) ?_
    refine r_icmp_ne C 53 dX10_cacheAge_32 (by decide) (fun c => ?_) (fun c => ?_)
    · replace h := h.1 c
      refine r_iconst C (-1) dX10_cacheAge_53 (by decide) ?_
      exact r_iret C E0 hr ⟨_, rfl, h⟩ dX10_cacheAge_54
    · replace h := h.2 c
      refine r_aloadR_n C 0 dX10_cacheAge_35 rfl rfl ?_
      obtain ⟨ht, h⟩ := h
      obtain ⟨b67, hb, h⟩ := h
      refine r_getR C fw_RX10_7 rfl ht hb dX10_cacheAge_36 ?_
      refine r_iconst C 0 dX10_cacheAge_39 (by decide) ?_
      obtain ⟨ht, hi, h⟩ := h
      refine r_ialdP C ht hi dX10_cacheAge_40 ?_
      refine r_aloadR_n C 0 dX10_cacheAge_41 rfl rfl ?_
      obtain ⟨ht, h⟩ := h
      obtain ⟨b68, hb, h⟩ := h
      refine r_getR C fw_RX10_7 rfl ht hb dX10_cacheAge_42 ?_
      refine r_iload_n C 3 dX10_cacheAge_45 rfl rfl ?_
      refine r_iconst C 2 dX10_cacheAge_46 (by decide) ?_
      refine r_iadd C dX10_cacheAge_47 ?_
      obtain ⟨ht, hi, h⟩ := h
      refine r_ialdP C ht hi dX10_cacheAge_48 ?_
      refine r_isub C dX10_cacheAge_49 ?_
      refine r_goto C 54 dX10_cacheAge_50 (by decide) ?_
      exact r_iret C E0 hr ⟨_, rfl, h⟩ dX10_cacheAge_54
  · replace h := h.2 c
    refine r_aloadR_n C 0 dX10_cacheAge_13 rfl rfl ?_
    refine r_iconst C 1 dX10_cacheAge_14 (by decide) ?_
    obtain ⟨ht, h⟩ := h
    refine r_callV C (r := (RX10, TX10, 19)) hL yw_X10_fails vw_RX10_43 rfl rfl ht rfl rfl (Nat.le_of_ble_eq_true rfl) ⟨(Nat.le_of_ble_eq_true rfl), (Nat.le_of_ble_eq_true rfl)⟩ (mX10_fails hfl h) rfl dX10_cacheAge_15 (kI (fun r44 G45 h => ?_)) kN
    exact r_iret C E0 hr ⟨_, rfl, h⟩ dX10_cacheAge_18
def wX10_cachedAt (X : Xt) (G : Gt) (a0 : Nat) (x1 : Int32) (x2 : Int32) (Pr : Int32 → Gt → Prop) : Prop := wX10_cacheAt X G x1 x2 (fun r1 G2 => gT G2 a0 = (1, 11) ∧ ∃ b3, gR G2 352 a0 = some b3 ∧ (gT G2 b3).1 = 2 ∧ vp_in r1 (gT G2 b3).2 ∧ (¬ (gA G2 b3 r1.toNatClampNeg) = 1 → Pr (-1) G2) ∧ ((gA G2 b3 r1.toNatClampNeg) = 1 → gT G2 a0 = (1, 11) ∧ ∃ b44, gR G2 352 a0 = some b44 ∧ (gT G2 b44).1 = 2 ∧ vp_in (r1 + 1) (gT G2 b44).2 ∧ Pr (gA G2 b44 (r1 + 1).toNatClampNeg) G2))
set_option maxRecDepth 20000 in
theorem mX10_cachedAt {X : Xt} {l : Launch} (hfl : l.stackTraces = false) {G : Gt} {a0 : Nat} {x1 : Int32} {x2 : Int32} {Pr : Int32 → Gt → Prop} (h : wX10_cachedAt X G a0 x1 x2 Pr) : Mc X l yX10_cachedAt (.code yX10_cachedAt cX10_cachedAt 4 (some (.int))) 2 42 [.ref a0, .int x1, .int x2] G (rI Pr) noX := by
  refine Mc.of (by decide +kernel) hfl [some (.ref a0), some (.int x1), some (.int x2), none] rfl (Nat.le_of_ble_eq_true rfl) rfl ?_
  intro K hL C E0 hr hnm hex
  have B : BX X K l cX10_cachedAt 4 RX10 2 42 G (some (.int)) "cachedAt" := ⟨hL, C, E0, hr, hnm, hex, hfl⟩
  have C : Cx X K cX10_cachedAt 4 RX10 2 42 := C
  unfold wX10_cachedAt at h
  refine r_iload_n C 1 dX10_cachedAt_0 rfl rfl ?_
  refine r_iload_n C 2 dX10_cachedAt_1 rfl rfl ?_
  refine r_callS C hL yw_X10_cacheAt sw_RX10_79 rfl rfl (Nat.le_of_ble_eq_true rfl) ⟨(Nat.le_of_ble_eq_true rfl), (Nat.le_of_ble_eq_true rfl)⟩ (mX10_cacheAt hfl h) rfl dX10_cachedAt_2 (kI (fun r1 G2 h => ?_)) kN
  refine r_istore_n C 3 (lv' := [some (.ref a0), some (.int x1), some (.int x2), some (.int r1)]) dX10_cachedAt_5 rfl (Nat.le_of_ble_eq_true rfl) rfl rfl ?_
  refine r_aloadR_n C 0 dX10_cachedAt_6 rfl rfl ?_
  obtain ⟨ht, h⟩ := h
  obtain ⟨b3, hb, h⟩ := h
  refine r_getR C fw_RX10_7 rfl ht hb dX10_cachedAt_7 ?_
  refine r_iload_n C 3 dX10_cachedAt_10 rfl rfl ?_
  obtain ⟨ht, hi, h⟩ := h
  refine r_ialdP C ht hi dX10_cachedAt_11 ?_
  refine r_iconst C 1 dX10_cachedAt_12 (by decide) ?_
  refine r_icmp_ne C 27 dX10_cachedAt_13 (by decide) (fun c => ?_) (fun c => ?_)
  · replace h := h.1 c
    refine r_iconst C (-1) dX10_cachedAt_27 (by decide) ?_
    exact r_iret C E0 hr ⟨_, rfl, h⟩ dX10_cachedAt_28
  · replace h := h.2 c
    refine r_aloadR_n C 0 dX10_cachedAt_16 rfl rfl ?_
    obtain ⟨ht, h⟩ := h
    obtain ⟨b44, hb, h⟩ := h
    refine r_getR C fw_RX10_7 rfl ht hb dX10_cachedAt_17 ?_
    refine r_iload_n C 3 dX10_cachedAt_20 rfl rfl ?_
    refine r_iconst C 1 dX10_cachedAt_21 (by decide) ?_
    refine r_iadd C dX10_cachedAt_22 ?_
    obtain ⟨ht, hi, h⟩ := h
    refine r_ialdP C ht hi dX10_cachedAt_23 ?_
    refine r_goto C 28 dX10_cachedAt_24 (by decide) ?_
    exact r_iret C E0 hr ⟨_, rfl, h⟩ dX10_cachedAt_28
def wX10_cached (X : Xt) (G : Gt) (a0 : Nat) (x1 : Int32) (x2 : Int32) (Pr : Int32 → Gt → Prop) : Prop := gT G a0 = (1, 11) ∧ ∀ G1, G1 = sI G 354 a0 0 → wX10_isRegister X G1 x1 x2 (fun r2 G3 => (r2 = 0 → gT G3 a0 = (1, 11) ∧ wX10_fails X G3 a0 1 (fun r24 G25 => Pr r24 G25)) ∧ (¬ (r2 = 0) → gT G3 a0 = (1, 11) ∧ wX10_cachedAt X G3 a0 x1 x2 (fun r44 G45 => Pr r44 G45)))
set_option maxRecDepth 20000 in
theorem mX10_cached {X : Xt} {l : Launch} (hfl : l.stackTraces = false) {G : Gt} {a0 : Nat} {x1 : Int32} {x2 : Int32} {Pr : Int32 → Gt → Prop} (h : wX10_cached X G a0 x1 x2 Pr) : Mc X l yX10_cached (.code yX10_cached cX10_cached 3 (some (.int))) 3 65 [.ref a0, .int x1, .int x2] G (rI Pr) noX := by
  refine Mc.of (by decide +kernel) hfl [some (.ref a0), some (.int x1), some (.int x2)] rfl (Nat.le_of_ble_eq_true rfl) rfl ?_
  intro K hL C E0 hr hnm hex
  have B : BX X K l cX10_cached 3 RX10 3 65 G (some (.int)) "cached" := ⟨hL, C, E0, hr, hnm, hex, hfl⟩
  have C : Cx X K cX10_cached 3 RX10 3 65 := C
  unfold wX10_cached at h
  refine r_aloadR_n C 0 dX10_cached_0 rfl rfl ?_
  refine r_iconst C 0 dX10_cached_1 (by decide) ?_
  obtain ⟨ht, h⟩ := h
  refine r_putI C cw_11 fp_RX10_36 rfl ht dX10_cached_2 ?_
  refine r_nm (fun G1 hG1 => ?_)
  replace h := h G1 hG1
  refine r_iload_n C 1 dX10_cached_5 rfl rfl ?_
  refine r_iload_n C 2 dX10_cached_6 rfl rfl ?_
  refine r_callS C hL yw_X10_isRegister sw_RX10_51 rfl rfl (Nat.le_of_ble_eq_true rfl) ⟨(Nat.le_of_ble_eq_true rfl), (Nat.le_of_ble_eq_true rfl)⟩ (mX10_isRegister hfl h) rfl dX10_cached_7 (kI (fun r2 G3 h => ?_)) kN
  refine r_if_eq C 22 dX10_cached_10 (by decide) (fun c => ?_) (fun c => ?_)
  · replace h := h.1 c
    refine r_aloadR_n C 0 dX10_cached_22 rfl rfl ?_
    refine r_iconst C 1 dX10_cached_23 (by decide) ?_
    obtain ⟨ht, h⟩ := h
    refine r_callV C (r := (RX10, TX10, 19)) hL yw_X10_fails vw_RX10_43 rfl rfl ht rfl rfl (Nat.le_of_ble_eq_true rfl) ⟨(Nat.le_of_ble_eq_true rfl), (Nat.le_of_ble_eq_true rfl)⟩ (mX10_fails hfl h) rfl dX10_cached_24 (kI (fun r24 G25 h => ?_)) kN
    exact r_iret C E0 hr ⟨_, rfl, h⟩ dX10_cached_27
  · replace h := h.2 c
    refine r_aloadR_n C 0 dX10_cached_13 rfl rfl ?_
    refine r_iload_n C 1 dX10_cached_14 rfl rfl ?_
    refine r_iload_n C 2 dX10_cached_15 rfl rfl ?_
    obtain ⟨ht, h⟩ := h
    refine r_callV C (r := (RX10, TX10, 19)) hL yw_X10_cachedAt vw_RX10_202 rfl rfl ht rfl rfl (Nat.le_of_ble_eq_true rfl) ⟨(Nat.le_of_ble_eq_true rfl), (Nat.le_of_ble_eq_true rfl)⟩ (mX10_cachedAt hfl h) rfl dX10_cached_16 (kI (fun r44 G45 h => ?_)) kN
    refine r_goto C 27 dX10_cached_19 (by decide) ?_
    exact r_iret C E0 hr ⟨_, rfl, h⟩ dX10_cached_27
def wX10_clearCache_9 (X : Xt) (Pr : Int32 → Gt → Prop) (k9 : Gt → Nat → Int32 → Int32 → Prop) (G : Gt) (a0 : Nat) (x1 : Int32) (x2 : Int32) : Prop := (96 ≤ x2 → Pr x1 G) ∧ (¬ (96 ≤ x2) → gT G a0 = (1, 11) ∧ ∃ b41, gR G 352 a0 = some b41 ∧ (gT G b41).1 = 2 ∧ vp_in (1400 + (3 * x2)) (gT G b41).2 ∧ gT G a0 = (1, 11) ∧ ∃ b42, gR G 352 a0 = some b42 ∧ (gT G b42).1 = 2 ∧ vp_in (1400 + (3 * x2)) (gT G b42).2 ∧ ∀ G43, G43 = sA G b42 (upd (gA G b42) (1400 + (3 * x2)).toNatClampNeg 0) → k9 G43 a0 (x1 + (gA G b41 (1400 + (3 * x2)).toNatClampNeg)) (x2 + 1))
set_option maxRecDepth 20000 in
theorem bX10_clearCache_9 {X : Xt} {K : Kt} {l : Launch} {G0 : Gt} {Pr : Int32 → Gt → Prop} (B : BX X K l cX10_clearCache 3 RX10 0 0 G0 (some (.int)) "clearCache") {k9 : Gt → Nat → Int32 → Int32 → Prop} (hk9 : ∀ (G : Gt) (a0 : Nat) (x1 : Int32) (x2 : Int32), k9 G a0 x1 x2 → WM X K (QM X K G0 (rI Pr) noX) G 9 [some (.ref a0), some (.int x1), some (.int x2)] []) {G : Gt} {a0 : Nat} {x1 : Int32} {x2 : Int32} (h : wX10_clearCache_9 X Pr k9 G a0 x1 x2) : WM X K (QM X K G0 (rI Pr) noX) G 9 [some (.ref a0), some (.int x1), some (.int x2)] [] := by
  obtain ⟨hL, C, E0, hr, hnm, hex, hfl⟩ := id B
  unfold wX10_clearCache_9 at h
  refine r_iload_n C 2 dX10_clearCache_9 rfl rfl ?_
  refine r_bipush C 96 dX10_clearCache_10 (by decide) ?_
  refine r_icmp_ge C 49 dX10_clearCache_12 (by decide) (fun c => ?_) (fun c => ?_)
  · replace h := h.1 c
    refine r_iload_n C 1 dX10_clearCache_49 rfl rfl ?_
    exact r_iret C E0 hr ⟨_, rfl, h⟩ dX10_clearCache_50
  · replace h := h.2 c
    refine r_iload_n C 1 dX10_clearCache_15 rfl rfl ?_
    refine r_aloadR_n C 0 dX10_clearCache_16 rfl rfl ?_
    obtain ⟨ht, h⟩ := h
    obtain ⟨b41, hb, h⟩ := h
    refine r_getR C fw_RX10_7 rfl ht hb dX10_clearCache_17 ?_
    refine r_sipush C 1400 dX10_clearCache_20 (by decide) ?_
    refine r_iconst C 3 dX10_clearCache_23 (by decide) ?_
    refine r_iload_n C 2 dX10_clearCache_24 rfl rfl ?_
    refine r_imul C dX10_clearCache_25 ?_
    refine r_iadd C dX10_clearCache_26 ?_
    obtain ⟨ht, hi, h⟩ := h
    refine r_ialdP C ht hi dX10_clearCache_27 ?_
    refine r_iadd C dX10_clearCache_28 ?_
    refine r_istore_n C 1 (lv' := [some (.ref a0), some (.int (x1 + (gA G b41 (1400 + (3 * x2)).toNatClampNeg))), some (.int x2)]) dX10_clearCache_29 rfl (Nat.le_of_ble_eq_true rfl) rfl rfl ?_
    refine r_aloadR_n C 0 dX10_clearCache_30 rfl rfl ?_
    obtain ⟨ht, h⟩ := h
    obtain ⟨b42, hb, h⟩ := h
    refine r_getR C fw_RX10_7 rfl ht hb dX10_clearCache_31 ?_
    refine r_sipush C 1400 dX10_clearCache_34 (by decide) ?_
    refine r_iconst C 3 dX10_clearCache_37 (by decide) ?_
    refine r_iload_n C 2 dX10_clearCache_38 rfl rfl ?_
    refine r_imul C dX10_clearCache_39 ?_
    refine r_iadd C dX10_clearCache_40 ?_
    refine r_iconst C 0 dX10_clearCache_41 (by decide) ?_
    obtain ⟨ht, hi, h⟩ := h
    refine r_iastP C ht hi dX10_clearCache_42 ?_
    refine r_nm (fun G43 hG43 => ?_)
    replace h := h G43 hG43
    refine r_iinc C 1 (lv' := [some (.ref a0), some (.int (x1 + (gA G b41 (1400 + (3 * x2)).toNatClampNeg))), some (.int (x2 + 1))]) dX10_clearCache_43 rfl (by decide) rfl rfl ?_
    refine r_goto C 9 dX10_clearCache_46 (by decide) ?_
    exact hk9 _ _ _ _ h
theorem lX10_clearCache_9 {X : Xt} {K : Kt} {l : Launch} {G0 : Gt} {Pr : Int32 → Gt → Prop} (B : BX X K l cX10_clearCache 3 RX10 0 0 G0 (some (.int)) "clearCache") (I : Gt → Nat → Int32 → Int32 → Prop) (μ : Gt → Nat → Int32 → Int32 → Nat) (hS : ∀ (G : Gt) (a0 : Nat) (x1 : Int32) (x2 : Int32), I G a0 x1 x2 → wX10_clearCache_9 X Pr (fun G' a0' x1' x2' => I G' a0' x1' x2' ∧ μ G' a0' x1' x2' < μ G a0 x1 x2) G a0 x1 x2) : ∀ (n : Nat) (G : Gt) (a0 : Nat) (x1 : Int32) (x2 : Int32), μ G a0 x1 x2 < n → I G a0 x1 x2 → WM X K (QM X K G0 (rI Pr) noX) G 9 [some (.ref a0), some (.int x1), some (.int x2)] [] := by
  intro n
  induction n with
  | zero => intro G a0 x1 x2 hm; exact absurd hm (Nat.not_lt_zero _)
  | succ n ih =>
    intro G a0 x1 x2 hm hi
    exact bX10_clearCache_9 B (fun G' a0' x1' x2' hk => ih G' a0' x1' x2' (Nat.lt_of_lt_of_le hk.2 (Nat.le_of_lt_succ hm)) hk.1) (hS G a0 x1 x2 hi)
def wX10_clearCache (X : Xt) (G : Gt) (a0 : Nat) (Pr : Int32 → Gt → Prop) : Prop := gT G a0 = (1, 11) ∧ ∀ G1, G1 = sI G 354 a0 0 → ∃ (I : Gt → Nat → Int32 → Int32 → Prop) (μ : Gt → Nat → Int32 → Int32 → Nat), I G1 a0 (0 : Int32) (0 : Int32) ∧ ∀ (G : Gt) (a0 : Nat) (x1 : Int32) (x2 : Int32), I G a0 x1 x2 → wX10_clearCache_9 X Pr (fun G' a0' x1' x2' => I G' a0' x1' x2' ∧ μ G' a0' x1' x2' < μ G a0 x1 x2) G a0 x1 x2
set_option maxRecDepth 20000 in
theorem mX10_clearCache {X : Xt} {l : Launch} (hfl : l.stackTraces = false) {G : Gt} {a0 : Nat} {Pr : Int32 → Gt → Prop} (h : wX10_clearCache X G a0 Pr) : Mc X l yX10_clearCache (.code yX10_clearCache cX10_clearCache 3 (some (.int))) 0 0 [.ref a0] G (rI Pr) noX := by
  refine Mc.of (by decide +kernel) hfl [some (.ref a0), none, none] rfl (Nat.le_of_ble_eq_true rfl) rfl ?_
  intro K hL C E0 hr hnm hex
  have B : BX X K l cX10_clearCache 3 RX10 0 0 G (some (.int)) "clearCache" := ⟨hL, C, E0, hr, hnm, hex, hfl⟩
  have C : Cx X K cX10_clearCache 3 RX10 0 0 := C
  unfold wX10_clearCache at h
  refine r_aloadR_n C 0 dX10_clearCache_0 rfl rfl ?_
  refine r_iconst C 0 dX10_clearCache_1 (by decide) ?_
  obtain ⟨ht, h⟩ := h
  refine r_putI C cw_11 fp_RX10_36 rfl ht dX10_clearCache_2 ?_
  refine r_nm (fun G1 hG1 => ?_)
  replace h := h G1 hG1
  refine r_iconst C 0 dX10_clearCache_5 (by decide) ?_
  refine r_istore_n C 1 (lv' := [some (.ref a0), some (.int 0), none]) dX10_clearCache_6 rfl (Nat.le_of_ble_eq_true rfl) rfl rfl ?_
  refine r_iconst C 0 dX10_clearCache_7 (by decide) ?_
  refine r_istore_n C 2 (lv' := [some (.ref a0), some (.int 0), some (.int 0)]) dX10_clearCache_8 rfl (Nat.le_of_ble_eq_true rfl) rfl rfl ?_
  obtain ⟨I, μ, hI, hS⟩ := h
  exact lX10_clearCache_9 B I μ hS _ _ _ _ _ (Nat.lt_succ_self _) hI
def wX10_count_15 (X : Xt) (Pr : Int32 → Gt → Prop) (G : Gt) (a0 : Nat) (x1 : Int32) (sa0 : Nat) (sx1 : Int32) : Prop := gT G sa0 = (1, 11) ∧ ∀ G1, G1 = sI G 354 sa0 sx1 → gT G1 a0 = (1, 11) ∧ (¬ (gI G1 354 a0) = 0 → Pr 0 G1) ∧ ((gI G1 354 a0) = 0 → gT G1 a0 = (1, 11) ∧ ∃ b42, gR G1 352 a0 = some b42 ∧ (gT G1 b42).1 = 2 ∧ vp_in (10 + x1) (gT G1 b42).2 ∧ Pr (gA G1 b42 (10 + x1).toNatClampNeg) G1)
set_option maxRecDepth 20000 in
theorem bX10_count_15 {X : Xt} {K : Kt} {l : Launch} {G0 : Gt} {Pr : Int32 → Gt → Prop} (B : BX X K l cX10_count 2 RX10 1 22 G0 (some (.int)) "count") {G : Gt} {a0 : Nat} {x1 : Int32} {sa0 : Nat} {sx1 : Int32} (h : wX10_count_15 X Pr G a0 x1 sa0 sx1) : WM X K (QM X K G0 (rI Pr) noX) G 15 [some (.ref a0), some (.int x1)] [.int sx1, .ref sa0] := by
  obtain ⟨hL, C, E0, hr, hnm, hex, hfl⟩ := id B
  unfold wX10_count_15 at h
  obtain ⟨ht, h⟩ := h
  refine r_putI C cw_11 fp_RX10_36 rfl ht dX10_count_15 ?_
  refine r_nm (fun G1 hG1 => ?_)
  replace h := h G1 hG1
  refine r_aloadR_n C 0 dX10_count_18 rfl rfl ?_
  obtain ⟨ht, h⟩ := h
  refine r_getI C fw_RX10_36 rfl ht dX10_count_19 ?_
  refine r_if_ne C 37 dX10_count_22 (by decide) (fun c => ?_) (fun c => ?_)
  · replace h := h.1 c
    refine r_iconst C 0 dX10_count_37 (by decide) ?_
    exact r_iret C E0 hr ⟨_, rfl, h⟩ dX10_count_38
  · replace h := h.2 c
    refine r_aloadR_n C 0 dX10_count_25 rfl rfl ?_
    obtain ⟨ht, h⟩ := h
    obtain ⟨b42, hb, h⟩ := h
    refine r_getR C fw_RX10_7 rfl ht hb dX10_count_26 ?_
    refine r_bipush C 10 dX10_count_29 (by decide) ?_
    refine r_iload_n C 1 dX10_count_31 rfl rfl ?_
    refine r_iadd C dX10_count_32 ?_
    obtain ⟨ht, hi, h⟩ := h
    refine r_ialdP C ht hi dX10_count_33 ?_
    refine r_goto C 38 dX10_count_34 (by decide) ?_
    exact r_iret C E0 hr ⟨_, rfl, h⟩ dX10_count_38
def wX10_count (X : Xt) (G : Gt) (a0 : Nat) (x1 : Int32) (Pr : Int32 → Gt → Prop) : Prop := wX10_in X G x1 0 5 (fun r1 G2 => (r1 = 0 → wX10_count_15 X Pr G2 a0 x1 a0 (1 : Int32)) ∧ (¬ (r1 = 0) → wX10_count_15 X Pr G2 a0 x1 a0 (0 : Int32)))
set_option maxRecDepth 20000 in
theorem mX10_count {X : Xt} {l : Launch} (hfl : l.stackTraces = false) {G : Gt} {a0 : Nat} {x1 : Int32} {Pr : Int32 → Gt → Prop} (h : wX10_count X G a0 x1 Pr) : Mc X l yX10_count (.code yX10_count cX10_count 2 (some (.int))) 1 22 [.ref a0, .int x1] G (rI Pr) noX := by
  refine Mc.of (by decide +kernel) hfl [some (.ref a0), some (.int x1)] rfl (Nat.le_of_ble_eq_true rfl) rfl ?_
  intro K hL C E0 hr hnm hex
  have B : BX X K l cX10_count 2 RX10 1 22 G (some (.int)) "count" := ⟨hL, C, E0, hr, hnm, hex, hfl⟩
  have C : Cx X K cX10_count 2 RX10 1 22 := C
  unfold wX10_count at h
  refine r_aloadR_n C 0 dX10_count_0 rfl rfl ?_
  refine r_iload_n C 1 dX10_count_1 rfl rfl ?_
  refine r_iconst C 0 dX10_count_2 (by decide) ?_
  refine r_iconst C 5 dX10_count_3 (by decide) ?_
  refine r_callS C hL yw_X10_in sw_RX10_39 rfl rfl (Nat.le_of_ble_eq_true rfl) ⟨(Nat.le_of_ble_eq_true rfl), (Nat.le_of_ble_eq_true rfl)⟩ (mX10_in hfl h) rfl dX10_count_4 (kI (fun r1 G2 h => ?_)) kN
  refine r_if_eq C 14 dX10_count_7 (by decide) (fun c => ?_) (fun c => ?_)
  · replace h := h.1 c
    refine r_iconst C 1 dX10_count_14 (by decide) ?_
    exact bX10_count_15 B h
  · replace h := h.2 c
    refine r_iconst C 0 dX10_count_10 (by decide) ?_
    refine r_goto C 15 dX10_count_11 (by decide) ?_
    exact bX10_count_15 B h
def wX10_copies_2 (X : Xt) (Pr : Gt → Prop) (k2 : Gt → Nat → Nat → Int32 → Prop) (G : Gt) (a0 : Nat) (a1 : Nat) (x2 : Int32) : Prop := (8900 ≤ x2 → Pr G) ∧ (¬ (8900 ≤ x2) → (gT G a0).1 = 2 ∧ vp_in x2 (gT G a0).2 ∧ (gT G a1).1 = 2 ∧ vp_in x2 (gT G a1).2 ∧ ∀ G41, G41 = sA G a1 (upd (gA G a1) x2.toNatClampNeg (gA G a0 x2.toNatClampNeg)) → k2 G41 a0 a1 (x2 + 1))
set_option maxRecDepth 20000 in
theorem bX10_copies_2 {X : Xt} {K : Kt} {l : Launch} {G0 : Gt} {Pr : Gt → Prop} (B : BX X K l cX10_copies 3 RX10 0 0 G0 none "copies") {k2 : Gt → Nat → Nat → Int32 → Prop} (hk2 : ∀ (G : Gt) (a0 : Nat) (a1 : Nat) (x2 : Int32), k2 G a0 a1 x2 → WM X K (QM X K G0 (rV Pr) noX) G 2 [some (.ref a0), some (.ref a1), some (.int x2)] []) {G : Gt} {a0 : Nat} {a1 : Nat} {x2 : Int32} (h : wX10_copies_2 X Pr k2 G a0 a1 x2) : WM X K (QM X K G0 (rV Pr) noX) G 2 [some (.ref a0), some (.ref a1), some (.int x2)] [] := by
  obtain ⟨hL, C, E0, hr, hnm, hex, hfl⟩ := id B
  unfold wX10_copies_2 at h
  refine r_iload_n C 2 dX10_copies_2 rfl rfl ?_
  refine r_sipush C 8900 dX10_copies_3 (by decide) ?_
  refine r_icmp_ge C 21 dX10_copies_6 (by decide) (fun c => ?_) (fun c => ?_)
  · replace h := h.1 c
    exact r_vret C E0 hr ⟨rfl, h⟩ dX10_copies_21
  · replace h := h.2 c
    refine r_aloadR_n C 1 dX10_copies_9 rfl rfl ?_
    refine r_iload_n C 2 dX10_copies_10 rfl rfl ?_
    refine r_aloadR_n C 0 dX10_copies_11 rfl rfl ?_
    refine r_iload_n C 2 dX10_copies_12 rfl rfl ?_
    obtain ⟨ht, hi, h⟩ := h
    refine r_ialdP C ht hi dX10_copies_13 ?_
    obtain ⟨ht, hi, h⟩ := h
    refine r_iastP C ht hi dX10_copies_14 ?_
    refine r_nm (fun G41 hG41 => ?_)
    replace h := h G41 hG41
    refine r_iinc C 1 (lv' := [some (.ref a0), some (.ref a1), some (.int (x2 + 1))]) dX10_copies_15 rfl (by decide) rfl rfl ?_
    refine r_goto C 2 dX10_copies_18 (by decide) ?_
    exact hk2 _ _ _ _ h
theorem lX10_copies_2 {X : Xt} {K : Kt} {l : Launch} {G0 : Gt} {Pr : Gt → Prop} (B : BX X K l cX10_copies 3 RX10 0 0 G0 none "copies") (I : Gt → Nat → Nat → Int32 → Prop) (μ : Gt → Nat → Nat → Int32 → Nat) (hS : ∀ (G : Gt) (a0 : Nat) (a1 : Nat) (x2 : Int32), I G a0 a1 x2 → wX10_copies_2 X Pr (fun G' a0' a1' x2' => I G' a0' a1' x2' ∧ μ G' a0' a1' x2' < μ G a0 a1 x2) G a0 a1 x2) : ∀ (n : Nat) (G : Gt) (a0 : Nat) (a1 : Nat) (x2 : Int32), μ G a0 a1 x2 < n → I G a0 a1 x2 → WM X K (QM X K G0 (rV Pr) noX) G 2 [some (.ref a0), some (.ref a1), some (.int x2)] [] := by
  intro n
  induction n with
  | zero => intro G a0 a1 x2 hm; exact absurd hm (Nat.not_lt_zero _)
  | succ n ih =>
    intro G a0 a1 x2 hm hi
    exact bX10_copies_2 B (fun G' a0' a1' x2' hk => ih G' a0' a1' x2' (Nat.lt_of_lt_of_le hk.2 (Nat.le_of_lt_succ hm)) hk.1) (hS G a0 a1 x2 hi)
def wX10_copies (X : Xt) (G : Gt) (a0 : Nat) (a1 : Nat) (Pr : Gt → Prop) : Prop := ∃ (I : Gt → Nat → Nat → Int32 → Prop) (μ : Gt → Nat → Nat → Int32 → Nat), I G a0 a1 (0 : Int32) ∧ ∀ (G : Gt) (a0 : Nat) (a1 : Nat) (x2 : Int32), I G a0 a1 x2 → wX10_copies_2 X Pr (fun G' a0' a1' x2' => I G' a0' a1' x2' ∧ μ G' a0' a1' x2' < μ G a0 a1 x2) G a0 a1 x2
set_option maxRecDepth 20000 in
theorem mX10_copies {X : Xt} {l : Launch} (hfl : l.stackTraces = false) {G : Gt} {a0 : Nat} {a1 : Nat} {Pr : Gt → Prop} (h : wX10_copies X G a0 a1 Pr) : Mc X l yX10_copies (.code yX10_copies cX10_copies 3 none) 0 0 [.ref a0, .ref a1] G (rV Pr) noX := by
  refine Mc.of (by decide +kernel) hfl [some (.ref a0), some (.ref a1), none] rfl (Nat.le_of_ble_eq_true rfl) rfl ?_
  intro K hL C E0 hr hnm hex
  have B : BX X K l cX10_copies 3 RX10 0 0 G none "copies" := ⟨hL, C, E0, hr, hnm, hex, hfl⟩
  have C : Cx X K cX10_copies 3 RX10 0 0 := C
  unfold wX10_copies at h
  refine r_iconst C 0 dX10_copies_0 (by decide) ?_
  refine r_istore_n C 2 (lv' := [some (.ref a0), some (.ref a1), some (.int 0)]) dX10_copies_1 rfl (Nat.le_of_ble_eq_true rfl) rfl rfl ?_
  obtain ⟨I, μ, hI, hS⟩ := h
  exact lX10_copies_2 B I μ hS _ _ _ _ _ (Nat.lt_succ_self _) hI
def wX10_leastDrain_36 (X : Xt) (Pr : Int32 → Gt → Prop) (k36 : Gt → Nat → Int32 → Int32 → Int32 → Prop) (G : Gt) (a0 : Nat) (x1 : Int32) (x2 : Int32) (x3 : Int32) : Prop := (x1 < x3 → Pr x2 G) ∧ (¬ (x1 < x3) → (0 ≤ x2 → Pr x2 G) ∧ (¬ (0 ≤ x2) → gT G a0 = (1, 11) ∧ ∃ b81, gR G 352 a0 = some b81 ∧ (gT G b81).1 = 2 ∧ vp_in 12 (gT G b81).2 ∧ gT G a0 = (1, 11) ∧ ∃ b82, gR G 352 a0 = some b82 ∧ (gT G b82).1 = 2 ∧ vp_in 4 (gT G b82).2 ∧ ∀ G83, G83 = sA G b82 (upd (gA G b82) (4 : Int32).toNatClampNeg x3) → gT G83 a0 = (1, 11) ∧ wX10_stepsAll X G83 a0 (fun G84 => gT G84 a0 = (1, 11) ∧ ∃ b85, gR G84 352 a0 = some b85 ∧ (gT G84 b85).1 = 2 ∧ vp_in 12 (gT G84 b85).2 ∧ (¬ (gA G84 b85 (12 : Int32).toNatClampNeg) = (gA G b81 (12 : Int32).toNatClampNeg) → gT G84 a0 = (1, 11) ∧ ∃ b106, gR G84 353 a0 = some b106 ∧ gT G84 a0 = (1, 11) ∧ ∃ b107, gR G84 352 a0 = some b107 ∧ wX10_copies X G84 b106 b107 (fun G108 => k36 G108 a0 x1 ((-1) : Int32) (x3 + 1))) ∧ ((gA G84 b85 (12 : Int32).toNatClampNeg) = (gA G b81 (12 : Int32).toNatClampNeg) → gT G84 a0 = (1, 11) ∧ ∃ b126, gR G84 353 a0 = some b126 ∧ gT G84 a0 = (1, 11) ∧ ∃ b127, gR G84 352 a0 = some b127 ∧ wX10_copies X G84 b126 b127 (fun G128 => k36 G128 a0 x1 x3 (x3 + 1))))))
set_option maxRecDepth 20000 in
theorem bX10_leastDrain_36 {X : Xt} {K : Kt} {l : Launch} {G0 : Gt} {Pr : Int32 → Gt → Prop} (B : BX X K l cX10_leastDrain 5 RX10 8 182 G0 (some (.int)) "leastDrain") {k36 : Gt → Nat → Int32 → Int32 → Int32 → Prop} (hk36 : ∀ (G : Gt) (a0 : Nat) (x1 : Int32) (x2 : Int32) (x3 : Int32), k36 G a0 x1 x2 x3 → WM X K (QM X K G0 (rI Pr) noX) G 36 [some (.ref a0), some (.int x1), some (.int x2), some (.int x3), none] []) {G : Gt} {a0 : Nat} {x1 : Int32} {x2 : Int32} {x3 : Int32} (h : wX10_leastDrain_36 X Pr k36 G a0 x1 x2 x3) : WM X K (QM X K G0 (rI Pr) noX) G 36 [some (.ref a0), some (.int x1), some (.int x2), some (.int x3), none] [] := by
  obtain ⟨hL, C, E0, hr, hnm, hex, hfl⟩ := id B
  unfold wX10_leastDrain_36 at h
  refine r_iload_n C 3 dX10_leastDrain_36 rfl rfl ?_
  refine r_iload_n C 1 dX10_leastDrain_37 rfl rfl ?_
  refine r_icmp_gt C 100 dX10_leastDrain_38 (by decide) (fun c => ?_) (fun c => ?_)
  · replace h := h.1 c
    refine r_iload_n C 2 dX10_leastDrain_100 rfl rfl ?_
    exact r_iret C E0 hr ⟨_, rfl, h⟩ dX10_leastDrain_101
  · replace h := h.2 c
    refine r_iload_n C 2 dX10_leastDrain_41 rfl rfl ?_
    refine r_if_ge C 100 dX10_leastDrain_42 (by decide) (fun c => ?_) (fun c => ?_)
    · replace h := h.1 c
      refine r_iload_n C 2 dX10_leastDrain_100 rfl rfl ?_
      exact r_iret C E0 hr ⟨_, rfl, h⟩ dX10_leastDrain_101
    · replace h := h.2 c
      refine r_aloadR_n C 0 dX10_leastDrain_45 rfl rfl ?_
      obtain ⟨ht, h⟩ := h
      obtain ⟨b81, hb, h⟩ := h
      refine r_getR C fw_RX10_7 rfl ht hb dX10_leastDrain_46 ?_
      refine r_bipush C 12 dX10_leastDrain_49 (by decide) ?_
      obtain ⟨ht, hi, h⟩ := h
      refine r_ialdP C ht hi dX10_leastDrain_51 ?_
      refine r_istore C (lv' := [some (.ref a0), some (.int x1), some (.int x2), some (.int x3), some (.int (gA G b81 (12 : Int32).toNatClampNeg))]) dX10_leastDrain_52 (Nat.le_of_ble_eq_true rfl) rfl rfl ?_
      refine r_aloadR_n C 0 dX10_leastDrain_54 rfl rfl ?_
      obtain ⟨ht, h⟩ := h
      obtain ⟨b82, hb, h⟩ := h
      refine r_getR C fw_RX10_7 rfl ht hb dX10_leastDrain_55 ?_
      refine r_iconst C 4 dX10_leastDrain_58 (by decide) ?_
      refine r_iload_n C 3 dX10_leastDrain_59 rfl rfl ?_
      obtain ⟨ht, hi, h⟩ := h
      refine r_iastP C ht hi dX10_leastDrain_60 ?_
      refine r_nm (fun G83 hG83 => ?_)
      replace h := h G83 hG83
      refine r_aloadR_n C 0 dX10_leastDrain_61 rfl rfl ?_
      obtain ⟨ht, h⟩ := h
      refine r_callV C (r := (RX10, TX10, 19)) hL yw_X10_stepsAll vw_RX10_198 rfl rfl ht rfl rfl (Nat.le_of_ble_eq_true rfl) ⟨(Nat.le_of_ble_eq_true rfl), (Nat.le_of_ble_eq_true rfl)⟩ (mX10_stepsAll hfl h) rfl dX10_leastDrain_62 (kV' (fun G84 h => ?_)) kN
      refine r_aloadR_n C 0 dX10_leastDrain_65 rfl rfl ?_
      obtain ⟨ht, h⟩ := h
      obtain ⟨b85, hb, h⟩ := h
      refine r_getR C fw_RX10_7 rfl ht hb dX10_leastDrain_66 ?_
      refine r_bipush C 12 dX10_leastDrain_69 (by decide) ?_
      obtain ⟨ht, hi, h⟩ := h
      refine r_ialdP C ht hi dX10_leastDrain_71 ?_
      refine r_iload C dX10_leastDrain_72 rfl ?_
      refine r_icmp_ne C 81 dX10_leastDrain_74 (by decide) (fun c => ?_) (fun c => ?_)
      · replace h := h.1 c
        refine r_iconst C (-1) dX10_leastDrain_81 (by decide) ?_
        refine r_istore_n C 2 (lv' := [some (.ref a0), some (.int x1), some (.int (-1)), some (.int x3), some (.int (gA G b81 (12 : Int32).toNatClampNeg))]) dX10_leastDrain_82 rfl (Nat.le_of_ble_eq_true rfl) rfl rfl ?_
        refine r_aloadR_n C 0 dX10_leastDrain_83 rfl rfl ?_
        obtain ⟨ht, h⟩ := h
        obtain ⟨b106, hb, h⟩ := h
        refine r_getR C fw_RX10_13 rfl ht hb dX10_leastDrain_84 ?_
        refine r_aloadR_n C 0 dX10_leastDrain_87 rfl rfl ?_
        obtain ⟨ht, h⟩ := h
        obtain ⟨b107, hb, h⟩ := h
        refine r_getR C fw_RX10_7 rfl ht hb dX10_leastDrain_88 ?_
        refine r_callS C hL yw_X10_copies sw_RX10_205 rfl rfl (Nat.le_of_ble_eq_true rfl) ⟨(Nat.le_of_ble_eq_true rfl), (Nat.le_of_ble_eq_true rfl)⟩ (mX10_copies hfl h) rfl dX10_leastDrain_91 (kV' (fun G108 h => ?_)) kN
        refine r_iinc C 1 (lv' := [some (.ref a0), some (.int x1), some (.int (-1)), some (.int (x3 + 1)), some (.int (gA G b81 (12 : Int32).toNatClampNeg))]) dX10_leastDrain_94 rfl (by decide) rfl rfl ?_
        refine r_goto C 36 dX10_leastDrain_97 (by decide) ?_
        refine r_fg (lv' := [some (.ref a0), some (.int x1), some (.int (-1)), some (.int (x3 + 1)), none]) (show fgt _ _ from ⟨rfl, ⟨rfl, ⟨rfl, ⟨rfl, trivial⟩⟩⟩⟩) ?_
        exact hk36 _ _ _ _ _ h
      · replace h := h.2 c
        refine r_iload_n C 3 dX10_leastDrain_77 rfl rfl ?_
        refine r_goto C 82 dX10_leastDrain_78 (by decide) ?_
        refine r_istore_n C 2 (lv' := [some (.ref a0), some (.int x1), some (.int x3), some (.int x3), some (.int (gA G b81 (12 : Int32).toNatClampNeg))]) dX10_leastDrain_82 rfl (Nat.le_of_ble_eq_true rfl) rfl rfl ?_
        refine r_aloadR_n C 0 dX10_leastDrain_83 rfl rfl ?_
        obtain ⟨ht, h⟩ := h
        obtain ⟨b126, hb, h⟩ := h
        refine r_getR C fw_RX10_13 rfl ht hb dX10_leastDrain_84 ?_
        refine r_aloadR_n C 0 dX10_leastDrain_87 rfl rfl ?_
        obtain ⟨ht, h⟩ := h
        obtain ⟨b127, hb, h⟩ := h
        refine r_getR C fw_RX10_7 rfl ht hb dX10_leastDrain_88 ?_
        refine r_callS C hL yw_X10_copies sw_RX10_205 rfl rfl (Nat.le_of_ble_eq_true rfl) ⟨(Nat.le_of_ble_eq_true rfl), (Nat.le_of_ble_eq_true rfl)⟩ (mX10_copies hfl h) rfl dX10_leastDrain_91 (kV' (fun G128 h => ?_)) kN
        refine r_iinc C 1 (lv' := [some (.ref a0), some (.int x1), some (.int x3), some (.int (x3 + 1)), some (.int (gA G b81 (12 : Int32).toNatClampNeg))]) dX10_leastDrain_94 rfl (by decide) rfl rfl ?_
        refine r_goto C 36 dX10_leastDrain_97 (by decide) ?_
        refine r_fg (lv' := [some (.ref a0), some (.int x1), some (.int x3), some (.int (x3 + 1)), none]) (show fgt _ _ from ⟨rfl, ⟨rfl, ⟨rfl, ⟨rfl, trivial⟩⟩⟩⟩) ?_
        exact hk36 _ _ _ _ _ h
theorem lX10_leastDrain_36 {X : Xt} {K : Kt} {l : Launch} {G0 : Gt} {Pr : Int32 → Gt → Prop} (B : BX X K l cX10_leastDrain 5 RX10 8 182 G0 (some (.int)) "leastDrain") (I : Gt → Nat → Int32 → Int32 → Int32 → Prop) (μ : Gt → Nat → Int32 → Int32 → Int32 → Nat) (hS : ∀ (G : Gt) (a0 : Nat) (x1 : Int32) (x2 : Int32) (x3 : Int32), I G a0 x1 x2 x3 → wX10_leastDrain_36 X Pr (fun G' a0' x1' x2' x3' => I G' a0' x1' x2' x3' ∧ μ G' a0' x1' x2' x3' < μ G a0 x1 x2 x3) G a0 x1 x2 x3) : ∀ (n : Nat) (G : Gt) (a0 : Nat) (x1 : Int32) (x2 : Int32) (x3 : Int32), μ G a0 x1 x2 x3 < n → I G a0 x1 x2 x3 → WM X K (QM X K G0 (rI Pr) noX) G 36 [some (.ref a0), some (.int x1), some (.int x2), some (.int x3), none] [] := by
  intro n
  induction n with
  | zero => intro G a0 x1 x2 x3 hm; exact absurd hm (Nat.not_lt_zero _)
  | succ n ih =>
    intro G a0 x1 x2 x3 hm hi
    exact bX10_leastDrain_36 B (fun G' a0' x1' x2' x3' hk => ih G' a0' x1' x2' x3' (Nat.lt_of_lt_of_le hk.2 (Nat.le_of_lt_succ hm)) hk.1) (hS G a0 x1 x2 x3 hi)
def wX10_leastDrain (X : Xt) (G : Gt) (a0 : Nat) (x1 : Int32) (Pr : Int32 → Gt → Prop) : Prop := gT G a0 = (1, 11) ∧ ∀ G1, G1 = sI G 354 a0 0 → wX10_in X G1 x1 0 40 (fun r2 G3 => (¬ r2 = 0 → gT G3 a0 = (1, 11) ∧ ∃ b24, gR G3 352 a0 = some b24 ∧ gT G3 a0 = (1, 11) ∧ ∃ b25, gR G3 353 a0 = some b25 ∧ wX10_copies X G3 b24 b25 (fun G26 => ∃ (I : Gt → Nat → Int32 → Int32 → Int32 → Prop) (μ : Gt → Nat → Int32 → Int32 → Int32 → Nat), I G26 a0 x1 ((-1) : Int32) (0 : Int32) ∧ ∀ (G : Gt) (a0 : Nat) (x1 : Int32) (x2 : Int32) (x3 : Int32), I G a0 x1 x2 x3 → wX10_leastDrain_36 X Pr (fun G' a0' x1' x2' x3' => I G' a0' x1' x2' x3' ∧ μ G' a0' x1' x2' x3' < μ G a0 x1 x2 x3) G a0 x1 x2 x3)) ∧ (r2 = 0 → gT G3 a0 = (1, 11) ∧ wX10_fails X G3 a0 1 (fun r44 G45 => Pr r44 G45)))
set_option maxRecDepth 20000 in
theorem mX10_leastDrain {X : Xt} {l : Launch} (hfl : l.stackTraces = false) {G : Gt} {a0 : Nat} {x1 : Int32} {Pr : Int32 → Gt → Prop} (h : wX10_leastDrain X G a0 x1 Pr) : Mc X l yX10_leastDrain (.code yX10_leastDrain cX10_leastDrain 5 (some (.int))) 8 182 [.ref a0, .int x1] G (rI Pr) noX := by
  refine Mc.of (by decide +kernel) hfl [some (.ref a0), some (.int x1), none, none, none] rfl (Nat.le_of_ble_eq_true rfl) rfl ?_
  intro K hL C E0 hr hnm hex
  have B : BX X K l cX10_leastDrain 5 RX10 8 182 G (some (.int)) "leastDrain" := ⟨hL, C, E0, hr, hnm, hex, hfl⟩
  have C : Cx X K cX10_leastDrain 5 RX10 8 182 := C
  unfold wX10_leastDrain at h
  refine r_aloadR_n C 0 dX10_leastDrain_0 rfl rfl ?_
  refine r_iconst C 0 dX10_leastDrain_1 (by decide) ?_
  obtain ⟨ht, h⟩ := h
  refine r_putI C cw_11 fp_RX10_36 rfl ht dX10_leastDrain_2 ?_
  refine r_nm (fun G1 hG1 => ?_)
  replace h := h G1 hG1
  refine r_iload_n C 1 dX10_leastDrain_5 rfl rfl ?_
  refine r_iconst C 0 dX10_leastDrain_6 (by decide) ?_
  refine r_bipush C 40 dX10_leastDrain_7 (by decide) ?_
  refine r_callS C hL yw_X10_in sw_RX10_39 rfl rfl (Nat.le_of_ble_eq_true rfl) ⟨(Nat.le_of_ble_eq_true rfl), (Nat.le_of_ble_eq_true rfl)⟩ (mX10_in hfl h) rfl dX10_leastDrain_9 (kI (fun r2 G3 h => ?_)) kN
  refine r_if_ne C 21 dX10_leastDrain_12 (by decide) (fun c => ?_) (fun c => ?_)
  · replace h := h.1 c
    refine r_aloadR_n C 0 dX10_leastDrain_21 rfl rfl ?_
    obtain ⟨ht, h⟩ := h
    obtain ⟨b24, hb, h⟩ := h
    refine r_getR C fw_RX10_7 rfl ht hb dX10_leastDrain_22 ?_
    refine r_aloadR_n C 0 dX10_leastDrain_25 rfl rfl ?_
    obtain ⟨ht, h⟩ := h
    obtain ⟨b25, hb, h⟩ := h
    refine r_getR C fw_RX10_13 rfl ht hb dX10_leastDrain_26 ?_
    refine r_callS C hL yw_X10_copies sw_RX10_205 rfl rfl (Nat.le_of_ble_eq_true rfl) ⟨(Nat.le_of_ble_eq_true rfl), (Nat.le_of_ble_eq_true rfl)⟩ (mX10_copies hfl h) rfl dX10_leastDrain_29 (kV' (fun G26 h => ?_)) kN
    refine r_iconst C (-1) dX10_leastDrain_32 (by decide) ?_
    refine r_istore_n C 2 (lv' := [some (.ref a0), some (.int x1), some (.int (-1)), none, none]) dX10_leastDrain_33 rfl (Nat.le_of_ble_eq_true rfl) rfl rfl ?_
    refine r_iconst C 0 dX10_leastDrain_34 (by decide) ?_
    refine r_istore_n C 3 (lv' := [some (.ref a0), some (.int x1), some (.int (-1)), some (.int 0), none]) dX10_leastDrain_35 rfl (Nat.le_of_ble_eq_true rfl) rfl rfl ?_
    obtain ⟨I, μ, hI, hS⟩ := h
    exact lX10_leastDrain_36 B I μ hS _ _ _ _ _ _ (Nat.lt_succ_self _) hI
  · replace h := h.2 c
    refine r_aloadR_n C 0 dX10_leastDrain_15 rfl rfl ?_
    refine r_iconst C 1 dX10_leastDrain_16 (by decide) ?_
    obtain ⟨ht, h⟩ := h
    refine r_callV C (r := (RX10, TX10, 19)) hL yw_X10_fails vw_RX10_43 rfl rfl ht rfl rfl (Nat.le_of_ble_eq_true rfl) ⟨(Nat.le_of_ble_eq_true rfl), (Nat.le_of_ble_eq_true rfl)⟩ (mX10_fails hfl h) rfl dX10_leastDrain_17 (kI (fun r44 G45 h => ?_)) kN
    exact r_iret C E0 hr ⟨_, rfl, h⟩ dX10_leastDrain_20
def wX10_endsFrame_56 (X : Xt) (Pr : Gt → Prop) (G : Gt) (a0 : Nat) (sx0 : Int32) : Prop := gT G a0 = (1, 11) ∧ ∃ b1, gR G 368 a0 = some b1 ∧ gT G a0 = (1, 11) ∧ (gT G b1).1 = 2 ∧ vp_in ((gI G 370 a0) - (gI G 370 a0) / 10 * 10) (gT G b1).2 ∧ ∀ G2, G2 = sA G b1 (upd (gA G b1) ((gI G 370 a0) - (gI G 370 a0) / 10 * 10).toNatClampNeg sx0) → gT G2 a0 = (1, 11) ∧ ∃ b3, gR G2 369 a0 = some b3 ∧ gT G2 a0 = (1, 11) ∧ gT G2 a0 = (1, 11) ∧ (gT G2 b3).1 = 2 ∧ vp_in ((gI G2 370 a0) - (gI G2 370 a0) / 10 * 10) (gT G2 b3).2 ∧ ∀ G4, G4 = sA G2 b3 (upd (gA G2 b3) ((gI G2 370 a0) - (gI G2 370 a0) / 10 * 10).toNatClampNeg (gI G2 365 a0)) → gT G4 a0 = (1, 11) ∧ gT G4 a0 = (1, 11) ∧ ∀ G5, G5 = sI G4 370 a0 ((gI G4 370 a0) + 1) → gT G5 a0 = (1, 11) ∧ ∀ G6, G6 = sI G5 365 a0 0 → gT G6 a0 = (1, 11) ∧ ∀ G7, G7 = sI G6 366 a0 0 → gT G7 a0 = (1, 11) ∧ ∀ G8, G8 = sI G7 367 a0 65535 → Pr G8
set_option maxRecDepth 20000 in
theorem bX10_endsFrame_56 {X : Xt} {K : Kt} {l : Launch} {G0 : Gt} {Pr : Gt → Prop} (B : BX X K l cX10_endsFrame 2 RX10 0 0 G0 none "endsFrame") {G : Gt} {a0 : Nat} {sx0 : Int32} (h : wX10_endsFrame_56 X Pr G a0 sx0) : WM X K (QM X K G0 (rV Pr) noX) G 56 [some (.ref a0), none] [.int sx0] := by
  obtain ⟨hL, C, E0, hr, hnm, hex, hfl⟩ := id B
  unfold wX10_endsFrame_56 at h
  refine r_istore_n C 1 (lv' := [some (.ref a0), some (.int sx0)]) dX10_endsFrame_56 rfl (Nat.le_of_ble_eq_true rfl) rfl rfl ?_
  refine r_aloadR_n C 0 dX10_endsFrame_57 rfl rfl ?_
  obtain ⟨ht, h⟩ := h
  obtain ⟨b1, hb, h⟩ := h
  refine r_getR C fw_RX10_30 rfl ht hb dX10_endsFrame_58 ?_
  refine r_aloadR_n C 0 dX10_endsFrame_61 rfl rfl ?_
  obtain ⟨ht, h⟩ := h
  refine r_getI C fw_RX10_215 rfl ht dX10_endsFrame_62 ?_
  refine r_bipush C 10 dX10_endsFrame_65 (by decide) ?_
  refine r_irem C dX10_endsFrame_67 (by decide) ?_
  refine r_iload_n C 1 dX10_endsFrame_68 rfl rfl ?_
  obtain ⟨ht, hi, h⟩ := h
  refine r_iastP C ht hi dX10_endsFrame_69 ?_
  refine r_nm (fun G2 hG2 => ?_)
  replace h := h G2 hG2
  refine r_aloadR_n C 0 dX10_endsFrame_70 rfl rfl ?_
  obtain ⟨ht, h⟩ := h
  obtain ⟨b3, hb, h⟩ := h
  refine r_getR C fw_RX10_33 rfl ht hb dX10_endsFrame_71 ?_
  refine r_aloadR_n C 0 dX10_endsFrame_74 rfl rfl ?_
  obtain ⟨ht, h⟩ := h
  refine r_getI C fw_RX10_215 rfl ht dX10_endsFrame_75 ?_
  refine r_bipush C 10 dX10_endsFrame_78 (by decide) ?_
  refine r_irem C dX10_endsFrame_80 (by decide) ?_
  refine r_aloadR_n C 0 dX10_endsFrame_81 rfl rfl ?_
  obtain ⟨ht, h⟩ := h
  refine r_getI C fw_RX10_209 rfl ht dX10_endsFrame_82 ?_
  obtain ⟨ht, hi, h⟩ := h
  refine r_iastP C ht hi dX10_endsFrame_85 ?_
  refine r_nm (fun G4 hG4 => ?_)
  replace h := h G4 hG4
  refine r_aloadR_n C 0 dX10_endsFrame_86 rfl rfl ?_
  refine r_dup C dX10_endsFrame_87 rfl ?_
  obtain ⟨ht, h⟩ := h
  refine r_getI C fw_RX10_215 rfl ht dX10_endsFrame_88 ?_
  refine r_iconst C 1 dX10_endsFrame_91 (by decide) ?_
  refine r_iadd C dX10_endsFrame_92 ?_
  obtain ⟨ht, h⟩ := h
  refine r_putI C cw_11 fp_RX10_215 rfl ht dX10_endsFrame_93 ?_
  refine r_nm (fun G5 hG5 => ?_)
  replace h := h G5 hG5
  refine r_aloadR_n C 0 dX10_endsFrame_96 rfl rfl ?_
  refine r_iconst C 0 dX10_endsFrame_97 (by decide) ?_
  obtain ⟨ht, h⟩ := h
  refine r_putI C cw_11 fp_RX10_209 rfl ht dX10_endsFrame_98 ?_
  refine r_nm (fun G6 hG6 => ?_)
  replace h := h G6 hG6
  refine r_aloadR_n C 0 dX10_endsFrame_101 rfl rfl ?_
  refine r_iconst C 0 dX10_endsFrame_102 (by decide) ?_
  obtain ⟨ht, h⟩ := h
  refine r_putZ C cw_11 fp_RX10_212 rfl ht (Or.inl rfl) dX10_endsFrame_103 ?_
  refine r_nm (fun G7 hG7 => ?_)
  replace h := h G7 hG7
  refine r_aloadR_n C 0 dX10_endsFrame_106 rfl rfl ?_
  refine r_ldc C kc_RX10_25 dX10_endsFrame_107 ?_
  obtain ⟨ht, h⟩ := h
  refine r_putI C cw_11 fp_RX10_26 rfl ht dX10_endsFrame_109 ?_
  refine r_nm (fun G8 hG8 => ?_)
  replace h := h G8 hG8
  exact r_vret C E0 hr ⟨rfl, h⟩ dX10_endsFrame_112
def wX10_endsFrame (X : Xt) (G : Gt) (a0 : Nat) (Pr : Gt → Prop) : Prop := gT G a0 = (1, 11) ∧ (¬ (gI G 365 a0) = 0 → gT G a0 = (1, 11) ∧ (4 ≤ (gI G 365 a0) → gT G a0 = (1, 11) ∧ ((gI G 365 a0) ≤ 30 → gT G a0 = (1, 11) ∧ ((gI G 366 a0) = 0 → gT G a0 = (1, 11) ∧ ((gI G 367 a0) = 0 → wX10_endsFrame_56 X Pr G a0 (0 : Int32)) ∧ (¬ ((gI G 367 a0) = 0) → wX10_endsFrame_56 X Pr G a0 (4 : Int32))) ∧ (¬ ((gI G 366 a0) = 0) → wX10_endsFrame_56 X Pr G a0 (3 : Int32))) ∧ (¬ ((gI G 365 a0) ≤ 30) → wX10_endsFrame_56 X Pr G a0 (2 : Int32))) ∧ (¬ (4 ≤ (gI G 365 a0)) → wX10_endsFrame_56 X Pr G a0 (1 : Int32))) ∧ ((gI G 365 a0) = 0 → Pr G)
set_option maxRecDepth 20000 in
theorem mX10_endsFrame {X : Xt} {l : Launch} (hfl : l.stackTraces = false) {G : Gt} {a0 : Nat} {Pr : Gt → Prop} (h : wX10_endsFrame X G a0 Pr) : Mc X l yX10_endsFrame (.code yX10_endsFrame cX10_endsFrame 2 none) 0 0 [.ref a0] G (rV Pr) noX := by
  refine Mc.of (by decide +kernel) hfl [some (.ref a0), none] rfl (Nat.le_of_ble_eq_true rfl) rfl ?_
  intro K hL C E0 hr hnm hex
  have B : BX X K l cX10_endsFrame 2 RX10 0 0 G none "endsFrame" := ⟨hL, C, E0, hr, hnm, hex, hfl⟩
  have C : Cx X K cX10_endsFrame 2 RX10 0 0 := C
  unfold wX10_endsFrame at h
  refine r_aloadR_n C 0 dX10_endsFrame_0 rfl rfl ?_
  obtain ⟨ht, h⟩ := h
  refine r_getI C fw_RX10_209 rfl ht dX10_endsFrame_1 ?_
  refine r_if_ne C 8 dX10_endsFrame_4 (by decide) (fun c => ?_) (fun c => ?_)
  · replace h := h.1 c
    refine r_aloadR_n C 0 dX10_endsFrame_8 rfl rfl ?_
    obtain ⟨ht, h⟩ := h
    refine r_getI C fw_RX10_209 rfl ht dX10_endsFrame_9 ?_
    refine r_iconst C 4 dX10_endsFrame_12 (by decide) ?_
    refine r_icmp_ge C 20 dX10_endsFrame_13 (by decide) (fun c => ?_) (fun c => ?_)
    · replace h := h.1 c
      refine r_aloadR_n C 0 dX10_endsFrame_20 rfl rfl ?_
      obtain ⟨ht, h⟩ := h
      refine r_getI C fw_RX10_209 rfl ht dX10_endsFrame_21 ?_
      refine r_bipush C 30 dX10_endsFrame_24 (by decide) ?_
      refine r_icmp_le C 33 dX10_endsFrame_26 (by decide) (fun c => ?_) (fun c => ?_)
      · replace h := h.1 c
        refine r_aloadR_n C 0 dX10_endsFrame_33 rfl rfl ?_
        obtain ⟨ht, h⟩ := h
        refine r_getI C fw_RX10_212 rfl ht dX10_endsFrame_34 ?_
        refine r_if_eq C 44 dX10_endsFrame_37 (by decide) (fun c => ?_) (fun c => ?_)
        · replace h := h.1 c
          refine r_aloadR_n C 0 dX10_endsFrame_44 rfl rfl ?_
          obtain ⟨ht, h⟩ := h
          refine r_getI C fw_RX10_26 rfl ht dX10_endsFrame_45 ?_
          refine r_if_eq C 55 dX10_endsFrame_48 (by decide) (fun c => ?_) (fun c => ?_)
          · replace h := h.1 c
            refine r_iconst C 0 dX10_endsFrame_55 (by decide) ?_
            exact bX10_endsFrame_56 B h
          · replace h := h.2 c
            refine r_iconst C 4 dX10_endsFrame_51 (by decide) ?_
            refine r_goto C 56 dX10_endsFrame_52 (by decide) ?_
            exact bX10_endsFrame_56 B h
        · replace h := h.2 c
          refine r_iconst C 3 dX10_endsFrame_40 (by decide) ?_
          refine r_goto C 56 dX10_endsFrame_41 (by decide) ?_
          exact bX10_endsFrame_56 B h
      · replace h := h.2 c
        refine r_iconst C 2 dX10_endsFrame_29 (by decide) ?_
        refine r_goto C 56 dX10_endsFrame_30 (by decide) ?_
        exact bX10_endsFrame_56 B h
    · replace h := h.2 c
      refine r_iconst C 1 dX10_endsFrame_16 (by decide) ?_
      refine r_goto C 56 dX10_endsFrame_17 (by decide) ?_
      exact bX10_endsFrame_56 B h
  · replace h := h.2 c
    exact r_vret C E0 hr ⟨rfl, h⟩ dX10_endsFrame_7
def wX10_feed_67 (X : Xt) (Pr : Int32 → Gt → Prop) (G : Gt) (a0 : Nat) (x1 : Int32) (sa0 : Nat) (sx1 : Int32) : Prop := gT G sa0 = (1, 11) ∧ (sx1 = 0 ∨ sx1 = 1) ∧ ∀ G1, G1 = sI G 366 sa0 sx1 → gT G1 a0 = (1, 11) ∧ wX10_stirred X G1 (gI G1 367 a0) x1 (fun r2 G3 => gT G3 a0 = (1, 11) ∧ ∀ G4, G4 = sI G3 367 a0 r2 → gT G4 a0 = (1, 11) ∧ gT G4 a0 = (1, 11) ∧ ∀ G5, G5 = sI G4 365 a0 ((gI G4 365 a0) + 1) → gT G5 a0 = (1, 11) ∧ Pr (gI G5 365 a0) G5)
set_option maxRecDepth 20000 in
theorem bX10_feed_67 {X : Xt} {K : Kt} {l : Launch} {G0 : Gt} {Pr : Int32 → Gt → Prop} (B : BX X K l cX10_feed 3 RX10 1 23 G0 (some (.int)) "feed") {G : Gt} {a0 : Nat} {x1 : Int32} {sa0 : Nat} {sx1 : Int32} (h : wX10_feed_67 X Pr G a0 x1 sa0 sx1) : WM X K (QM X K G0 (rI Pr) noX) G 67 [some (.ref a0), some (.int x1), none] [.int sx1, .ref sa0] := by
  obtain ⟨hL, C, E0, hr, hnm, hex, hfl⟩ := id B
  unfold wX10_feed_67 at h
  obtain ⟨ht, h⟩ := h
  obtain ⟨hz, h⟩ := h
  refine r_putZ C cw_11 fp_RX10_212 rfl ht hz dX10_feed_67 ?_
  refine r_nm (fun G1 hG1 => ?_)
  replace h := h G1 hG1
  refine r_aloadR_n C 0 dX10_feed_70 rfl rfl ?_
  refine r_aloadR_n C 0 dX10_feed_71 rfl rfl ?_
  obtain ⟨ht, h⟩ := h
  refine r_getI C fw_RX10_26 rfl ht dX10_feed_72 ?_
  refine r_iload_n C 1 dX10_feed_75 rfl rfl ?_
  refine r_callS C hL yw_X10_stirred sw_RX10_125 rfl rfl (Nat.le_of_ble_eq_true rfl) ⟨(Nat.le_of_ble_eq_true rfl), (Nat.le_of_ble_eq_true rfl)⟩ (mX10_stirred hfl h) rfl dX10_feed_76 (kI (fun r2 G3 h => ?_)) kN
  obtain ⟨ht, h⟩ := h
  refine r_putI C cw_11 fp_RX10_26 rfl ht dX10_feed_79 ?_
  refine r_nm (fun G4 hG4 => ?_)
  replace h := h G4 hG4
  refine r_aloadR_n C 0 dX10_feed_82 rfl rfl ?_
  refine r_dup C dX10_feed_83 rfl ?_
  obtain ⟨ht, h⟩ := h
  refine r_getI C fw_RX10_209 rfl ht dX10_feed_84 ?_
  refine r_iconst C 1 dX10_feed_87 (by decide) ?_
  refine r_iadd C dX10_feed_88 ?_
  obtain ⟨ht, h⟩ := h
  refine r_putI C cw_11 fp_RX10_209 rfl ht dX10_feed_89 ?_
  refine r_nm (fun G5 hG5 => ?_)
  replace h := h G5 hG5
  refine r_aloadR_n C 0 dX10_feed_92 rfl rfl ?_
  obtain ⟨ht, h⟩ := h
  refine r_getI C fw_RX10_209 rfl ht dX10_feed_93 ?_
  exact r_iret C E0 hr ⟨_, rfl, h⟩ dX10_feed_96
def wX10_feed_42 (X : Xt) (Pr : Int32 → Gt → Prop) (G : Gt) (a0 : Nat) (x1 : Int32) (x2 : Int32) : Prop := gT G a0 = (1, 11) ∧ (¬ (gI G 366 a0) = 0 → wX10_feed_67 X Pr G a0 x1 a0 (1 : Int32)) ∧ ((gI G 366 a0) = 0 → gT G a0 = (1, 11) ∧ ((gI G 365 a0) ≤ 0 → wX10_feed_67 X Pr G a0 x1 a0 (0 : Int32)) ∧ (¬ ((gI G 365 a0) ≤ 0) → (x2 < 2 → wX10_feed_67 X Pr G a0 x1 a0 (0 : Int32)) ∧ (¬ (x2 < 2) → wX10_feed_67 X Pr G a0 x1 a0 (1 : Int32))))
set_option maxRecDepth 20000 in
theorem bX10_feed_42 {X : Xt} {K : Kt} {l : Launch} {G0 : Gt} {Pr : Int32 → Gt → Prop} (B : BX X K l cX10_feed 3 RX10 1 23 G0 (some (.int)) "feed") {G : Gt} {a0 : Nat} {x1 : Int32} {x2 : Int32} (h : wX10_feed_42 X Pr G a0 x1 x2) : WM X K (QM X K G0 (rI Pr) noX) G 42 [some (.ref a0), some (.int x1), some (.int x2)] [] := by
  obtain ⟨hL, C, E0, hr, hnm, hex, hfl⟩ := id B
  unfold wX10_feed_42 at h
  refine r_aloadR_n C 0 dX10_feed_42 rfl rfl ?_
  refine r_aloadR_n C 0 dX10_feed_43 rfl rfl ?_
  obtain ⟨ht, h⟩ := h
  refine r_getI C fw_RX10_212 rfl ht dX10_feed_44 ?_
  refine r_if_ne C 62 dX10_feed_47 (by decide) (fun c => ?_) (fun c => ?_)
  · replace h := h.1 c
    refine r_iconst C 1 dX10_feed_62 (by decide) ?_
    refine r_goto C 67 dX10_feed_63 (by decide) ?_
    refine r_fg (lv' := [some (.ref a0), some (.int x1), none]) (show fgt _ _ from ⟨rfl, ⟨rfl, trivial⟩⟩) ?_
    exact bX10_feed_67 B h
  · replace h := h.2 c
    refine r_aloadR_n C 0 dX10_feed_50 rfl rfl ?_
    obtain ⟨ht, h⟩ := h
    refine r_getI C fw_RX10_209 rfl ht dX10_feed_51 ?_
    refine r_if_le C 66 dX10_feed_54 (by decide) (fun c => ?_) (fun c => ?_)
    · replace h := h.1 c
      refine r_iconst C 0 dX10_feed_66 (by decide) ?_
      refine r_fg (lv' := [some (.ref a0), some (.int x1), none]) (show fgt _ _ from ⟨rfl, ⟨rfl, trivial⟩⟩) ?_
      exact bX10_feed_67 B h
    · replace h := h.2 c
      refine r_iload_n C 2 dX10_feed_57 rfl rfl ?_
      refine r_iconst C 2 dX10_feed_58 (by decide) ?_
      refine r_icmp_lt C 66 dX10_feed_59 (by decide) (fun c => ?_) (fun c => ?_)
      · replace h := h.1 c
        refine r_iconst C 0 dX10_feed_66 (by decide) ?_
        refine r_fg (lv' := [some (.ref a0), some (.int x1), none]) (show fgt _ _ from ⟨rfl, ⟨rfl, trivial⟩⟩) ?_
        exact bX10_feed_67 B h
      · replace h := h.2 c
        refine r_iconst C 1 dX10_feed_62 (by decide) ?_
        refine r_goto C 67 dX10_feed_63 (by decide) ?_
        refine r_fg (lv' := [some (.ref a0), some (.int x1), none]) (show fgt _ _ from ⟨rfl, ⟨rfl, trivial⟩⟩) ?_
        exact bX10_feed_67 B h
def wX10_feed (X : Xt) (G : Gt) (a0 : Nat) (x1 : Int32) (x2 : Int32) (Pr : Int32 → Gt → Prop) : Prop := gT G a0 = (1, 11) ∧ ∀ G1, G1 = sI G 354 a0 0 → wX10_in X G1 x1 0 255 (fun r2 G3 => (r2 = 0 → gT G3 a0 = (1, 11) ∧ wX10_fails X G3 a0 1 (fun r24 G25 => Pr r24 G25)) ∧ (¬ (r2 = 0) → wX10_in X G3 x2 0 1000 (fun r44 G45 => (¬ r44 = 0 → (x2 < 4 → wX10_feed_42 X Pr G45 a0 x1 x2) ∧ (¬ (x2 < 4) → gT G45 a0 = (1, 11) ∧ wX10_endsFrame X G45 a0 (fun G106 => wX10_feed_42 X Pr G106 a0 x1 x2))) ∧ (r44 = 0 → gT G45 a0 = (1, 11) ∧ wX10_fails X G45 a0 1 (fun r86 G87 => Pr r86 G87)))))
set_option maxRecDepth 20000 in
theorem mX10_feed {X : Xt} {l : Launch} (hfl : l.stackTraces = false) {G : Gt} {a0 : Nat} {x1 : Int32} {x2 : Int32} {Pr : Int32 → Gt → Prop} (h : wX10_feed X G a0 x1 x2 Pr) : Mc X l yX10_feed (.code yX10_feed cX10_feed 3 (some (.int))) 1 23 [.ref a0, .int x1, .int x2] G (rI Pr) noX := by
  refine Mc.of (by decide +kernel) hfl [some (.ref a0), some (.int x1), some (.int x2)] rfl (Nat.le_of_ble_eq_true rfl) rfl ?_
  intro K hL C E0 hr hnm hex
  have B : BX X K l cX10_feed 3 RX10 1 23 G (some (.int)) "feed" := ⟨hL, C, E0, hr, hnm, hex, hfl⟩
  have C : Cx X K cX10_feed 3 RX10 1 23 := C
  unfold wX10_feed at h
  refine r_aloadR_n C 0 dX10_feed_0 rfl rfl ?_
  refine r_iconst C 0 dX10_feed_1 (by decide) ?_
  obtain ⟨ht, h⟩ := h
  refine r_putI C cw_11 fp_RX10_36 rfl ht dX10_feed_2 ?_
  refine r_nm (fun G1 hG1 => ?_)
  replace h := h G1 hG1
  refine r_iload_n C 1 dX10_feed_5 rfl rfl ?_
  refine r_iconst C 0 dX10_feed_6 (by decide) ?_
  refine r_sipush C 255 dX10_feed_7 (by decide) ?_
  refine r_callS C hL yw_X10_in sw_RX10_39 rfl rfl (Nat.le_of_ble_eq_true rfl) ⟨(Nat.le_of_ble_eq_true rfl), (Nat.le_of_ble_eq_true rfl)⟩ (mX10_in hfl h) rfl dX10_feed_10 (kI (fun r2 G3 h => ?_)) kN
  refine r_if_eq C 27 dX10_feed_13 (by decide) (fun c => ?_) (fun c => ?_)
  · replace h := h.1 c
    refine r_aloadR_n C 0 dX10_feed_27 rfl rfl ?_
    refine r_iconst C 1 dX10_feed_28 (by decide) ?_
    obtain ⟨ht, h⟩ := h
    refine r_callV C (r := (RX10, TX10, 19)) hL yw_X10_fails vw_RX10_43 rfl rfl ht rfl rfl (Nat.le_of_ble_eq_true rfl) ⟨(Nat.le_of_ble_eq_true rfl), (Nat.le_of_ble_eq_true rfl)⟩ (mX10_fails hfl h) rfl dX10_feed_29 (kI (fun r24 G25 h => ?_)) kN
    exact r_iret C E0 hr ⟨_, rfl, h⟩ dX10_feed_32
  · replace h := h.2 c
    refine r_iload_n C 2 dX10_feed_16 rfl rfl ?_
    refine r_iconst C 0 dX10_feed_17 (by decide) ?_
    refine r_sipush C 1000 dX10_feed_18 (by decide) ?_
    refine r_callS C hL yw_X10_in sw_RX10_39 rfl rfl (Nat.le_of_ble_eq_true rfl) ⟨(Nat.le_of_ble_eq_true rfl), (Nat.le_of_ble_eq_true rfl)⟩ (mX10_in hfl h) rfl dX10_feed_21 (kI (fun r44 G45 h => ?_)) kN
    refine r_if_ne C 33 dX10_feed_24 (by decide) (fun c => ?_) (fun c => ?_)
    · replace h := h.1 c
      refine r_iload_n C 2 dX10_feed_33 rfl rfl ?_
      refine r_iconst C 4 dX10_feed_34 (by decide) ?_
      refine r_icmp_lt C 42 dX10_feed_35 (by decide) (fun c => ?_) (fun c => ?_)
      · replace h := h.1 c
        exact bX10_feed_42 B h
      · replace h := h.2 c
        refine r_aloadR_n C 0 dX10_feed_38 rfl rfl ?_
        obtain ⟨ht, h⟩ := h
        refine r_callV C (r := (RX10, TX10, 19)) hL yw_X10_endsFrame vw_RX10_218 rfl rfl ht rfl rfl (Nat.le_of_ble_eq_true rfl) ⟨(Nat.le_of_ble_eq_true rfl), (Nat.le_of_ble_eq_true rfl)⟩ (mX10_endsFrame hfl h) rfl dX10_feed_39 (kV' (fun G106 h => ?_)) kN
        exact bX10_feed_42 B h
    · replace h := h.2 c
      refine r_aloadR_n C 0 dX10_feed_27 rfl rfl ?_
      refine r_iconst C 1 dX10_feed_28 (by decide) ?_
      obtain ⟨ht, h⟩ := h
      refine r_callV C (r := (RX10, TX10, 19)) hL yw_X10_fails vw_RX10_43 rfl rfl ht rfl rfl (Nat.le_of_ble_eq_true rfl) ⟨(Nat.le_of_ble_eq_true rfl), (Nat.le_of_ble_eq_true rfl)⟩ (mX10_fails hfl h) rfl dX10_feed_29 (kI (fun r86 G87 h => ?_)) kN
      exact r_iret C E0 hr ⟨_, rfl, h⟩ dX10_feed_32
def wX10_endFrame (X : Xt) (G : Gt) (a0 : Nat) (Pr : Int32 → Gt → Prop) : Prop := gT G a0 = (1, 11) ∧ ∀ G1, G1 = sI G 354 a0 0 → gT G1 a0 = (1, 11) ∧ wX10_endsFrame X G1 a0 (fun G2 => gT G2 a0 = (1, 11) ∧ Pr (gI G2 370 a0) G2)
set_option maxRecDepth 20000 in
theorem mX10_endFrame {X : Xt} {l : Launch} (hfl : l.stackTraces = false) {G : Gt} {a0 : Nat} {Pr : Int32 → Gt → Prop} (h : wX10_endFrame X G a0 Pr) : Mc X l yX10_endFrame (.code yX10_endFrame cX10_endFrame 1 (some (.int))) 1 21 [.ref a0] G (rI Pr) noX := by
  refine Mc.of (by decide +kernel) hfl [some (.ref a0)] rfl (Nat.le_of_ble_eq_true rfl) rfl ?_
  intro K hL C E0 hr hnm hex
  have B : BX X K l cX10_endFrame 1 RX10 1 21 G (some (.int)) "endFrame" := ⟨hL, C, E0, hr, hnm, hex, hfl⟩
  have C : Cx X K cX10_endFrame 1 RX10 1 21 := C
  unfold wX10_endFrame at h
  refine r_aloadR_n C 0 dX10_endFrame_0 rfl rfl ?_
  refine r_iconst C 0 dX10_endFrame_1 (by decide) ?_
  obtain ⟨ht, h⟩ := h
  refine r_putI C cw_11 fp_RX10_36 rfl ht dX10_endFrame_2 ?_
  refine r_nm (fun G1 hG1 => ?_)
  replace h := h G1 hG1
  refine r_aloadR_n C 0 dX10_endFrame_5 rfl rfl ?_
  obtain ⟨ht, h⟩ := h
  refine r_callV C (r := (RX10, TX10, 19)) hL yw_X10_endsFrame vw_RX10_218 rfl rfl ht rfl rfl (Nat.le_of_ble_eq_true rfl) ⟨(Nat.le_of_ble_eq_true rfl), (Nat.le_of_ble_eq_true rfl)⟩ (mX10_endsFrame hfl h) rfl dX10_endFrame_6 (kV' (fun G2 h => ?_)) kN
  refine r_aloadR_n C 0 dX10_endFrame_9 rfl rfl ?_
  obtain ⟨ht, h⟩ := h
  refine r_getI C fw_RX10_215 rfl ht dX10_endFrame_10 ?_
  exact r_iret C E0 hr ⟨_, rfl, h⟩ dX10_endFrame_13
def wX10_isKept (X : Xt) (G : Gt) (a0 : Nat) (x1 : Int32) (Pr : Int32 → Gt → Prop) : Prop := (10 ≤ x1 → Pr 0 G) ∧ (¬ (10 ≤ x1) → gT G a0 = (1, 11) ∧ ((gI G 370 a0) ≤ x1 → Pr 0 G) ∧ (¬ ((gI G 370 a0) ≤ x1) → Pr 1 G))
set_option maxRecDepth 20000 in
theorem mX10_isKept {X : Xt} {l : Launch} (hfl : l.stackTraces = false) {G : Gt} {a0 : Nat} {x1 : Int32} {Pr : Int32 → Gt → Prop} (h : wX10_isKept X G a0 x1 Pr) : Mc X l yX10_isKept (.code yX10_isKept cX10_isKept 2 (some (.boolean))) 0 0 [.ref a0, .int x1] G (rI Pr) noX := by
  refine Mc.of (by decide +kernel) hfl [some (.ref a0), some (.int x1)] rfl (Nat.le_of_ble_eq_true rfl) rfl ?_
  intro K hL C E0 hr hnm hex
  have B : BX X K l cX10_isKept 2 RX10 0 0 G (some (.boolean)) "isKept" := ⟨hL, C, E0, hr, hnm, hex, hfl⟩
  have C : Cx X K cX10_isKept 2 RX10 0 0 := C
  unfold wX10_isKept at h
  refine r_iload_n C 1 dX10_isKept_0 rfl rfl ?_
  refine r_bipush C 10 dX10_isKept_1 (by decide) ?_
  refine r_icmp_ge C 18 dX10_isKept_3 (by decide) (fun c => ?_) (fun c => ?_)
  · replace h := h.1 c
    refine r_iconst C 0 dX10_isKept_18 (by decide) ?_
    exact r_zret C E0 hr (Or.inl rfl) ⟨_, rfl, h⟩ dX10_isKept_19
  · replace h := h.2 c
    refine r_iload_n C 1 dX10_isKept_6 rfl rfl ?_
    refine r_aloadR_n C 0 dX10_isKept_7 rfl rfl ?_
    obtain ⟨ht, h⟩ := h
    refine r_getI C fw_RX10_215 rfl ht dX10_isKept_8 ?_
    refine r_icmp_ge C 18 dX10_isKept_11 (by decide) (fun c => ?_) (fun c => ?_)
    · replace h := h.1 c
      refine r_iconst C 0 dX10_isKept_18 (by decide) ?_
      exact r_zret C E0 hr (Or.inl rfl) ⟨_, rfl, h⟩ dX10_isKept_19
    · replace h := h.2 c
      refine r_iconst C 1 dX10_isKept_14 (by decide) ?_
      refine r_goto C 19 dX10_isKept_15 (by decide) ?_
      exact r_zret C E0 hr (Or.inr rfl) ⟨_, rfl, h⟩ dX10_isKept_19
def wX10_verdict_10 (X : Xt) (Pr : Int32 → Gt → Prop) (G : Gt) (a0 : Nat) (x1 : Int32) (sa0 : Nat) (sx1 : Int32) : Prop := gT G sa0 = (1, 11) ∧ ∀ G1, G1 = sI G 354 sa0 sx1 → (0 ≤ x1 → gT G1 a0 = (1, 11) ∧ wX10_isKept X G1 a0 x1 (fun r22 G23 => (r22 = 0 → Pr (-1) G23) ∧ (¬ (r22 = 0) → gT G23 a0 = (1, 11) ∧ ∃ b64, gR G23 368 a0 = some b64 ∧ gT G23 a0 = (1, 11) ∧ (gT G23 b64).1 = 2 ∧ vp_in ((((gI G23 370 a0) - 1) - x1) - (((gI G23 370 a0) - 1) - x1) / 10 * 10) (gT G23 b64).2 ∧ Pr (gA G23 b64 ((((gI G23 370 a0) - 1) - x1) - (((gI G23 370 a0) - 1) - x1) / 10 * 10).toNatClampNeg) G23))) ∧ (¬ (0 ≤ x1) → Pr 0 G1)
set_option maxRecDepth 20000 in
theorem bX10_verdict_10 {X : Xt} {K : Kt} {l : Launch} {G0 : Gt} {Pr : Int32 → Gt → Prop} (B : BX X K l cX10_verdict 2 RX10 1 21 G0 (some (.int)) "verdict") {G : Gt} {a0 : Nat} {x1 : Int32} {sa0 : Nat} {sx1 : Int32} (h : wX10_verdict_10 X Pr G a0 x1 sa0 sx1) : WM X K (QM X K G0 (rI Pr) noX) G 10 [some (.ref a0), some (.int x1)] [.int sx1, .ref sa0] := by
  obtain ⟨hL, C, E0, hr, hnm, hex, hfl⟩ := id B
  unfold wX10_verdict_10 at h
  obtain ⟨ht, h⟩ := h
  refine r_putI C cw_11 fp_RX10_36 rfl ht dX10_verdict_10 ?_
  refine r_nm (fun G1 hG1 => ?_)
  replace h := h G1 hG1
  refine r_iload_n C 1 dX10_verdict_13 rfl rfl ?_
  refine r_if_ge C 21 dX10_verdict_14 (by decide) (fun c => ?_) (fun c => ?_)
  · replace h := h.1 c
    refine r_aloadR_n C 0 dX10_verdict_21 rfl rfl ?_
    refine r_iload_n C 1 dX10_verdict_22 rfl rfl ?_
    obtain ⟨ht, h⟩ := h
    refine r_callV C (r := (RX10, TX10, 19)) hL yw_X10_isKept vw_RX10_221 rfl rfl ht rfl rfl (Nat.le_of_ble_eq_true rfl) ⟨(Nat.le_of_ble_eq_true rfl), (Nat.le_of_ble_eq_true rfl)⟩ (mX10_isKept hfl h) rfl dX10_verdict_23 (kI (fun r22 G23 h => ?_)) kN
    refine r_if_eq C 48 dX10_verdict_26 (by decide) (fun c => ?_) (fun c => ?_)
    · replace h := h.1 c
      refine r_iconst C (-1) dX10_verdict_48 (by decide) ?_
      exact r_iret C E0 hr ⟨_, rfl, h⟩ dX10_verdict_49
    · replace h := h.2 c
      refine r_aloadR_n C 0 dX10_verdict_29 rfl rfl ?_
      obtain ⟨ht, h⟩ := h
      obtain ⟨b64, hb, h⟩ := h
      refine r_getR C fw_RX10_30 rfl ht hb dX10_verdict_30 ?_
      refine r_aloadR_n C 0 dX10_verdict_33 rfl rfl ?_
      obtain ⟨ht, h⟩ := h
      refine r_getI C fw_RX10_215 rfl ht dX10_verdict_34 ?_
      refine r_iconst C 1 dX10_verdict_37 (by decide) ?_
      refine r_isub C dX10_verdict_38 ?_
      refine r_iload_n C 1 dX10_verdict_39 rfl rfl ?_
      refine r_isub C dX10_verdict_40 ?_
      refine r_bipush C 10 dX10_verdict_41 (by decide) ?_
      refine r_irem C dX10_verdict_43 (by decide) ?_
      obtain ⟨ht, hi, h⟩ := h
      refine r_ialdP C ht hi dX10_verdict_44 ?_
      refine r_goto C 49 dX10_verdict_45 (by decide) ?_
      exact r_iret C E0 hr ⟨_, rfl, h⟩ dX10_verdict_49
  · replace h := h.2 c
    refine r_iconst C 0 dX10_verdict_17 (by decide) ?_
    refine r_goto C 49 dX10_verdict_18 (by decide) ?_
    exact r_iret C E0 hr ⟨_, rfl, h⟩ dX10_verdict_49
def wX10_verdict (X : Xt) (G : Gt) (a0 : Nat) (x1 : Int32) (Pr : Int32 → Gt → Prop) : Prop := (0 ≤ x1 → wX10_verdict_10 X Pr G a0 x1 a0 (0 : Int32)) ∧ (¬ (0 ≤ x1) → wX10_verdict_10 X Pr G a0 x1 a0 (1 : Int32))
set_option maxRecDepth 20000 in
theorem mX10_verdict {X : Xt} {l : Launch} (hfl : l.stackTraces = false) {G : Gt} {a0 : Nat} {x1 : Int32} {Pr : Int32 → Gt → Prop} (h : wX10_verdict X G a0 x1 Pr) : Mc X l yX10_verdict (.code yX10_verdict cX10_verdict 2 (some (.int))) 1 21 [.ref a0, .int x1] G (rI Pr) noX := by
  refine Mc.of (by decide +kernel) hfl [some (.ref a0), some (.int x1)] rfl (Nat.le_of_ble_eq_true rfl) rfl ?_
  intro K hL C E0 hr hnm hex
  have B : BX X K l cX10_verdict 2 RX10 1 21 G (some (.int)) "verdict" := ⟨hL, C, E0, hr, hnm, hex, hfl⟩
  have C : Cx X K cX10_verdict 2 RX10 1 21 := C
  unfold wX10_verdict at h
  refine r_aloadR_n C 0 dX10_verdict_0 rfl rfl ?_
  refine r_iload_n C 1 dX10_verdict_1 rfl rfl ?_
  refine r_if_ge C 9 dX10_verdict_2 (by decide) (fun c => ?_) (fun c => ?_)
  · replace h := h.1 c
    refine r_iconst C 0 dX10_verdict_9 (by decide) ?_
    exact bX10_verdict_10 B h
  · replace h := h.2 c
    refine r_iconst C 1 dX10_verdict_5 (by decide) ?_
    refine r_goto C 10 dX10_verdict_6 (by decide) ?_
    exact bX10_verdict_10 B h
def wX10_length_10 (X : Xt) (Pr : Int32 → Gt → Prop) (G : Gt) (a0 : Nat) (x1 : Int32) (sa0 : Nat) (sx1 : Int32) : Prop := gT G sa0 = (1, 11) ∧ ∀ G1, G1 = sI G 354 sa0 sx1 → (0 ≤ x1 → gT G1 a0 = (1, 11) ∧ wX10_isKept X G1 a0 x1 (fun r22 G23 => (r22 = 0 → Pr (-1) G23) ∧ (¬ (r22 = 0) → gT G23 a0 = (1, 11) ∧ ∃ b64, gR G23 369 a0 = some b64 ∧ gT G23 a0 = (1, 11) ∧ (gT G23 b64).1 = 2 ∧ vp_in ((((gI G23 370 a0) - 1) - x1) - (((gI G23 370 a0) - 1) - x1) / 10 * 10) (gT G23 b64).2 ∧ Pr (gA G23 b64 ((((gI G23 370 a0) - 1) - x1) - (((gI G23 370 a0) - 1) - x1) / 10 * 10).toNatClampNeg) G23))) ∧ (¬ (0 ≤ x1) → Pr 0 G1)
set_option maxRecDepth 20000 in
theorem bX10_length_10 {X : Xt} {K : Kt} {l : Launch} {G0 : Gt} {Pr : Int32 → Gt → Prop} (B : BX X K l cX10_length 2 RX10 1 21 G0 (some (.int)) "length") {G : Gt} {a0 : Nat} {x1 : Int32} {sa0 : Nat} {sx1 : Int32} (h : wX10_length_10 X Pr G a0 x1 sa0 sx1) : WM X K (QM X K G0 (rI Pr) noX) G 10 [some (.ref a0), some (.int x1)] [.int sx1, .ref sa0] := by
  obtain ⟨hL, C, E0, hr, hnm, hex, hfl⟩ := id B
  unfold wX10_length_10 at h
  obtain ⟨ht, h⟩ := h
  refine r_putI C cw_11 fp_RX10_36 rfl ht dX10_length_10 ?_
  refine r_nm (fun G1 hG1 => ?_)
  replace h := h G1 hG1
  refine r_iload_n C 1 dX10_length_13 rfl rfl ?_
  refine r_if_ge C 21 dX10_length_14 (by decide) (fun c => ?_) (fun c => ?_)
  · replace h := h.1 c
    refine r_aloadR_n C 0 dX10_length_21 rfl rfl ?_
    refine r_iload_n C 1 dX10_length_22 rfl rfl ?_
    obtain ⟨ht, h⟩ := h
    refine r_callV C (r := (RX10, TX10, 19)) hL yw_X10_isKept vw_RX10_221 rfl rfl ht rfl rfl (Nat.le_of_ble_eq_true rfl) ⟨(Nat.le_of_ble_eq_true rfl), (Nat.le_of_ble_eq_true rfl)⟩ (mX10_isKept hfl h) rfl dX10_length_23 (kI (fun r22 G23 h => ?_)) kN
    refine r_if_eq C 48 dX10_length_26 (by decide) (fun c => ?_) (fun c => ?_)
    · replace h := h.1 c
      refine r_iconst C (-1) dX10_length_48 (by decide) ?_
      exact r_iret C E0 hr ⟨_, rfl, h⟩ dX10_length_49
    · replace h := h.2 c
      refine r_aloadR_n C 0 dX10_length_29 rfl rfl ?_
      obtain ⟨ht, h⟩ := h
      obtain ⟨b64, hb, h⟩ := h
      refine r_getR C fw_RX10_33 rfl ht hb dX10_length_30 ?_
      refine r_aloadR_n C 0 dX10_length_33 rfl rfl ?_
      obtain ⟨ht, h⟩ := h
      refine r_getI C fw_RX10_215 rfl ht dX10_length_34 ?_
      refine r_iconst C 1 dX10_length_37 (by decide) ?_
      refine r_isub C dX10_length_38 ?_
      refine r_iload_n C 1 dX10_length_39 rfl rfl ?_
      refine r_isub C dX10_length_40 ?_
      refine r_bipush C 10 dX10_length_41 (by decide) ?_
      refine r_irem C dX10_length_43 (by decide) ?_
      obtain ⟨ht, hi, h⟩ := h
      refine r_ialdP C ht hi dX10_length_44 ?_
      refine r_goto C 49 dX10_length_45 (by decide) ?_
      exact r_iret C E0 hr ⟨_, rfl, h⟩ dX10_length_49
  · replace h := h.2 c
    refine r_iconst C 0 dX10_length_17 (by decide) ?_
    refine r_goto C 49 dX10_length_18 (by decide) ?_
    exact r_iret C E0 hr ⟨_, rfl, h⟩ dX10_length_49
def wX10_length (X : Xt) (G : Gt) (a0 : Nat) (x1 : Int32) (Pr : Int32 → Gt → Prop) : Prop := (0 ≤ x1 → wX10_length_10 X Pr G a0 x1 a0 (0 : Int32)) ∧ (¬ (0 ≤ x1) → wX10_length_10 X Pr G a0 x1 a0 (1 : Int32))
set_option maxRecDepth 20000 in
theorem mX10_length {X : Xt} {l : Launch} (hfl : l.stackTraces = false) {G : Gt} {a0 : Nat} {x1 : Int32} {Pr : Int32 → Gt → Prop} (h : wX10_length X G a0 x1 Pr) : Mc X l yX10_length (.code yX10_length cX10_length 2 (some (.int))) 1 21 [.ref a0, .int x1] G (rI Pr) noX := by
  refine Mc.of (by decide +kernel) hfl [some (.ref a0), some (.int x1)] rfl (Nat.le_of_ble_eq_true rfl) rfl ?_
  intro K hL C E0 hr hnm hex
  have B : BX X K l cX10_length 2 RX10 1 21 G (some (.int)) "length" := ⟨hL, C, E0, hr, hnm, hex, hfl⟩
  have C : Cx X K cX10_length 2 RX10 1 21 := C
  unfold wX10_length at h
  refine r_aloadR_n C 0 dX10_length_0 rfl rfl ?_
  refine r_iload_n C 1 dX10_length_1 rfl rfl ?_
  refine r_if_ge C 9 dX10_length_2 (by decide) (fun c => ?_) (fun c => ?_)
  · replace h := h.1 c
    refine r_iconst C 0 dX10_length_9 (by decide) ?_
    exact bX10_length_10 B h
  · replace h := h.2 c
    refine r_iconst C 1 dX10_length_5 (by decide) ?_
    refine r_goto C 10 dX10_length_6 (by decide) ?_
    exact bX10_length_10 B h
def wX10_checksum (X : Xt) (G : Gt) (a0 : Nat) (Pr : Int32 → Gt → Prop) : Prop := gT G a0 = (1, 11) ∧ ∀ G1, G1 = sI G 354 a0 0 → gT G1 a0 = (1, 11) ∧ Pr (gI G1 367 a0) G1
set_option maxRecDepth 20000 in
theorem mX10_checksum {X : Xt} {l : Launch} (hfl : l.stackTraces = false) {G : Gt} {a0 : Nat} {Pr : Int32 → Gt → Prop} (h : wX10_checksum X G a0 Pr) : Mc X l yX10_checksum (.code yX10_checksum cX10_checksum 1 (some (.int))) 0 0 [.ref a0] G (rI Pr) noX := by
  refine Mc.of (by decide +kernel) hfl [some (.ref a0)] rfl (Nat.le_of_ble_eq_true rfl) rfl ?_
  intro K hL C E0 hr hnm hex
  have B : BX X K l cX10_checksum 1 RX10 0 0 G (some (.int)) "checksum" := ⟨hL, C, E0, hr, hnm, hex, hfl⟩
  have C : Cx X K cX10_checksum 1 RX10 0 0 := C
  unfold wX10_checksum at h
  refine r_aloadR_n C 0 dX10_checksum_0 rfl rfl ?_
  refine r_iconst C 0 dX10_checksum_1 (by decide) ?_
  obtain ⟨ht, h⟩ := h
  refine r_putI C cw_11 fp_RX10_36 rfl ht dX10_checksum_2 ?_
  refine r_nm (fun G1 hG1 => ?_)
  replace h := h G1 hG1
  refine r_aloadR_n C 0 dX10_checksum_5 rfl rfl ?_
  obtain ⟨ht, h⟩ := h
  refine r_getI C fw_RX10_26 rfl ht dX10_checksum_6 ?_
  exact r_iret C E0 hr ⟨_, rfl, h⟩ dX10_checksum_9
def wX10_fingerprint_208 (X : Xt) (Pr : Int64 → Gt → Prop) (k208 : Gt → Nat → Int64 → Int32 → Prop) (G : Gt) (a0 : Nat) (y1 : Int64) (x3 : Int32) : Prop := (96 ≤ x3 → Pr y1 G) ∧ (¬ (96 ≤ x3) → gT G a0 = (1, 11) ∧ ∃ b41, gR G 352 a0 = some b41 ∧ (gT G b41).1 = 2 ∧ vp_in (20 + x3) (gT G b41).2 ∧ gT G a0 = (1, 11) ∧ wX10_cachedAt X G a0 (1 + (x3 / 32)) (x3 - x3 / 32 * 32) (fun r42 G43 => k208 G43 a0 (((31 : Int64) * (((31 : Int64) * y1) + ((gA G b41 (20 + x3).toNatClampNeg) : Int32).toInt64)) + (r42 : Int32).toInt64) (x3 + 1)))
set_option maxRecDepth 20000 in
theorem bX10_fingerprint_208 {X : Xt} {K : Kt} {l : Launch} {G0 : Gt} {Pr : Int64 → Gt → Prop} (B : BX X K l cX10_fingerprint 6 RX10 3 65 G0 (some (.long)) "fingerprint") {k208 : Gt → Nat → Int64 → Int32 → Prop} (hk208 : ∀ (G : Gt) (a0 : Nat) (y1 : Int64) (x3 : Int32), k208 G a0 y1 x3 → WM X K (QM X K G0 (rJ Pr) noX) G 208 [some (.ref a0), some (.long y1), none, some (.int x3), none, none] []) {G : Gt} {a0 : Nat} {y1 : Int64} {x3 : Int32} (h : wX10_fingerprint_208 X Pr k208 G a0 y1 x3) : WM X K (QM X K G0 (rJ Pr) noX) G 208 [some (.ref a0), some (.long y1), none, some (.int x3), none, none] [] := by
  obtain ⟨hL, C, E0, hr, hnm, hex, hfl⟩ := id B
  unfold wX10_fingerprint_208 at h
  refine r_iload_n C 3 dX10_fingerprint_208 rfl rfl ?_
  refine r_bipush C 96 dX10_fingerprint_209 (by decide) ?_
  refine r_icmp_ge C 259 dX10_fingerprint_211 (by decide) (fun c => ?_) (fun c => ?_)
  · replace h := h.1 c
    refine r_lload_n C 1 dX10_fingerprint_259 rfl rfl ?_
    exact r_lret C E0 hr ⟨_, rfl, h⟩ dX10_fingerprint_260
  · replace h := h.2 c
    refine r_ldc2 C kl_RX10_226 dX10_fingerprint_214 ?_
    refine r_lload_n C 1 dX10_fingerprint_217 rfl rfl ?_
    refine r_lmul C dX10_fingerprint_218 ?_
    refine r_aloadR_n C 0 dX10_fingerprint_219 rfl rfl ?_
    obtain ⟨ht, h⟩ := h
    obtain ⟨b41, hb, h⟩ := h
    refine r_getR C fw_RX10_7 rfl ht hb dX10_fingerprint_220 ?_
    refine r_bipush C 20 dX10_fingerprint_223 (by decide) ?_
    refine r_iload_n C 3 dX10_fingerprint_225 rfl rfl ?_
    refine r_iadd C dX10_fingerprint_226 ?_
    obtain ⟨ht, hi, h⟩ := h
    refine r_ialdP C ht hi dX10_fingerprint_227 ?_
    refine r_i2l C dX10_fingerprint_228 ?_
    refine r_ladd C dX10_fingerprint_229 ?_
    refine r_lstore_n C 1 (lv' := [some (.ref a0), some (.long (((31 : Int64) * y1) + ((gA G b41 (20 + x3).toNatClampNeg) : Int32).toInt64)), none, some (.int x3), none, none]) dX10_fingerprint_230 rfl (Nat.le_of_ble_eq_true rfl) rfl rfl ?_
    refine r_ldc2 C kl_RX10_226 dX10_fingerprint_231 ?_
    refine r_lload_n C 1 dX10_fingerprint_234 rfl rfl ?_
    refine r_lmul C dX10_fingerprint_235 ?_
    refine r_aloadR_n C 0 dX10_fingerprint_236 rfl rfl ?_
    refine r_iconst C 1 dX10_fingerprint_237 (by decide) ?_
    refine r_iload_n C 3 dX10_fingerprint_238 rfl rfl ?_
    refine r_bipush C 32 dX10_fingerprint_239 (by decide) ?_
    refine r_idiv C dX10_fingerprint_241 (by decide) ?_
    refine r_iadd C dX10_fingerprint_242 ?_
    refine r_iload_n C 3 dX10_fingerprint_243 rfl rfl ?_
    refine r_bipush C 32 dX10_fingerprint_244 (by decide) ?_
    refine r_irem C dX10_fingerprint_246 (by decide) ?_
    obtain ⟨ht, h⟩ := h
    refine r_callV C (r := (RX10, TX10, 19)) hL yw_X10_cachedAt vw_RX10_202 rfl rfl ht rfl rfl (Nat.le_of_ble_eq_true rfl) ⟨(Nat.le_of_ble_eq_true rfl), (Nat.le_of_ble_eq_true rfl)⟩ (mX10_cachedAt hfl h) rfl dX10_fingerprint_247 (kI (fun r42 G43 h => ?_)) kN
    refine r_i2l C dX10_fingerprint_250 ?_
    refine r_ladd C dX10_fingerprint_251 ?_
    refine r_lstore_n C 1 (lv' := [some (.ref a0), some (.long (((31 : Int64) * (((31 : Int64) * y1) + ((gA G b41 (20 + x3).toNatClampNeg) : Int32).toInt64)) + (r42 : Int32).toInt64)), none, some (.int x3), none, none]) dX10_fingerprint_252 rfl (Nat.le_of_ble_eq_true rfl) rfl rfl ?_
    refine r_iinc C 1 (lv' := [some (.ref a0), some (.long (((31 : Int64) * (((31 : Int64) * y1) + ((gA G b41 (20 + x3).toNatClampNeg) : Int32).toInt64)) + (r42 : Int32).toInt64)), none, some (.int (x3 + 1)), none, none]) dX10_fingerprint_253 rfl (by decide) rfl rfl ?_
    refine r_goto C 208 dX10_fingerprint_256 (by decide) ?_
    exact hk208 _ _ _ _ h
theorem lX10_fingerprint_208 {X : Xt} {K : Kt} {l : Launch} {G0 : Gt} {Pr : Int64 → Gt → Prop} (B : BX X K l cX10_fingerprint 6 RX10 3 65 G0 (some (.long)) "fingerprint") (I : Gt → Nat → Int64 → Int32 → Prop) (μ : Gt → Nat → Int64 → Int32 → Nat) (hS : ∀ (G : Gt) (a0 : Nat) (y1 : Int64) (x3 : Int32), I G a0 y1 x3 → wX10_fingerprint_208 X Pr (fun G' a0' y1' x3' => I G' a0' y1' x3' ∧ μ G' a0' y1' x3' < μ G a0 y1 x3) G a0 y1 x3) : ∀ (n : Nat) (G : Gt) (a0 : Nat) (y1 : Int64) (x3 : Int32), μ G a0 y1 x3 < n → I G a0 y1 x3 → WM X K (QM X K G0 (rJ Pr) noX) G 208 [some (.ref a0), some (.long y1), none, some (.int x3), none, none] [] := by
  intro n
  induction n with
  | zero => intro G a0 y1 x3 hm; exact absurd hm (Nat.not_lt_zero _)
  | succ n ih =>
    intro G a0 y1 x3 hm hi
    exact bX10_fingerprint_208 B (fun G' a0' y1' x3' hk => ih G' a0' y1' x3' (Nat.lt_of_lt_of_le hk.2 (Nat.le_of_lt_succ hm)) hk.1) (hS G a0 y1 x3 hi)
def wX10_fingerprint_131 (X : Xt) (Pr : Int64 → Gt → Prop) (k77 : Gt → Nat → Int64 → Int32 → Prop) (k131 : Gt → Nat → Int64 → Int32 → Int32 → Int32 → Prop) (G : Gt) (a0 : Nat) (y1 : Int64) (x3 : Int32) (x4 : Int32) (x5 : Int32) : Prop := gT G a0 = (1, 11) ∧ ∃ b1, gR G 352 a0 = some b1 ∧ (gT G b1).1 = 2 ∧ vp_in (x4 + 3) (gT G b1).2 ∧ ((gA G b1 (x4 + 3).toNatClampNeg) ≤ x5 → k77 G a0 y1 (x3 + 1)) ∧ (¬ ((gA G b1 (x4 + 3).toNatClampNeg) ≤ x5) → gT G a0 = (1, 11) ∧ ∃ b42, gR G 352 a0 = some b42 ∧ (gT G b42).1 = 2 ∧ vp_in (x4 + 4) (gT G b42).2 ∧ (¬ (gA G b42 (x4 + 4).toNatClampNeg) = 0 → k77 G a0 y1 (x3 + 1)) ∧ ((gA G b42 (x4 + 4).toNatClampNeg) = 0 → gT G a0 = (1, 11) ∧ ∃ b83, gR G 352 a0 = some b83 ∧ (gT G b83).1 = 2 ∧ vp_in (x4 + 5) (gT G b83).2 ∧ (¬ (gA G b83 (x4 + 5).toNatClampNeg) = 1 → k77 G a0 y1 (x3 + 1)) ∧ ((gA G b83 (x4 + 5).toNatClampNeg) = 1 → gT G a0 = (1, 11) ∧ ∃ b124, gR G 352 a0 = some b124 ∧ (gT G b124).1 = 2 ∧ vp_in ((760 + (16 * x3)) + x5) (gT G b124).2 ∧ k131 G a0 (((31 : Int64) * y1) + ((gA G b124 ((760 + (16 * x3)) + x5).toNatClampNeg) : Int32).toInt64) x3 x4 (x5 + 1))))
set_option maxRecDepth 20000 in
theorem bX10_fingerprint_131 {X : Xt} {K : Kt} {l : Launch} {G0 : Gt} {Pr : Int64 → Gt → Prop} (B : BX X K l cX10_fingerprint 6 RX10 3 65 G0 (some (.long)) "fingerprint") {k77 : Gt → Nat → Int64 → Int32 → Prop} {k131 : Gt → Nat → Int64 → Int32 → Int32 → Int32 → Prop} (hk77 : ∀ (G : Gt) (a0 : Nat) (y1 : Int64) (x3 : Int32), k77 G a0 y1 x3 → WM X K (QM X K G0 (rJ Pr) noX) G 77 [some (.ref a0), some (.long y1), none, some (.int x3), none, none] []) (hk131 : ∀ (G : Gt) (a0 : Nat) (y1 : Int64) (x3 : Int32) (x4 : Int32) (x5 : Int32), k131 G a0 y1 x3 x4 x5 → WM X K (QM X K G0 (rJ Pr) noX) G 131 [some (.ref a0), some (.long y1), none, some (.int x3), some (.int x4), some (.int x5)] []) {G : Gt} {a0 : Nat} {y1 : Int64} {x3 : Int32} {x4 : Int32} {x5 : Int32} (h : wX10_fingerprint_131 X Pr k77 k131 G a0 y1 x3 x4 x5) : WM X K (QM X K G0 (rJ Pr) noX) G 131 [some (.ref a0), some (.long y1), none, some (.int x3), some (.int x4), some (.int x5)] [] := by
  obtain ⟨hL, C, E0, hr, hnm, hex, hfl⟩ := id B
  unfold wX10_fingerprint_131 at h
  refine r_iload C dX10_fingerprint_131 rfl ?_
  refine r_aloadR_n C 0 dX10_fingerprint_133 rfl rfl ?_
  obtain ⟨ht, h⟩ := h
  obtain ⟨b1, hb, h⟩ := h
  refine r_getR C fw_RX10_7 rfl ht hb dX10_fingerprint_134 ?_
  refine r_iload C dX10_fingerprint_137 rfl ?_
  refine r_iconst C 3 dX10_fingerprint_139 (by decide) ?_
  refine r_iadd C dX10_fingerprint_140 ?_
  obtain ⟨ht, hi, h⟩ := h
  refine r_ialdP C ht hi dX10_fingerprint_141 ?_
  refine r_icmp_ge C 200 dX10_fingerprint_142 (by decide) (fun c => ?_) (fun c => ?_)
  · replace h := h.1 c
    refine r_iinc C 1 (lv' := [some (.ref a0), some (.long y1), none, some (.int (x3 + 1)), some (.int x4), some (.int x5)]) dX10_fingerprint_200 rfl (by decide) rfl rfl ?_
    refine r_goto C 77 dX10_fingerprint_203 (by decide) ?_
    refine r_fg (lv' := [some (.ref a0), some (.long y1), none, some (.int (x3 + 1)), none, none]) (show fgt _ _ from ⟨rfl, ⟨rfl, ⟨rfl, trivial⟩⟩⟩) ?_
    exact hk77 _ _ _ _ h
  · replace h := h.2 c
    refine r_aloadR_n C 0 dX10_fingerprint_145 rfl rfl ?_
    obtain ⟨ht, h⟩ := h
    obtain ⟨b42, hb, h⟩ := h
    refine r_getR C fw_RX10_7 rfl ht hb dX10_fingerprint_146 ?_
    refine r_iload C dX10_fingerprint_149 rfl ?_
    refine r_iconst C 4 dX10_fingerprint_151 (by decide) ?_
    refine r_iadd C dX10_fingerprint_152 ?_
    obtain ⟨ht, hi, h⟩ := h
    refine r_ialdP C ht hi dX10_fingerprint_153 ?_
    refine r_if_ne C 200 dX10_fingerprint_154 (by decide) (fun c => ?_) (fun c => ?_)
    · replace h := h.1 c
      refine r_iinc C 1 (lv' := [some (.ref a0), some (.long y1), none, some (.int (x3 + 1)), some (.int x4), some (.int x5)]) dX10_fingerprint_200 rfl (by decide) rfl rfl ?_
      refine r_goto C 77 dX10_fingerprint_203 (by decide) ?_
      refine r_fg (lv' := [some (.ref a0), some (.long y1), none, some (.int (x3 + 1)), none, none]) (show fgt _ _ from ⟨rfl, ⟨rfl, ⟨rfl, trivial⟩⟩⟩) ?_
      exact hk77 _ _ _ _ h
    · replace h := h.2 c
      refine r_aloadR_n C 0 dX10_fingerprint_157 rfl rfl ?_
      obtain ⟨ht, h⟩ := h
      obtain ⟨b83, hb, h⟩ := h
      refine r_getR C fw_RX10_7 rfl ht hb dX10_fingerprint_158 ?_
      refine r_iload C dX10_fingerprint_161 rfl ?_
      refine r_iconst C 5 dX10_fingerprint_163 (by decide) ?_
      refine r_iadd C dX10_fingerprint_164 ?_
      obtain ⟨ht, hi, h⟩ := h
      refine r_ialdP C ht hi dX10_fingerprint_165 ?_
      refine r_iconst C 1 dX10_fingerprint_166 (by decide) ?_
      refine r_icmp_ne C 200 dX10_fingerprint_167 (by decide) (fun c => ?_) (fun c => ?_)
      · replace h := h.1 c
        refine r_iinc C 1 (lv' := [some (.ref a0), some (.long y1), none, some (.int (x3 + 1)), some (.int x4), some (.int x5)]) dX10_fingerprint_200 rfl (by decide) rfl rfl ?_
        refine r_goto C 77 dX10_fingerprint_203 (by decide) ?_
        refine r_fg (lv' := [some (.ref a0), some (.long y1), none, some (.int (x3 + 1)), none, none]) (show fgt _ _ from ⟨rfl, ⟨rfl, ⟨rfl, trivial⟩⟩⟩) ?_
        exact hk77 _ _ _ _ h
      · replace h := h.2 c
        refine r_ldc2 C kl_RX10_226 dX10_fingerprint_170 ?_
        refine r_lload_n C 1 dX10_fingerprint_173 rfl rfl ?_
        refine r_lmul C dX10_fingerprint_174 ?_
        refine r_aloadR_n C 0 dX10_fingerprint_175 rfl rfl ?_
        obtain ⟨ht, h⟩ := h
        obtain ⟨b124, hb, h⟩ := h
        refine r_getR C fw_RX10_7 rfl ht hb dX10_fingerprint_176 ?_
        refine r_sipush C 760 dX10_fingerprint_179 (by decide) ?_
        refine r_bipush C 16 dX10_fingerprint_182 (by decide) ?_
        refine r_iload_n C 3 dX10_fingerprint_184 rfl rfl ?_
        refine r_imul C dX10_fingerprint_185 ?_
        refine r_iadd C dX10_fingerprint_186 ?_
        refine r_iload C dX10_fingerprint_187 rfl ?_
        refine r_iadd C dX10_fingerprint_189 ?_
        obtain ⟨ht, hi, h⟩ := h
        refine r_ialdP C ht hi dX10_fingerprint_190 ?_
        refine r_i2l C dX10_fingerprint_191 ?_
        refine r_ladd C dX10_fingerprint_192 ?_
        refine r_lstore_n C 1 (lv' := [some (.ref a0), some (.long (((31 : Int64) * y1) + ((gA G b124 ((760 + (16 * x3)) + x5).toNatClampNeg) : Int32).toInt64)), none, some (.int x3), some (.int x4), some (.int x5)]) dX10_fingerprint_193 rfl (Nat.le_of_ble_eq_true rfl) rfl rfl ?_
        refine r_iinc C 1 (lv' := [some (.ref a0), some (.long (((31 : Int64) * y1) + ((gA G b124 ((760 + (16 * x3)) + x5).toNatClampNeg) : Int32).toInt64)), none, some (.int x3), some (.int x4), some (.int (x5 + 1))]) dX10_fingerprint_194 rfl (by decide) rfl rfl ?_
        refine r_goto C 131 dX10_fingerprint_197 (by decide) ?_
        exact hk131 _ _ _ _ _ _ h
theorem lX10_fingerprint_131 {X : Xt} {K : Kt} {l : Launch} {G0 : Gt} {Pr : Int64 → Gt → Prop} (B : BX X K l cX10_fingerprint 6 RX10 3 65 G0 (some (.long)) "fingerprint") {k77 : Gt → Nat → Int64 → Int32 → Prop} (hk77 : ∀ (G : Gt) (a0 : Nat) (y1 : Int64) (x3 : Int32), k77 G a0 y1 x3 → WM X K (QM X K G0 (rJ Pr) noX) G 77 [some (.ref a0), some (.long y1), none, some (.int x3), none, none] []) (I : Gt → Nat → Int64 → Int32 → Int32 → Int32 → Prop) (μ : Gt → Nat → Int64 → Int32 → Int32 → Int32 → Nat) (hS : ∀ (G : Gt) (a0 : Nat) (y1 : Int64) (x3 : Int32) (x4 : Int32) (x5 : Int32), I G a0 y1 x3 x4 x5 → wX10_fingerprint_131 X Pr k77 (fun G' a0' y1' x3' x4' x5' => I G' a0' y1' x3' x4' x5' ∧ μ G' a0' y1' x3' x4' x5' < μ G a0 y1 x3 x4 x5) G a0 y1 x3 x4 x5) : ∀ (n : Nat) (G : Gt) (a0 : Nat) (y1 : Int64) (x3 : Int32) (x4 : Int32) (x5 : Int32), μ G a0 y1 x3 x4 x5 < n → I G a0 y1 x3 x4 x5 → WM X K (QM X K G0 (rJ Pr) noX) G 131 [some (.ref a0), some (.long y1), none, some (.int x3), some (.int x4), some (.int x5)] [] := by
  intro n
  induction n with
  | zero => intro G a0 y1 x3 x4 x5 hm; exact absurd hm (Nat.not_lt_zero _)
  | succ n ih =>
    intro G a0 y1 x3 x4 x5 hm hi
    exact bX10_fingerprint_131 B hk77 (fun G' a0' y1' x3' x4' x5' hk => ih G' a0' y1' x3' x4' x5' (Nat.lt_of_lt_of_le hk.2 (Nat.le_of_lt_succ hm)) hk.1) (hS G a0 y1 x3 x4 x5 hi)
def wX10_fingerprint_97 (X : Xt) (Pr : Int64 → Gt → Prop) (k77 : Gt → Nat → Int64 → Int32 → Prop) (k97 : Gt → Nat → Int64 → Int32 → Int32 → Int32 → Prop) (G : Gt) (a0 : Nat) (y1 : Int64) (x3 : Int32) (x4 : Int32) (x5 : Int32) : Prop := (7 < x5 → ∃ (I : Gt → Nat → Int64 → Int32 → Int32 → Int32 → Prop) (μ : Gt → Nat → Int64 → Int32 → Int32 → Int32 → Nat), I G a0 y1 x3 x4 (0 : Int32) ∧ ∀ (G : Gt) (a0 : Nat) (y1 : Int64) (x3 : Int32) (x4 : Int32) (x5 : Int32), I G a0 y1 x3 x4 x5 → wX10_fingerprint_131 X Pr k77 (fun G' a0' y1' x3' x4' x5' => I G' a0' y1' x3' x4' x5' ∧ μ G' a0' y1' x3' x4' x5' < μ G a0 y1 x3 x4 x5) G a0 y1 x3 x4 x5) ∧ (¬ (7 < x5) → gT G a0 = (1, 11) ∧ ∃ b41, gR G 352 a0 = some b41 ∧ (gT G b41).1 = 2 ∧ vp_in (x4 + x5) (gT G b41).2 ∧ k97 G a0 (((31 : Int64) * y1) + ((gA G b41 (x4 + x5).toNatClampNeg) : Int32).toInt64) x3 x4 (x5 + 1))
set_option maxRecDepth 20000 in
theorem bX10_fingerprint_97 {X : Xt} {K : Kt} {l : Launch} {G0 : Gt} {Pr : Int64 → Gt → Prop} (B : BX X K l cX10_fingerprint 6 RX10 3 65 G0 (some (.long)) "fingerprint") {k77 : Gt → Nat → Int64 → Int32 → Prop} {k97 : Gt → Nat → Int64 → Int32 → Int32 → Int32 → Prop} (hk77 : ∀ (G : Gt) (a0 : Nat) (y1 : Int64) (x3 : Int32), k77 G a0 y1 x3 → WM X K (QM X K G0 (rJ Pr) noX) G 77 [some (.ref a0), some (.long y1), none, some (.int x3), none, none] []) (hk97 : ∀ (G : Gt) (a0 : Nat) (y1 : Int64) (x3 : Int32) (x4 : Int32) (x5 : Int32), k97 G a0 y1 x3 x4 x5 → WM X K (QM X K G0 (rJ Pr) noX) G 97 [some (.ref a0), some (.long y1), none, some (.int x3), some (.int x4), some (.int x5)] []) {G : Gt} {a0 : Nat} {y1 : Int64} {x3 : Int32} {x4 : Int32} {x5 : Int32} (h : wX10_fingerprint_97 X Pr k77 k97 G a0 y1 x3 x4 x5) : WM X K (QM X K G0 (rJ Pr) noX) G 97 [some (.ref a0), some (.long y1), none, some (.int x3), some (.int x4), some (.int x5)] [] := by
  obtain ⟨hL, C, E0, hr, hnm, hex, hfl⟩ := id B
  unfold wX10_fingerprint_97 at h
  refine r_iload C dX10_fingerprint_97 rfl ?_
  refine r_bipush C 7 dX10_fingerprint_99 (by decide) ?_
  refine r_icmp_gt C 128 dX10_fingerprint_101 (by decide) (fun c => ?_) (fun c => ?_)
  · replace h := h.1 c
    refine r_iconst C 0 dX10_fingerprint_128 (by decide) ?_
    refine r_istore C (lv' := [some (.ref a0), some (.long y1), none, some (.int x3), some (.int x4), some (.int 0)]) dX10_fingerprint_129 (Nat.le_of_ble_eq_true rfl) rfl rfl ?_
    obtain ⟨I, μ, hI, hS⟩ := h
    exact lX10_fingerprint_131 B hk77 I μ hS _ _ _ _ _ _ _ (Nat.lt_succ_self _) hI
  · replace h := h.2 c
    refine r_ldc2 C kl_RX10_226 dX10_fingerprint_104 ?_
    refine r_lload_n C 1 dX10_fingerprint_107 rfl rfl ?_
    refine r_lmul C dX10_fingerprint_108 ?_
    refine r_aloadR_n C 0 dX10_fingerprint_109 rfl rfl ?_
    obtain ⟨ht, h⟩ := h
    obtain ⟨b41, hb, h⟩ := h
    refine r_getR C fw_RX10_7 rfl ht hb dX10_fingerprint_110 ?_
    refine r_iload C dX10_fingerprint_113 rfl ?_
    refine r_iload C dX10_fingerprint_115 rfl ?_
    refine r_iadd C dX10_fingerprint_117 ?_
    obtain ⟨ht, hi, h⟩ := h
    refine r_ialdP C ht hi dX10_fingerprint_118 ?_
    refine r_i2l C dX10_fingerprint_119 ?_
    refine r_ladd C dX10_fingerprint_120 ?_
    refine r_lstore_n C 1 (lv' := [some (.ref a0), some (.long (((31 : Int64) * y1) + ((gA G b41 (x4 + x5).toNatClampNeg) : Int32).toInt64)), none, some (.int x3), some (.int x4), some (.int x5)]) dX10_fingerprint_121 rfl (Nat.le_of_ble_eq_true rfl) rfl rfl ?_
    refine r_iinc C 1 (lv' := [some (.ref a0), some (.long (((31 : Int64) * y1) + ((gA G b41 (x4 + x5).toNatClampNeg) : Int32).toInt64)), none, some (.int x3), some (.int x4), some (.int (x5 + 1))]) dX10_fingerprint_122 rfl (by decide) rfl rfl ?_
    refine r_goto C 97 dX10_fingerprint_125 (by decide) ?_
    exact hk97 _ _ _ _ _ _ h
theorem lX10_fingerprint_97 {X : Xt} {K : Kt} {l : Launch} {G0 : Gt} {Pr : Int64 → Gt → Prop} (B : BX X K l cX10_fingerprint 6 RX10 3 65 G0 (some (.long)) "fingerprint") {k77 : Gt → Nat → Int64 → Int32 → Prop} (hk77 : ∀ (G : Gt) (a0 : Nat) (y1 : Int64) (x3 : Int32), k77 G a0 y1 x3 → WM X K (QM X K G0 (rJ Pr) noX) G 77 [some (.ref a0), some (.long y1), none, some (.int x3), none, none] []) (I : Gt → Nat → Int64 → Int32 → Int32 → Int32 → Prop) (μ : Gt → Nat → Int64 → Int32 → Int32 → Int32 → Nat) (hS : ∀ (G : Gt) (a0 : Nat) (y1 : Int64) (x3 : Int32) (x4 : Int32) (x5 : Int32), I G a0 y1 x3 x4 x5 → wX10_fingerprint_97 X Pr k77 (fun G' a0' y1' x3' x4' x5' => I G' a0' y1' x3' x4' x5' ∧ μ G' a0' y1' x3' x4' x5' < μ G a0 y1 x3 x4 x5) G a0 y1 x3 x4 x5) : ∀ (n : Nat) (G : Gt) (a0 : Nat) (y1 : Int64) (x3 : Int32) (x4 : Int32) (x5 : Int32), μ G a0 y1 x3 x4 x5 < n → I G a0 y1 x3 x4 x5 → WM X K (QM X K G0 (rJ Pr) noX) G 97 [some (.ref a0), some (.long y1), none, some (.int x3), some (.int x4), some (.int x5)] [] := by
  intro n
  induction n with
  | zero => intro G a0 y1 x3 x4 x5 hm; exact absurd hm (Nat.not_lt_zero _)
  | succ n ih =>
    intro G a0 y1 x3 x4 x5 hm hi
    exact bX10_fingerprint_97 B hk77 (fun G' a0' y1' x3' x4' x5' hk => ih G' a0' y1' x3' x4' x5' (Nat.lt_of_lt_of_le hk.2 (Nat.le_of_lt_succ hm)) hk.1) (hS G a0 y1 x3 x4 x5 hi)
def wX10_fingerprint_77 (X : Xt) (Pr : Int64 → Gt → Prop) (k77 : Gt → Nat → Int64 → Int32 → Prop) (G : Gt) (a0 : Nat) (y1 : Int64) (x3 : Int32) : Prop := gT G a0 = (1, 11) ∧ ∃ b1, gR G 352 a0 = some b1 ∧ (gT G b1).1 = 2 ∧ vp_in 6 (gT G b1).2 ∧ ((gA G b1 (6 : Int32).toNatClampNeg) ≤ x3 → ∃ (I : Gt → Nat → Int64 → Int32 → Prop) (μ : Gt → Nat → Int64 → Int32 → Nat), I G a0 y1 (0 : Int32) ∧ ∀ (G : Gt) (a0 : Nat) (y1 : Int64) (x3 : Int32), I G a0 y1 x3 → wX10_fingerprint_208 X Pr (fun G' a0' y1' x3' => I G' a0' y1' x3' ∧ μ G' a0' y1' x3' < μ G a0 y1 x3) G a0 y1 x3) ∧ (¬ ((gA G b1 (6 : Int32).toNatClampNeg) ≤ x3) → wX10_requestAt X G x3 (fun r42 G43 => ∃ (I : Gt → Nat → Int64 → Int32 → Int32 → Int32 → Prop) (μ : Gt → Nat → Int64 → Int32 → Int32 → Int32 → Nat), I G43 a0 y1 x3 r42 (5 : Int32) ∧ ∀ (G : Gt) (a0 : Nat) (y1 : Int64) (x3 : Int32) (x4 : Int32) (x5 : Int32), I G a0 y1 x3 x4 x5 → wX10_fingerprint_97 X Pr k77 (fun G' a0' y1' x3' x4' x5' => I G' a0' y1' x3' x4' x5' ∧ μ G' a0' y1' x3' x4' x5' < μ G a0 y1 x3 x4 x5) G a0 y1 x3 x4 x5))
set_option maxRecDepth 20000 in
theorem bX10_fingerprint_77 {X : Xt} {K : Kt} {l : Launch} {G0 : Gt} {Pr : Int64 → Gt → Prop} (B : BX X K l cX10_fingerprint 6 RX10 3 65 G0 (some (.long)) "fingerprint") {k77 : Gt → Nat → Int64 → Int32 → Prop} (hk77 : ∀ (G : Gt) (a0 : Nat) (y1 : Int64) (x3 : Int32), k77 G a0 y1 x3 → WM X K (QM X K G0 (rJ Pr) noX) G 77 [some (.ref a0), some (.long y1), none, some (.int x3), none, none] []) {G : Gt} {a0 : Nat} {y1 : Int64} {x3 : Int32} (h : wX10_fingerprint_77 X Pr k77 G a0 y1 x3) : WM X K (QM X K G0 (rJ Pr) noX) G 77 [some (.ref a0), some (.long y1), none, some (.int x3), none, none] [] := by
  obtain ⟨hL, C, E0, hr, hnm, hex, hfl⟩ := id B
  unfold wX10_fingerprint_77 at h
  refine r_iload_n C 3 dX10_fingerprint_77 rfl rfl ?_
  refine r_aloadR_n C 0 dX10_fingerprint_78 rfl rfl ?_
  obtain ⟨ht, h⟩ := h
  obtain ⟨b1, hb, h⟩ := h
  refine r_getR C fw_RX10_7 rfl ht hb dX10_fingerprint_79 ?_
  refine r_bipush C 6 dX10_fingerprint_82 (by decide) ?_
  obtain ⟨ht, hi, h⟩ := h
  refine r_ialdP C ht hi dX10_fingerprint_84 ?_
  refine r_icmp_ge C 206 dX10_fingerprint_85 (by decide) (fun c => ?_) (fun c => ?_)
  · replace h := h.1 c
    refine r_iconst C 0 dX10_fingerprint_206 (by decide) ?_
    refine r_istore_n C 3 (lv' := [some (.ref a0), some (.long y1), none, some (.int 0), none, none]) dX10_fingerprint_207 rfl (Nat.le_of_ble_eq_true rfl) rfl rfl ?_
    obtain ⟨I, μ, hI, hS⟩ := h
    exact lX10_fingerprint_208 B I μ hS _ _ _ _ _ (Nat.lt_succ_self _) hI
  · replace h := h.2 c
    refine r_iload_n C 3 dX10_fingerprint_88 rfl rfl ?_
    refine r_callS C hL yw_X10_requestAt sw_RX10_61 rfl rfl (Nat.le_of_ble_eq_true rfl) ⟨(Nat.le_of_ble_eq_true rfl), (Nat.le_of_ble_eq_true rfl)⟩ (mX10_requestAt hfl h) rfl dX10_fingerprint_89 (kI (fun r42 G43 h => ?_)) kN
    refine r_istore C (lv' := [some (.ref a0), some (.long y1), none, some (.int x3), some (.int r42), none]) dX10_fingerprint_92 (Nat.le_of_ble_eq_true rfl) rfl rfl ?_
    refine r_iconst C 5 dX10_fingerprint_94 (by decide) ?_
    refine r_istore C (lv' := [some (.ref a0), some (.long y1), none, some (.int x3), some (.int r42), some (.int 5)]) dX10_fingerprint_95 (Nat.le_of_ble_eq_true rfl) rfl rfl ?_
    obtain ⟨I, μ, hI, hS⟩ := h
    exact lX10_fingerprint_97 B hk77 I μ hS _ _ _ _ _ _ _ (Nat.lt_succ_self _) hI
theorem lX10_fingerprint_77 {X : Xt} {K : Kt} {l : Launch} {G0 : Gt} {Pr : Int64 → Gt → Prop} (B : BX X K l cX10_fingerprint 6 RX10 3 65 G0 (some (.long)) "fingerprint") (I : Gt → Nat → Int64 → Int32 → Prop) (μ : Gt → Nat → Int64 → Int32 → Nat) (hS : ∀ (G : Gt) (a0 : Nat) (y1 : Int64) (x3 : Int32), I G a0 y1 x3 → wX10_fingerprint_77 X Pr (fun G' a0' y1' x3' => I G' a0' y1' x3' ∧ μ G' a0' y1' x3' < μ G a0 y1 x3) G a0 y1 x3) : ∀ (n : Nat) (G : Gt) (a0 : Nat) (y1 : Int64) (x3 : Int32), μ G a0 y1 x3 < n → I G a0 y1 x3 → WM X K (QM X K G0 (rJ Pr) noX) G 77 [some (.ref a0), some (.long y1), none, some (.int x3), none, none] [] := by
  intro n
  induction n with
  | zero => intro G a0 y1 x3 hm; exact absurd hm (Nat.not_lt_zero _)
  | succ n ih =>
    intro G a0 y1 x3 hm hi
    exact bX10_fingerprint_77 B (fun G' a0' y1' x3' hk => ih G' a0' y1' x3' (Nat.lt_of_lt_of_le hk.2 (Nat.le_of_lt_succ hm)) hk.1) (hS G a0 y1 x3 hi)
def wX10_fingerprint_50 (X : Xt) (Pr : Int64 → Gt → Prop) (k50 : Gt → Nat → Int64 → Int32 → Prop) (G : Gt) (a0 : Nat) (y1 : Int64) (x3 : Int32) : Prop := (3 ≤ x3 → ∃ (I : Gt → Nat → Int64 → Int32 → Prop) (μ : Gt → Nat → Int64 → Int32 → Nat), I G a0 y1 (0 : Int32) ∧ ∀ (G : Gt) (a0 : Nat) (y1 : Int64) (x3 : Int32), I G a0 y1 x3 → wX10_fingerprint_77 X Pr (fun G' a0' y1' x3' => I G' a0' y1' x3' ∧ μ G' a0' y1' x3' < μ G a0 y1 x3) G a0 y1 x3) ∧ (¬ (3 ≤ x3) → gT G a0 = (1, 11) ∧ wX10_countIn X G a0 (-1) x3 (fun r41 G42 => k50 G42 a0 (((31 : Int64) * y1) + (r41 : Int32).toInt64) (x3 + 1)))
set_option maxRecDepth 20000 in
theorem bX10_fingerprint_50 {X : Xt} {K : Kt} {l : Launch} {G0 : Gt} {Pr : Int64 → Gt → Prop} (B : BX X K l cX10_fingerprint 6 RX10 3 65 G0 (some (.long)) "fingerprint") {k50 : Gt → Nat → Int64 → Int32 → Prop} (hk50 : ∀ (G : Gt) (a0 : Nat) (y1 : Int64) (x3 : Int32), k50 G a0 y1 x3 → WM X K (QM X K G0 (rJ Pr) noX) G 50 [some (.ref a0), some (.long y1), none, some (.int x3), none, none] []) {G : Gt} {a0 : Nat} {y1 : Int64} {x3 : Int32} (h : wX10_fingerprint_50 X Pr k50 G a0 y1 x3) : WM X K (QM X K G0 (rJ Pr) noX) G 50 [some (.ref a0), some (.long y1), none, some (.int x3), none, none] [] := by
  obtain ⟨hL, C, E0, hr, hnm, hex, hfl⟩ := id B
  unfold wX10_fingerprint_50 at h
  refine r_iload_n C 3 dX10_fingerprint_50 rfl rfl ?_
  refine r_iconst C 3 dX10_fingerprint_51 (by decide) ?_
  refine r_icmp_ge C 75 dX10_fingerprint_52 (by decide) (fun c => ?_) (fun c => ?_)
  · replace h := h.1 c
    refine r_iconst C 0 dX10_fingerprint_75 (by decide) ?_
    refine r_istore_n C 3 (lv' := [some (.ref a0), some (.long y1), none, some (.int 0), none, none]) dX10_fingerprint_76 rfl (Nat.le_of_ble_eq_true rfl) rfl rfl ?_
    obtain ⟨I, μ, hI, hS⟩ := h
    exact lX10_fingerprint_77 B I μ hS _ _ _ _ _ (Nat.lt_succ_self _) hI
  · replace h := h.2 c
    refine r_ldc2 C kl_RX10_226 dX10_fingerprint_55 ?_
    refine r_lload_n C 1 dX10_fingerprint_58 rfl rfl ?_
    refine r_lmul C dX10_fingerprint_59 ?_
    refine r_aloadR_n C 0 dX10_fingerprint_60 rfl rfl ?_
    refine r_iconst C (-1) dX10_fingerprint_61 (by decide) ?_
    refine r_iload_n C 3 dX10_fingerprint_62 rfl rfl ?_
    obtain ⟨ht, h⟩ := h
    refine r_callV C (r := (RX10, TX10, 19)) hL yw_X10_countIn vw_RX10_76 rfl rfl ht rfl rfl (Nat.le_of_ble_eq_true rfl) ⟨(Nat.le_of_ble_eq_true rfl), (Nat.le_of_ble_eq_true rfl)⟩ (mX10_countIn hfl h) rfl dX10_fingerprint_63 (kI (fun r41 G42 h => ?_)) kN
    refine r_i2l C dX10_fingerprint_66 ?_
    refine r_ladd C dX10_fingerprint_67 ?_
    refine r_lstore_n C 1 (lv' := [some (.ref a0), some (.long (((31 : Int64) * y1) + (r41 : Int32).toInt64)), none, some (.int x3), none, none]) dX10_fingerprint_68 rfl (Nat.le_of_ble_eq_true rfl) rfl rfl ?_
    refine r_iinc C 1 (lv' := [some (.ref a0), some (.long (((31 : Int64) * y1) + (r41 : Int32).toInt64)), none, some (.int (x3 + 1)), none, none]) dX10_fingerprint_69 rfl (by decide) rfl rfl ?_
    refine r_goto C 50 dX10_fingerprint_72 (by decide) ?_
    exact hk50 _ _ _ _ h
theorem lX10_fingerprint_50 {X : Xt} {K : Kt} {l : Launch} {G0 : Gt} {Pr : Int64 → Gt → Prop} (B : BX X K l cX10_fingerprint 6 RX10 3 65 G0 (some (.long)) "fingerprint") (I : Gt → Nat → Int64 → Int32 → Prop) (μ : Gt → Nat → Int64 → Int32 → Nat) (hS : ∀ (G : Gt) (a0 : Nat) (y1 : Int64) (x3 : Int32), I G a0 y1 x3 → wX10_fingerprint_50 X Pr (fun G' a0' y1' x3' => I G' a0' y1' x3' ∧ μ G' a0' y1' x3' < μ G a0 y1 x3) G a0 y1 x3) : ∀ (n : Nat) (G : Gt) (a0 : Nat) (y1 : Int64) (x3 : Int32), μ G a0 y1 x3 < n → I G a0 y1 x3 → WM X K (QM X K G0 (rJ Pr) noX) G 50 [some (.ref a0), some (.long y1), none, some (.int x3), none, none] [] := by
  intro n
  induction n with
  | zero => intro G a0 y1 x3 hm; exact absurd hm (Nat.not_lt_zero _)
  | succ n ih =>
    intro G a0 y1 x3 hm hi
    exact bX10_fingerprint_50 B (fun G' a0' y1' x3' hk => ih G' a0' y1' x3' (Nat.lt_of_lt_of_le hk.2 (Nat.le_of_lt_succ hm)) hk.1) (hS G a0 y1 x3 hi)
def wX10_fingerprint_19 (X : Xt) (Pr : Int64 → Gt → Prop) (k19 : Gt → Nat → Int64 → Int32 → Prop) (G : Gt) (a0 : Nat) (y1 : Int64) (x3 : Int32) : Prop := (6 ≤ x3 → ∃ (I : Gt → Nat → Int64 → Int32 → Prop) (μ : Gt → Nat → Int64 → Int32 → Nat), I G a0 y1 (0 : Int32) ∧ ∀ (G : Gt) (a0 : Nat) (y1 : Int64) (x3 : Int32), I G a0 y1 x3 → wX10_fingerprint_50 X Pr (fun G' a0' y1' x3' => I G' a0' y1' x3' ∧ μ G' a0' y1' x3' < μ G a0 y1 x3) G a0 y1 x3) ∧ (¬ (6 ≤ x3) → gT G a0 = (1, 11) ∧ ∃ b41, gR G 352 a0 = some b41 ∧ (gT G b41).1 = 2 ∧ vp_in (10 + x3) (gT G b41).2 ∧ k19 G a0 (((31 : Int64) * y1) + ((gA G b41 (10 + x3).toNatClampNeg) : Int32).toInt64) (x3 + 1))
set_option maxRecDepth 20000 in
theorem bX10_fingerprint_19 {X : Xt} {K : Kt} {l : Launch} {G0 : Gt} {Pr : Int64 → Gt → Prop} (B : BX X K l cX10_fingerprint 6 RX10 3 65 G0 (some (.long)) "fingerprint") {k19 : Gt → Nat → Int64 → Int32 → Prop} (hk19 : ∀ (G : Gt) (a0 : Nat) (y1 : Int64) (x3 : Int32), k19 G a0 y1 x3 → WM X K (QM X K G0 (rJ Pr) noX) G 19 [some (.ref a0), some (.long y1), none, some (.int x3), none, none] []) {G : Gt} {a0 : Nat} {y1 : Int64} {x3 : Int32} (h : wX10_fingerprint_19 X Pr k19 G a0 y1 x3) : WM X K (QM X K G0 (rJ Pr) noX) G 19 [some (.ref a0), some (.long y1), none, some (.int x3), none, none] [] := by
  obtain ⟨hL, C, E0, hr, hnm, hex, hfl⟩ := id B
  unfold wX10_fingerprint_19 at h
  refine r_iload_n C 3 dX10_fingerprint_19 rfl rfl ?_
  refine r_bipush C 6 dX10_fingerprint_20 (by decide) ?_
  refine r_icmp_ge C 48 dX10_fingerprint_22 (by decide) (fun c => ?_) (fun c => ?_)
  · replace h := h.1 c
    refine r_iconst C 0 dX10_fingerprint_48 (by decide) ?_
    refine r_istore_n C 3 (lv' := [some (.ref a0), some (.long y1), none, some (.int 0), none, none]) dX10_fingerprint_49 rfl (Nat.le_of_ble_eq_true rfl) rfl rfl ?_
    obtain ⟨I, μ, hI, hS⟩ := h
    exact lX10_fingerprint_50 B I μ hS _ _ _ _ _ (Nat.lt_succ_self _) hI
  · replace h := h.2 c
    refine r_ldc2 C kl_RX10_226 dX10_fingerprint_25 ?_
    refine r_lload_n C 1 dX10_fingerprint_28 rfl rfl ?_
    refine r_lmul C dX10_fingerprint_29 ?_
    refine r_aloadR_n C 0 dX10_fingerprint_30 rfl rfl ?_
    obtain ⟨ht, h⟩ := h
    obtain ⟨b41, hb, h⟩ := h
    refine r_getR C fw_RX10_7 rfl ht hb dX10_fingerprint_31 ?_
    refine r_bipush C 10 dX10_fingerprint_34 (by decide) ?_
    refine r_iload_n C 3 dX10_fingerprint_36 rfl rfl ?_
    refine r_iadd C dX10_fingerprint_37 ?_
    obtain ⟨ht, hi, h⟩ := h
    refine r_ialdP C ht hi dX10_fingerprint_38 ?_
    refine r_i2l C dX10_fingerprint_39 ?_
    refine r_ladd C dX10_fingerprint_40 ?_
    refine r_lstore_n C 1 (lv' := [some (.ref a0), some (.long (((31 : Int64) * y1) + ((gA G b41 (10 + x3).toNatClampNeg) : Int32).toInt64)), none, some (.int x3), none, none]) dX10_fingerprint_41 rfl (Nat.le_of_ble_eq_true rfl) rfl rfl ?_
    refine r_iinc C 1 (lv' := [some (.ref a0), some (.long (((31 : Int64) * y1) + ((gA G b41 (10 + x3).toNatClampNeg) : Int32).toInt64)), none, some (.int (x3 + 1)), none, none]) dX10_fingerprint_42 rfl (by decide) rfl rfl ?_
    refine r_goto C 19 dX10_fingerprint_45 (by decide) ?_
    exact hk19 _ _ _ _ h
theorem lX10_fingerprint_19 {X : Xt} {K : Kt} {l : Launch} {G0 : Gt} {Pr : Int64 → Gt → Prop} (B : BX X K l cX10_fingerprint 6 RX10 3 65 G0 (some (.long)) "fingerprint") (I : Gt → Nat → Int64 → Int32 → Prop) (μ : Gt → Nat → Int64 → Int32 → Nat) (hS : ∀ (G : Gt) (a0 : Nat) (y1 : Int64) (x3 : Int32), I G a0 y1 x3 → wX10_fingerprint_19 X Pr (fun G' a0' y1' x3' => I G' a0' y1' x3' ∧ μ G' a0' y1' x3' < μ G a0 y1 x3) G a0 y1 x3) : ∀ (n : Nat) (G : Gt) (a0 : Nat) (y1 : Int64) (x3 : Int32), μ G a0 y1 x3 < n → I G a0 y1 x3 → WM X K (QM X K G0 (rJ Pr) noX) G 19 [some (.ref a0), some (.long y1), none, some (.int x3), none, none] [] := by
  intro n
  induction n with
  | zero => intro G a0 y1 x3 hm; exact absurd hm (Nat.not_lt_zero _)
  | succ n ih =>
    intro G a0 y1 x3 hm hi
    exact bX10_fingerprint_19 B (fun G' a0' y1' x3' hk => ih G' a0' y1' x3' (Nat.lt_of_lt_of_le hk.2 (Nat.le_of_lt_succ hm)) hk.1) (hS G a0 y1 x3 hi)
def wX10_fingerprint (X : Xt) (G : Gt) (a0 : Nat) (Pr : Int64 → Gt → Prop) : Prop := gT G a0 = (1, 11) ∧ ∀ G1, G1 = sI G 354 a0 0 → gT G1 a0 = (1, 11) ∧ ∃ b2, gR G1 352 a0 = some b2 ∧ (gT G1 b2).1 = 2 ∧ vp_in 0 (gT G1 b2).2 ∧ ∃ (I : Gt → Nat → Int64 → Int32 → Prop) (μ : Gt → Nat → Int64 → Int32 → Nat), I G1 a0 ((2263 : Int64) + ((gA G1 b2 (0 : Int32).toNatClampNeg) : Int32).toInt64) (0 : Int32) ∧ ∀ (G : Gt) (a0 : Nat) (y1 : Int64) (x3 : Int32), I G a0 y1 x3 → wX10_fingerprint_19 X Pr (fun G' a0' y1' x3' => I G' a0' y1' x3' ∧ μ G' a0' y1' x3' < μ G a0 y1 x3) G a0 y1 x3
set_option maxRecDepth 20000 in
theorem mX10_fingerprint {X : Xt} {l : Launch} (hfl : l.stackTraces = false) {G : Gt} {a0 : Nat} {Pr : Int64 → Gt → Prop} (h : wX10_fingerprint X G a0 Pr) : Mc X l yX10_fingerprint (.code yX10_fingerprint cX10_fingerprint 6 (some (.long))) 3 65 [.ref a0] G (rJ Pr) noX := by
  refine Mc.of (by decide +kernel) hfl [some (.ref a0), none, none, none, none, none] rfl (Nat.le_of_ble_eq_true rfl) rfl ?_
  intro K hL C E0 hr hnm hex
  have B : BX X K l cX10_fingerprint 6 RX10 3 65 G (some (.long)) "fingerprint" := ⟨hL, C, E0, hr, hnm, hex, hfl⟩
  have C : Cx X K cX10_fingerprint 6 RX10 3 65 := C
  unfold wX10_fingerprint at h
  refine r_aloadR_n C 0 dX10_fingerprint_0 rfl rfl ?_
  refine r_iconst C 0 dX10_fingerprint_1 (by decide) ?_
  obtain ⟨ht, h⟩ := h
  refine r_putI C cw_11 fp_RX10_36 rfl ht dX10_fingerprint_2 ?_
  refine r_nm (fun G1 hG1 => ?_)
  replace h := h G1 hG1
  refine r_ldc2 C kl_RX10_224 dX10_fingerprint_5 ?_
  refine r_aloadR_n C 0 dX10_fingerprint_8 rfl rfl ?_
  obtain ⟨ht, h⟩ := h
  obtain ⟨b2, hb, h⟩ := h
  refine r_getR C fw_RX10_7 rfl ht hb dX10_fingerprint_9 ?_
  refine r_iconst C 0 dX10_fingerprint_12 (by decide) ?_
  obtain ⟨ht, hi, h⟩ := h
  refine r_ialdP C ht hi dX10_fingerprint_13 ?_
  refine r_i2l C dX10_fingerprint_14 ?_
  refine r_ladd C dX10_fingerprint_15 ?_
  refine r_lstore_n C 1 (lv' := [some (.ref a0), some (.long ((2263 : Int64) + ((gA G1 b2 (0 : Int32).toNatClampNeg) : Int32).toInt64)), none, none, none, none]) dX10_fingerprint_16 rfl (Nat.le_of_ble_eq_true rfl) rfl rfl ?_
  refine r_iconst C 0 dX10_fingerprint_17 (by decide) ?_
  refine r_istore_n C 3 (lv' := [some (.ref a0), some (.long ((2263 : Int64) + ((gA G1 b2 (0 : Int32).toNatClampNeg) : Int32).toInt64)), none, some (.int 0), none, none]) dX10_fingerprint_18 rfl (Nat.le_of_ble_eq_true rfl) rfl rfl ?_
  obtain ⟨I, μ, hI, hS⟩ := h
  exact lX10_fingerprint_19 B I μ hS _ _ _ _ _ (Nat.lt_succ_self _) hI
