def wL_set (X : Xt) (G : Gt) (a0 : Nat) (x1 : Int32) (x2 : Int32) (a3 : Nat) (Pr : Int32 → Gt → Prop) : Prop := gT G a0 = (1, 10) ∧ wX9_set X G a0 x1 x2 (fun r1 G2 => (gT G2 a3).1 = 5 ∧ vp_in 0 (gT G2 a3).2 ∧ ∀ G3, G3 = sE G2 a3 (vp_updL (gE G2 a3) (0 : Int32).toNatClampNeg ((r1 : Int32).toInt64)) → Pr 0 G3) (fun (E : String) (g : Gt) => (E = "java/lang/IndexOutOfBoundsException" ∧ Pr 1 g) ∨ (E = "java/lang/IllegalArgumentException" ∧ Pr 2 g))
set_option maxRecDepth 20000 in
theorem mL_set {X : Xt} {l : Launch} (hfl : l.stackTraces = false) {G : Gt} {a0 : Nat} {x1 : Int32} {x2 : Int32} {a3 : Nat} {Pr : Int32 → Gt → Prop} (h : wL_set X G a0 x1 x2 a3 Pr) : Mc X l yL_set (.codeWith yL_set cL_set 5 (some (.int)) [(0, 10, 13, 13), (0, 10, 17, 15)]) 8 145 [.ref a0, .int x1, .int x2, .ref a3] G (rI Pr) noX := by
  refine Mc.ofH (by decide +kernel) hfl [some (.ref a0), some (.int x1), some (.int x2), some (.ref a3), none] rfl (Nat.le_of_ble_eq_true rfl) rfl ?_
  intro K hL C E0 hr hnm hexT
  have C : Cx X K cL_set 5 RL 8 145 := C
  unfold wL_set at h
  refine r_aloadR_n C 3 dL_set_0 rfl rfl ?_
  refine r_iconst C 0 dL_set_1 (by decide) ?_
  refine r_aloadR_n C 0 dL_set_2 rfl rfl ?_
  refine r_iload_n C 1 dL_set_3 rfl rfl ?_
  refine r_iload_n C 2 dL_set_4 rfl rfl ?_
  have hkx : ∀ (E : String) (g : Gt), (fun (E : String) (g : Gt) => (E = "java/lang/IndexOutOfBoundsException" ∧ Pr 1 g) ∨ (E = "java/lang/IllegalArgumentException" ∧ Pr 2 g)) E g → XM X K (QM X K G (rI Pr) noX) g 5 [some (.ref a0), some (.int x1), some (.int x2), some (.ref a3), none] [.int 0, .ref a3] E := by
    intro E g h
    rcases h with ⟨rfl, h⟩ | ⟨rfl, h⟩
    · refine x_catch C hexT [] 0 10 13 13 [(0, 10, 17, 15)] rfl cl_RL_13 ca_java_lang_IndexOutOfBoundsException (by decide) (by decide) pz_nil (fun q => ?_)
      refine r_astoreR C (lv' := [some (.ref a0), some (.int x1), some (.int x2), some (.ref a3), some (.ref q)]) dL_set_13 (Nat.le_of_ble_eq_true rfl) rfl rfl ?_
      refine r_iconst C 1 dL_set_15 (by decide) ?_
      exact r_iret C E0 hr ⟨_, rfl, h⟩ dL_set_16
    · refine x_catch C hexT [(0, 10, 13, 13)] 0 10 17 15 [] rfl cl_RL_15 ca_java_lang_IllegalArgumentException (by decide) (by decide) (pz_cons ⟨by decide, _, cl_RL_13, C.2.2.2.2.2.1.2.2.2.2.2.2.2.2.2.1.1⟩ pz_nil) (fun q => ?_)
      refine r_astoreR C (lv' := [some (.ref a0), some (.int x1), some (.int x2), some (.ref a3), some (.ref q)]) dL_set_17 (Nat.le_of_ble_eq_true rfl) rfl rfl ?_
      refine r_iconst C 2 dL_set_19 (by decide) ?_
      exact r_iret C E0 hr ⟨_, rfl, h⟩ dL_set_20
  obtain ⟨ht, h⟩ := h
  refine r_callV C (r := (RX9, TX9, 3)) hL yw_X9_set vw_RL_7 rfl rfl ht rfl rfl (Nat.le_of_ble_eq_true rfl) ⟨(Nat.le_of_ble_eq_true rfl), (Nat.le_of_ble_eq_true rfl)⟩ (mX9_set hfl h) rfl dL_set_5 (kI (fun r1 G2 h => ?_)) hkx
  refine r_i2l C dL_set_8 ?_
  obtain ⟨ht, hi, h⟩ := h
  refine r_lastP C ht hi dL_set_9 ?_
  refine r_nm (fun G3 hG3 => ?_)
  replace h := h G3 hG3
  refine r_goto C 21 dL_set_10 (by decide) ?_
  refine r_iconst C 0 dL_set_21 (by decide) ?_
  exact r_iret C E0 hr ⟨_, rfl, h⟩ dL_set_22
def wL_setDevice (X : Xt) (G : Gt) (a0 : Nat) (x1 : Int32) (x2 : Int32) (x3 : Int32) (a4 : Nat) (Pr : Int32 → Gt → Prop) : Prop := gT G a0 = (1, 10) ∧ wX9_setDevice X G a0 x1 x2 x3 (fun r1 G2 => (gT G2 a4).1 = 5 ∧ vp_in 0 (gT G2 a4).2 ∧ ∀ G3, G3 = sE G2 a4 (vp_updL (gE G2 a4) (0 : Int32).toNatClampNeg ((r1 : Int32).toInt64)) → Pr 0 G3) (fun (E : String) (g : Gt) => (E = "java/lang/IndexOutOfBoundsException" ∧ Pr 1 g) ∨ (E = "java/lang/IllegalArgumentException" ∧ Pr 2 g))
set_option maxRecDepth 20000 in
theorem mL_setDevice {X : Xt} {l : Launch} (hfl : l.stackTraces = false) {G : Gt} {a0 : Nat} {x1 : Int32} {x2 : Int32} {x3 : Int32} {a4 : Nat} {Pr : Int32 → Gt → Prop} (h : wL_setDevice X G a0 x1 x2 x3 a4 Pr) : Mc X l yL_setDevice (.codeWith yL_setDevice cL_setDevice 6 (some (.int)) [(0, 12, 15, 13), (0, 12, 19, 15)]) 8 147 [.ref a0, .int x1, .int x2, .int x3, .ref a4] G (rI Pr) noX := by
  refine Mc.ofH (by decide +kernel) hfl [some (.ref a0), some (.int x1), some (.int x2), some (.int x3), some (.ref a4), none] rfl (Nat.le_of_ble_eq_true rfl) rfl ?_
  intro K hL C E0 hr hnm hexT
  have C : Cx X K cL_setDevice 6 RL 8 147 := C
  unfold wL_setDevice at h
  refine r_aloadR C dL_setDevice_0 rfl ?_
  refine r_iconst C 0 dL_setDevice_2 (by decide) ?_
  refine r_aloadR_n C 0 dL_setDevice_3 rfl rfl ?_
  refine r_iload_n C 1 dL_setDevice_4 rfl rfl ?_
  refine r_iload_n C 2 dL_setDevice_5 rfl rfl ?_
  refine r_iload_n C 3 dL_setDevice_6 rfl rfl ?_
  have hkx : ∀ (E : String) (g : Gt), (fun (E : String) (g : Gt) => (E = "java/lang/IndexOutOfBoundsException" ∧ Pr 1 g) ∨ (E = "java/lang/IllegalArgumentException" ∧ Pr 2 g)) E g → XM X K (QM X K G (rI Pr) noX) g 7 [some (.ref a0), some (.int x1), some (.int x2), some (.int x3), some (.ref a4), none] [.int 0, .ref a4] E := by
    intro E g h
    rcases h with ⟨rfl, h⟩ | ⟨rfl, h⟩
    · refine x_catch C hexT [] 0 12 15 13 [(0, 12, 19, 15)] rfl cl_RL_13 ca_java_lang_IndexOutOfBoundsException (by decide) (by decide) pz_nil (fun q => ?_)
      refine r_astoreR C (lv' := [some (.ref a0), some (.int x1), some (.int x2), some (.int x3), some (.ref a4), some (.ref q)]) dL_setDevice_15 (Nat.le_of_ble_eq_true rfl) rfl rfl ?_
      refine r_iconst C 1 dL_setDevice_17 (by decide) ?_
      exact r_iret C E0 hr ⟨_, rfl, h⟩ dL_setDevice_18
    · refine x_catch C hexT [(0, 12, 15, 13)] 0 12 19 15 [] rfl cl_RL_15 ca_java_lang_IllegalArgumentException (by decide) (by decide) (pz_cons ⟨by decide, _, cl_RL_13, C.2.2.2.2.2.1.2.2.2.2.2.2.2.2.2.1.1⟩ pz_nil) (fun q => ?_)
      refine r_astoreR C (lv' := [some (.ref a0), some (.int x1), some (.int x2), some (.int x3), some (.ref a4), some (.ref q)]) dL_setDevice_19 (Nat.le_of_ble_eq_true rfl) rfl rfl ?_
      refine r_iconst C 2 dL_setDevice_21 (by decide) ?_
      exact r_iret C E0 hr ⟨_, rfl, h⟩ dL_setDevice_22
  obtain ⟨ht, h⟩ := h
  refine r_callV C (r := (RX9, TX9, 3)) hL yw_X9_setDevice vw_RL_17 rfl rfl ht rfl rfl (Nat.le_of_ble_eq_true rfl) ⟨(Nat.le_of_ble_eq_true rfl), (Nat.le_of_ble_eq_true rfl)⟩ (mX9_setDevice hfl h) rfl dL_setDevice_7 (kI (fun r1 G2 h => ?_)) hkx
  refine r_i2l C dL_setDevice_10 ?_
  obtain ⟨ht, hi, h⟩ := h
  refine r_lastP C ht hi dL_setDevice_11 ?_
  refine r_nm (fun G3 hG3 => ?_)
  replace h := h G3 hG3
  refine r_goto C 23 dL_setDevice_12 (by decide) ?_
  refine r_iconst C 0 dL_setDevice_23 (by decide) ?_
  exact r_iret C E0 hr ⟨_, rfl, h⟩ dL_setDevice_24
def wL_poke (X : Xt) (G : Gt) (a0 : Nat) (x1 : Int32) (x2 : Int32) (x3 : Int32) (a4 : Nat) (Pr : Int32 → Gt → Prop) : Prop := gT G a0 = (1, 10) ∧ wX9_poke X G a0 x1 x2 x3 (fun r1 G2 => (gT G2 a4).1 = 5 ∧ vp_in 0 (gT G2 a4).2 ∧ ∀ G3, G3 = sE G2 a4 (vp_updL (gE G2 a4) (0 : Int32).toNatClampNeg ((r1 : Int32).toInt64)) → Pr 0 G3) (fun (E : String) (g : Gt) => (E = "java/lang/IndexOutOfBoundsException" ∧ Pr 1 g) ∨ (E = "java/lang/IllegalArgumentException" ∧ Pr 2 g))
set_option maxRecDepth 20000 in
theorem mL_poke {X : Xt} {l : Launch} (hfl : l.stackTraces = false) {G : Gt} {a0 : Nat} {x1 : Int32} {x2 : Int32} {x3 : Int32} {a4 : Nat} {Pr : Int32 → Gt → Prop} (h : wL_poke X G a0 x1 x2 x3 a4 Pr) : Mc X l yL_poke (.codeWith yL_poke cL_poke 6 (some (.int)) [(0, 12, 15, 13), (0, 12, 19, 15)]) 9 166 [.ref a0, .int x1, .int x2, .int x3, .ref a4] G (rI Pr) noX := by
  refine Mc.ofH (by decide +kernel) hfl [some (.ref a0), some (.int x1), some (.int x2), some (.int x3), some (.ref a4), none] rfl (Nat.le_of_ble_eq_true rfl) rfl ?_
  intro K hL C E0 hr hnm hexT
  have C : Cx X K cL_poke 6 RL 9 166 := C
  unfold wL_poke at h
  refine r_aloadR C dL_poke_0 rfl ?_
  refine r_iconst C 0 dL_poke_2 (by decide) ?_
  refine r_aloadR_n C 0 dL_poke_3 rfl rfl ?_
  refine r_iload_n C 1 dL_poke_4 rfl rfl ?_
  refine r_iload_n C 2 dL_poke_5 rfl rfl ?_
  refine r_iload_n C 3 dL_poke_6 rfl rfl ?_
  have hkx : ∀ (E : String) (g : Gt), (fun (E : String) (g : Gt) => (E = "java/lang/IndexOutOfBoundsException" ∧ Pr 1 g) ∨ (E = "java/lang/IllegalArgumentException" ∧ Pr 2 g)) E g → XM X K (QM X K G (rI Pr) noX) g 7 [some (.ref a0), some (.int x1), some (.int x2), some (.int x3), some (.ref a4), none] [.int 0, .ref a4] E := by
    intro E g h
    rcases h with ⟨rfl, h⟩ | ⟨rfl, h⟩
    · refine x_catch C hexT [] 0 12 15 13 [(0, 12, 19, 15)] rfl cl_RL_13 ca_java_lang_IndexOutOfBoundsException (by decide) (by decide) pz_nil (fun q => ?_)
      refine r_astoreR C (lv' := [some (.ref a0), some (.int x1), some (.int x2), some (.int x3), some (.ref a4), some (.ref q)]) dL_poke_15 (Nat.le_of_ble_eq_true rfl) rfl rfl ?_
      refine r_iconst C 1 dL_poke_17 (by decide) ?_
      exact r_iret C E0 hr ⟨_, rfl, h⟩ dL_poke_18
    · refine x_catch C hexT [(0, 12, 15, 13)] 0 12 19 15 [] rfl cl_RL_15 ca_java_lang_IllegalArgumentException (by decide) (by decide) (pz_cons ⟨by decide, _, cl_RL_13, C.2.2.2.2.2.1.2.2.2.2.2.2.2.2.2.1.1⟩ pz_nil) (fun q => ?_)
      refine r_astoreR C (lv' := [some (.ref a0), some (.int x1), some (.int x2), some (.int x3), some (.ref a4), some (.ref q)]) dL_poke_19 (Nat.le_of_ble_eq_true rfl) rfl rfl ?_
      refine r_iconst C 2 dL_poke_21 (by decide) ?_
      exact r_iret C E0 hr ⟨_, rfl, h⟩ dL_poke_22
  obtain ⟨ht, h⟩ := h
  refine r_callV C (r := (RX9, TX9, 3)) hL yw_X9_poke vw_RL_21 rfl rfl ht rfl rfl (Nat.le_of_ble_eq_true rfl) ⟨(Nat.le_of_ble_eq_true rfl), (Nat.le_of_ble_eq_true rfl)⟩ (mX9_poke hfl h) rfl dL_poke_7 (kI (fun r1 G2 h => ?_)) hkx
  refine r_i2l C dL_poke_10 ?_
  obtain ⟨ht, hi, h⟩ := h
  refine r_lastP C ht hi dL_poke_11 ?_
  refine r_nm (fun G3 hG3 => ?_)
  replace h := h G3 hG3
  refine r_goto C 23 dL_poke_12 (by decide) ?_
  refine r_iconst C 0 dL_poke_23 (by decide) ?_
  exact r_iret C E0 hr ⟨_, rfl, h⟩ dL_poke_24
def wL_peek (X : Xt) (G : Gt) (a0 : Nat) (x1 : Int32) (x2 : Int32) (a3 : Nat) (Pr : Int32 → Gt → Prop) : Prop := gT G a0 = (1, 10) ∧ wX9_peek X G a0 x1 x2 (fun r1 G2 => (gT G2 a3).1 = 5 ∧ vp_in 0 (gT G2 a3).2 ∧ ∀ G3, G3 = sE G2 a3 (vp_updL (gE G2 a3) (0 : Int32).toNatClampNeg ((r1 : Int32).toInt64)) → Pr 0 G3) (fun (E : String) (g : Gt) => (E = "java/lang/IndexOutOfBoundsException" ∧ Pr 1 g))
set_option maxRecDepth 20000 in
theorem mL_peek {X : Xt} {l : Launch} (hfl : l.stackTraces = false) {G : Gt} {a0 : Nat} {x1 : Int32} {x2 : Int32} {a3 : Nat} {Pr : Int32 → Gt → Prop} (h : wL_peek X G a0 x1 x2 a3 Pr) : Mc X l yL_peek (.codeWith yL_peek cL_peek 5 (some (.int)) [(0, 10, 13, 13)]) 9 163 [.ref a0, .int x1, .int x2, .ref a3] G (rI Pr) noX := by
  refine Mc.ofH (by decide +kernel) hfl [some (.ref a0), some (.int x1), some (.int x2), some (.ref a3), none] rfl (Nat.le_of_ble_eq_true rfl) rfl ?_
  intro K hL C E0 hr hnm hexT
  have C : Cx X K cL_peek 5 RL 9 163 := C
  unfold wL_peek at h
  refine r_aloadR_n C 3 dL_peek_0 rfl rfl ?_
  refine r_iconst C 0 dL_peek_1 (by decide) ?_
  refine r_aloadR_n C 0 dL_peek_2 rfl rfl ?_
  refine r_iload_n C 1 dL_peek_3 rfl rfl ?_
  refine r_iload_n C 2 dL_peek_4 rfl rfl ?_
  have hkx : ∀ (E : String) (g : Gt), (fun (E : String) (g : Gt) => (E = "java/lang/IndexOutOfBoundsException" ∧ Pr 1 g)) E g → XM X K (QM X K G (rI Pr) noX) g 5 [some (.ref a0), some (.int x1), some (.int x2), some (.ref a3), none] [.int 0, .ref a3] E := by
    intro E g h
    rcases h with ⟨rfl, h⟩
    · refine x_catch C hexT [] 0 10 13 13 [] rfl cl_RL_13 ca_java_lang_IndexOutOfBoundsException (by decide) (by decide) pz_nil (fun q => ?_)
      refine r_astoreR C (lv' := [some (.ref a0), some (.int x1), some (.int x2), some (.ref a3), some (.ref q)]) dL_peek_13 (Nat.le_of_ble_eq_true rfl) rfl rfl ?_
      refine r_iconst C 1 dL_peek_15 (by decide) ?_
      exact r_iret C E0 hr ⟨_, rfl, h⟩ dL_peek_16
  obtain ⟨ht, h⟩ := h
  refine r_callV C (r := (RX9, TX9, 3)) hL yw_X9_peek vw_RL_24 rfl rfl ht rfl rfl (Nat.le_of_ble_eq_true rfl) ⟨(Nat.le_of_ble_eq_true rfl), (Nat.le_of_ble_eq_true rfl)⟩ (mX9_peek hfl h) rfl dL_peek_5 (kI (fun r1 G2 h => ?_)) hkx
  refine r_i2l C dL_peek_8 ?_
  obtain ⟨ht, hi, h⟩ := h
  refine r_lastP C ht hi dL_peek_9 ?_
  refine r_nm (fun G3 hG3 => ?_)
  replace h := h G3 hG3
  refine r_goto C 17 dL_peek_10 (by decide) ?_
  refine r_iconst C 0 dL_peek_17 (by decide) ?_
  exact r_iret C E0 hr ⟨_, rfl, h⟩ dL_peek_18
def wL_protect (X : Xt) (G : Gt) (a0 : Nat) (x1 : Int32) (x2 : Int32) (x3 : Int32) (a4 : Nat) (Pr : Int32 → Gt → Prop) : Prop := gT G a0 = (1, 10) ∧ wX9_protect X G a0 x1 x2 x3 (fun r1 G2 => (r1 = 0 → (gT G2 a4).1 = 5 ∧ vp_in 0 (gT G2 a4).2 ∧ ∀ G23, G23 = sE G2 a4 (vp_updL (gE G2 a4) (0 : Int32).toNatClampNeg (0 : Int64)) → Pr 0 G23) ∧ (¬ (r1 = 0) → (gT G2 a4).1 = 5 ∧ vp_in 0 (gT G2 a4).2 ∧ ∀ G43, G43 = sE G2 a4 (vp_updL (gE G2 a4) (0 : Int32).toNatClampNeg (1 : Int64)) → Pr 0 G43)) (fun (E : String) (g : Gt) => (E = "java/lang/IndexOutOfBoundsException" ∧ Pr 1 g))
set_option maxRecDepth 20000 in
theorem mL_protect {X : Xt} {l : Launch} (hfl : l.stackTraces = false) {G : Gt} {a0 : Nat} {x1 : Int32} {x2 : Int32} {x3 : Int32} {a4 : Nat} {Pr : Int32 → Gt → Prop} (h : wL_protect X G a0 x1 x2 x3 a4 Pr) : Mc X l yL_protect (.codeWith yL_protect cL_protect 6 (some (.int)) [(0, 19, 22, 13)]) 9 167 [.ref a0, .int x1, .int x2, .int x3, .ref a4] G (rI Pr) noX := by
  refine Mc.ofH (by decide +kernel) hfl [some (.ref a0), some (.int x1), some (.int x2), some (.int x3), some (.ref a4), none] rfl (Nat.le_of_ble_eq_true rfl) rfl ?_
  intro K hL C E0 hr hnm hexT
  have C : Cx X K cL_protect 6 RL 9 167 := C
  unfold wL_protect at h
  refine r_aloadR C dL_protect_0 rfl ?_
  refine r_iconst C 0 dL_protect_2 (by decide) ?_
  refine r_aloadR_n C 0 dL_protect_3 rfl rfl ?_
  refine r_iload_n C 1 dL_protect_4 rfl rfl ?_
  refine r_iload_n C 2 dL_protect_5 rfl rfl ?_
  refine r_iload_n C 3 dL_protect_6 rfl rfl ?_
  have hkx : ∀ (E : String) (g : Gt), (fun (E : String) (g : Gt) => (E = "java/lang/IndexOutOfBoundsException" ∧ Pr 1 g)) E g → XM X K (QM X K G (rI Pr) noX) g 7 [some (.ref a0), some (.int x1), some (.int x2), some (.int x3), some (.ref a4), none] [.int 0, .ref a4] E := by
    intro E g h
    rcases h with ⟨rfl, h⟩
    · refine x_catch C hexT [] 0 19 22 13 [] rfl cl_RL_13 ca_java_lang_IndexOutOfBoundsException (by decide) (by decide) pz_nil (fun q => ?_)
      refine r_astoreR C (lv' := [some (.ref a0), some (.int x1), some (.int x2), some (.int x3), some (.ref a4), some (.ref q)]) dL_protect_22 (Nat.le_of_ble_eq_true rfl) rfl rfl ?_
      refine r_iconst C 1 dL_protect_24 (by decide) ?_
      exact r_iret C E0 hr ⟨_, rfl, h⟩ dL_protect_25
  obtain ⟨ht, h⟩ := h
  refine r_callV C (r := (RX9, TX9, 3)) hL yw_X9_protect vw_RL_27 rfl rfl ht rfl rfl (Nat.le_of_ble_eq_true rfl) ⟨(Nat.le_of_ble_eq_true rfl), (Nat.le_of_ble_eq_true rfl)⟩ (mX9_protect hfl h) rfl dL_protect_7 (kI (fun r1 G2 h => ?_)) hkx
  refine r_if_eq C 17 dL_protect_10 (by decide) (fun c => ?_) (fun c => ?_)
  · replace h := h.1 c
    refine r_lconst C 0 dL_protect_17 (by decide) ?_
    obtain ⟨ht, hi, h⟩ := h
    refine r_lastP C ht hi dL_protect_18 ?_
    refine r_nm (fun G23 hG23 => ?_)
    replace h := h G23 hG23
    refine r_goto C 26 dL_protect_19 (by decide) ?_
    refine r_iconst C 0 dL_protect_26 (by decide) ?_
    exact r_iret C E0 hr ⟨_, rfl, h⟩ dL_protect_27
  · replace h := h.2 c
    refine r_lconst C 1 dL_protect_13 (by decide) ?_
    refine r_goto C 18 dL_protect_14 (by decide) ?_
    obtain ⟨ht, hi, h⟩ := h
    refine r_lastP C ht hi dL_protect_18 ?_
    refine r_nm (fun G43 hG43 => ?_)
    replace h := h G43 hG43
    refine r_goto C 26 dL_protect_19 (by decide) ?_
    refine r_iconst C 0 dL_protect_26 (by decide) ?_
    exact r_iret C E0 hr ⟨_, rfl, h⟩ dL_protect_27
def wL_fault (X : Xt) (G : Gt) (a0 : Nat) (x1 : Int32) (x2 : Int32) (x3 : Int32) (a4 : Nat) (Pr : Int32 → Gt → Prop) : Prop := gT G a0 = (1, 10) ∧ wX9_fault X G a0 x1 x2 x3 (fun r1 G2 => (gT G2 a4).1 = 5 ∧ vp_in 0 (gT G2 a4).2 ∧ ∀ G3, G3 = sE G2 a4 (vp_updL (gE G2 a4) (0 : Int32).toNatClampNeg ((r1 : Int32).toInt64)) → Pr 0 G3) (fun (E : String) (g : Gt) => (E = "java/lang/IndexOutOfBoundsException" ∧ Pr 1 g) ∨ (E = "java/lang/IllegalArgumentException" ∧ Pr 2 g) ∨ (E = "java/lang/IllegalStateException" ∧ Pr 3 g))
set_option maxRecDepth 20000 in
theorem mL_fault {X : Xt} {l : Launch} (hfl : l.stackTraces = false) {G : Gt} {a0 : Nat} {x1 : Int32} {x2 : Int32} {x3 : Int32} {a4 : Nat} {Pr : Int32 → Gt → Prop} (h : wL_fault X G a0 x1 x2 x3 a4 Pr) : Mc X l yL_fault (.codeWith yL_fault cL_fault 6 (some (.int)) [(0, 12, 15, 13), (0, 12, 19, 15), (0, 12, 23, 34)]) 8 146 [.ref a0, .int x1, .int x2, .int x3, .ref a4] G (rI Pr) noX := by
  refine Mc.ofH (by decide +kernel) hfl [some (.ref a0), some (.int x1), some (.int x2), some (.int x3), some (.ref a4), none] rfl (Nat.le_of_ble_eq_true rfl) rfl ?_
  intro K hL C E0 hr hnm hexT
  have C : Cx X K cL_fault 6 RL 8 146 := C
  unfold wL_fault at h
  refine r_aloadR C dL_fault_0 rfl ?_
  refine r_iconst C 0 dL_fault_2 (by decide) ?_
  refine r_aloadR_n C 0 dL_fault_3 rfl rfl ?_
  refine r_iload_n C 1 dL_fault_4 rfl rfl ?_
  refine r_iload_n C 2 dL_fault_5 rfl rfl ?_
  refine r_iload_n C 3 dL_fault_6 rfl rfl ?_
  have hkx : ∀ (E : String) (g : Gt), (fun (E : String) (g : Gt) => (E = "java/lang/IndexOutOfBoundsException" ∧ Pr 1 g) ∨ (E = "java/lang/IllegalArgumentException" ∧ Pr 2 g) ∨ (E = "java/lang/IllegalStateException" ∧ Pr 3 g)) E g → XM X K (QM X K G (rI Pr) noX) g 7 [some (.ref a0), some (.int x1), some (.int x2), some (.int x3), some (.ref a4), none] [.int 0, .ref a4] E := by
    intro E g h
    rcases h with ⟨rfl, h⟩ | ⟨rfl, h⟩ | ⟨rfl, h⟩
    · refine x_catch C hexT [] 0 12 15 13 [(0, 12, 19, 15), (0, 12, 23, 34)] rfl cl_RL_13 ca_java_lang_IndexOutOfBoundsException (by decide) (by decide) pz_nil (fun q => ?_)
      refine r_astoreR C (lv' := [some (.ref a0), some (.int x1), some (.int x2), some (.int x3), some (.ref a4), some (.ref q)]) dL_fault_15 (Nat.le_of_ble_eq_true rfl) rfl rfl ?_
      refine r_iconst C 1 dL_fault_17 (by decide) ?_
      exact r_iret C E0 hr ⟨_, rfl, h⟩ dL_fault_18
    · refine x_catch C hexT [(0, 12, 15, 13)] 0 12 19 15 [(0, 12, 23, 34)] rfl cl_RL_15 ca_java_lang_IllegalArgumentException (by decide) (by decide) (pz_cons ⟨by decide, _, cl_RL_13, C.2.2.2.2.2.1.2.2.2.2.2.2.2.2.2.1.1⟩ pz_nil) (fun q => ?_)
      refine r_astoreR C (lv' := [some (.ref a0), some (.int x1), some (.int x2), some (.int x3), some (.ref a4), some (.ref q)]) dL_fault_19 (Nat.le_of_ble_eq_true rfl) rfl rfl ?_
      refine r_iconst C 2 dL_fault_21 (by decide) ?_
      exact r_iret C E0 hr ⟨_, rfl, h⟩ dL_fault_22
    · refine x_catch C hexT [(0, 12, 15, 13), (0, 12, 19, 15)] 0 12 23 34 [] rfl cl_RL_34 ca_java_lang_IllegalStateException (by decide) (by decide) (pz_cons ⟨by decide, _, cl_RL_13, C.2.2.2.2.2.1.2.2.2.2.2.2.2.2.2.1.2.1⟩ (pz_cons ⟨by decide, _, cl_RL_15, C.2.2.2.2.2.1.2.2.2.2.2.2.2.2.2.1.2.2⟩ pz_nil)) (fun q => ?_)
      refine r_astoreR C (lv' := [some (.ref a0), some (.int x1), some (.int x2), some (.int x3), some (.ref a4), some (.ref q)]) dL_fault_23 (Nat.le_of_ble_eq_true rfl) rfl rfl ?_
      refine r_iconst C 3 dL_fault_25 (by decide) ?_
      exact r_iret C E0 hr ⟨_, rfl, h⟩ dL_fault_26
  obtain ⟨ht, h⟩ := h
  refine r_callV C (r := (RX9, TX9, 3)) hL yw_X9_fault vw_RL_31 rfl rfl ht rfl rfl (Nat.le_of_ble_eq_true rfl) ⟨(Nat.le_of_ble_eq_true rfl), (Nat.le_of_ble_eq_true rfl)⟩ (mX9_fault hfl h) rfl dL_fault_7 (kI (fun r1 G2 h => ?_)) hkx
  refine r_i2l C dL_fault_10 ?_
  obtain ⟨ht, hi, h⟩ := h
  refine r_lastP C ht hi dL_fault_11 ?_
  refine r_nm (fun G3 hG3 => ?_)
  replace h := h G3 hG3
  refine r_goto C 27 dL_fault_12 (by decide) ?_
  refine r_iconst C 0 dL_fault_27 (by decide) ?_
  exact r_iret C E0 hr ⟨_, rfl, h⟩ dL_fault_28
def wL_read (X : Xt) (G : Gt) (a0 : Nat) (x1 : Int32) (x2 : Int32) (x3 : Int32) (x4 : Int32) (a5 : Nat) (Pr : Int32 → Gt → Prop) : Prop := gT G a0 = (1, 10) ∧ wX9_read X G a0 x1 x2 x3 x4 (fun r1 G2 => (gT G2 a5).1 = 5 ∧ vp_in 0 (gT G2 a5).2 ∧ ∀ G3, G3 = sE G2 a5 (vp_updL (gE G2 a5) (0 : Int32).toNatClampNeg ((r1 : Int32).toInt64)) → Pr 0 G3) (fun (E : String) (g : Gt) => (E = "java/lang/IndexOutOfBoundsException" ∧ Pr 1 g) ∨ (E = "java/lang/IllegalArgumentException" ∧ Pr 2 g) ∨ (E = "java/lang/IllegalStateException" ∧ Pr 3 g))
set_option maxRecDepth 20000 in
theorem mL_read {X : Xt} {l : Launch} (hfl : l.stackTraces = false) {G : Gt} {a0 : Nat} {x1 : Int32} {x2 : Int32} {x3 : Int32} {x4 : Int32} {a5 : Nat} {Pr : Int32 → Gt → Prop} (h : wL_read X G a0 x1 x2 x3 x4 a5 Pr) : Mc X l yL_read (.codeWith yL_read cL_read 7 (some (.int)) [(0, 14, 17, 13), (0, 14, 21, 15), (0, 14, 25, 34)]) 9 216 [.ref a0, .int x1, .int x2, .int x3, .int x4, .ref a5] G (rI Pr) noX := by
  refine Mc.ofH (by decide +kernel) hfl [some (.ref a0), some (.int x1), some (.int x2), some (.int x3), some (.int x4), some (.ref a5), none] rfl (Nat.le_of_ble_eq_true rfl) rfl ?_
  intro K hL C E0 hr hnm hexT
  have C : Cx X K cL_read 7 RL 9 216 := C
  unfold wL_read at h
  refine r_aloadR C dL_read_0 rfl ?_
  refine r_iconst C 0 dL_read_2 (by decide) ?_
  refine r_aloadR_n C 0 dL_read_3 rfl rfl ?_
  refine r_iload_n C 1 dL_read_4 rfl rfl ?_
  refine r_iload_n C 2 dL_read_5 rfl rfl ?_
  refine r_iload_n C 3 dL_read_6 rfl rfl ?_
  refine r_iload C dL_read_7 rfl ?_
  have hkx : ∀ (E : String) (g : Gt), (fun (E : String) (g : Gt) => (E = "java/lang/IndexOutOfBoundsException" ∧ Pr 1 g) ∨ (E = "java/lang/IllegalArgumentException" ∧ Pr 2 g) ∨ (E = "java/lang/IllegalStateException" ∧ Pr 3 g)) E g → XM X K (QM X K G (rI Pr) noX) g 9 [some (.ref a0), some (.int x1), some (.int x2), some (.int x3), some (.int x4), some (.ref a5), none] [.int 0, .ref a5] E := by
    intro E g h
    rcases h with ⟨rfl, h⟩ | ⟨rfl, h⟩ | ⟨rfl, h⟩
    · refine x_catch C hexT [] 0 14 17 13 [(0, 14, 21, 15), (0, 14, 25, 34)] rfl cl_RL_13 ca_java_lang_IndexOutOfBoundsException (by decide) (by decide) pz_nil (fun q => ?_)
      refine r_astoreR C (lv' := [some (.ref a0), some (.int x1), some (.int x2), some (.int x3), some (.int x4), some (.ref a5), some (.ref q)]) dL_read_17 (Nat.le_of_ble_eq_true rfl) rfl rfl ?_
      refine r_iconst C 1 dL_read_19 (by decide) ?_
      exact r_iret C E0 hr ⟨_, rfl, h⟩ dL_read_20
    · refine x_catch C hexT [(0, 14, 17, 13)] 0 14 21 15 [(0, 14, 25, 34)] rfl cl_RL_15 ca_java_lang_IllegalArgumentException (by decide) (by decide) (pz_cons ⟨by decide, _, cl_RL_13, C.2.2.2.2.2.1.2.2.2.2.2.2.2.2.2.1.1⟩ pz_nil) (fun q => ?_)
      refine r_astoreR C (lv' := [some (.ref a0), some (.int x1), some (.int x2), some (.int x3), some (.int x4), some (.ref a5), some (.ref q)]) dL_read_21 (Nat.le_of_ble_eq_true rfl) rfl rfl ?_
      refine r_iconst C 2 dL_read_23 (by decide) ?_
      exact r_iret C E0 hr ⟨_, rfl, h⟩ dL_read_24
    · refine x_catch C hexT [(0, 14, 17, 13), (0, 14, 21, 15)] 0 14 25 34 [] rfl cl_RL_34 ca_java_lang_IllegalStateException (by decide) (by decide) (pz_cons ⟨by decide, _, cl_RL_13, C.2.2.2.2.2.1.2.2.2.2.2.2.2.2.2.1.2.1⟩ (pz_cons ⟨by decide, _, cl_RL_15, C.2.2.2.2.2.1.2.2.2.2.2.2.2.2.2.1.2.2⟩ pz_nil)) (fun q => ?_)
      refine r_astoreR C (lv' := [some (.ref a0), some (.int x1), some (.int x2), some (.int x3), some (.int x4), some (.ref a5), some (.ref q)]) dL_read_25 (Nat.le_of_ble_eq_true rfl) rfl rfl ?_
      refine r_iconst C 3 dL_read_27 (by decide) ?_
      exact r_iret C E0 hr ⟨_, rfl, h⟩ dL_read_28
  obtain ⟨ht, h⟩ := h
  refine r_callV C (r := (RX9, TX9, 3)) hL yw_X9_read vw_RL_36 rfl rfl ht rfl rfl (Nat.le_of_ble_eq_true rfl) ⟨(Nat.le_of_ble_eq_true rfl), (Nat.le_of_ble_eq_true rfl)⟩ (mX9_read hfl h) rfl dL_read_9 (kI (fun r1 G2 h => ?_)) hkx
  refine r_i2l C dL_read_12 ?_
  obtain ⟨ht, hi, h⟩ := h
  refine r_lastP C ht hi dL_read_13 ?_
  refine r_nm (fun G3 hG3 => ?_)
  replace h := h G3 hG3
  refine r_goto C 29 dL_read_14 (by decide) ?_
  refine r_iconst C 0 dL_read_29 (by decide) ?_
  exact r_iret C E0 hr ⟨_, rfl, h⟩ dL_read_30
def wL_write (X : Xt) (G : Gt) (a0 : Nat) (x1 : Int32) (x2 : Int32) (x3 : Int32) (x4 : Int32) (a5 : Nat) (Pr : Int32 → Gt → Prop) : Prop := gT G a0 = (1, 10) ∧ wX9_write X G a0 x1 x2 x3 x4 (fun r1 G2 => (gT G2 a5).1 = 5 ∧ vp_in 0 (gT G2 a5).2 ∧ ∀ G3, G3 = sE G2 a5 (vp_updL (gE G2 a5) (0 : Int32).toNatClampNeg ((r1 : Int32).toInt64)) → Pr 0 G3) (fun (E : String) (g : Gt) => (E = "java/lang/IndexOutOfBoundsException" ∧ Pr 1 g) ∨ (E = "java/lang/IllegalArgumentException" ∧ Pr 2 g) ∨ (E = "java/lang/IllegalStateException" ∧ Pr 3 g))
set_option maxRecDepth 20000 in
theorem mL_write {X : Xt} {l : Launch} (hfl : l.stackTraces = false) {G : Gt} {a0 : Nat} {x1 : Int32} {x2 : Int32} {x3 : Int32} {x4 : Int32} {a5 : Nat} {Pr : Int32 → Gt → Prop} (h : wL_write X G a0 x1 x2 x3 x4 a5 Pr) : Mc X l yL_write (.codeWith yL_write cL_write 7 (some (.int)) [(0, 14, 17, 13), (0, 14, 21, 15), (0, 14, 25, 34)]) 9 217 [.ref a0, .int x1, .int x2, .int x3, .int x4, .ref a5] G (rI Pr) noX := by
  refine Mc.ofH (by decide +kernel) hfl [some (.ref a0), some (.int x1), some (.int x2), some (.int x3), some (.int x4), some (.ref a5), none] rfl (Nat.le_of_ble_eq_true rfl) rfl ?_
  intro K hL C E0 hr hnm hexT
  have C : Cx X K cL_write 7 RL 9 217 := C
  unfold wL_write at h
  refine r_aloadR C dL_write_0 rfl ?_
  refine r_iconst C 0 dL_write_2 (by decide) ?_
  refine r_aloadR_n C 0 dL_write_3 rfl rfl ?_
  refine r_iload_n C 1 dL_write_4 rfl rfl ?_
  refine r_iload_n C 2 dL_write_5 rfl rfl ?_
  refine r_iload_n C 3 dL_write_6 rfl rfl ?_
  refine r_iload C dL_write_7 rfl ?_
  have hkx : ∀ (E : String) (g : Gt), (fun (E : String) (g : Gt) => (E = "java/lang/IndexOutOfBoundsException" ∧ Pr 1 g) ∨ (E = "java/lang/IllegalArgumentException" ∧ Pr 2 g) ∨ (E = "java/lang/IllegalStateException" ∧ Pr 3 g)) E g → XM X K (QM X K G (rI Pr) noX) g 9 [some (.ref a0), some (.int x1), some (.int x2), some (.int x3), some (.int x4), some (.ref a5), none] [.int 0, .ref a5] E := by
    intro E g h
    rcases h with ⟨rfl, h⟩ | ⟨rfl, h⟩ | ⟨rfl, h⟩
    · refine x_catch C hexT [] 0 14 17 13 [(0, 14, 21, 15), (0, 14, 25, 34)] rfl cl_RL_13 ca_java_lang_IndexOutOfBoundsException (by decide) (by decide) pz_nil (fun q => ?_)
      refine r_astoreR C (lv' := [some (.ref a0), some (.int x1), some (.int x2), some (.int x3), some (.int x4), some (.ref a5), some (.ref q)]) dL_write_17 (Nat.le_of_ble_eq_true rfl) rfl rfl ?_
      refine r_iconst C 1 dL_write_19 (by decide) ?_
      exact r_iret C E0 hr ⟨_, rfl, h⟩ dL_write_20
    · refine x_catch C hexT [(0, 14, 17, 13)] 0 14 21 15 [(0, 14, 25, 34)] rfl cl_RL_15 ca_java_lang_IllegalArgumentException (by decide) (by decide) (pz_cons ⟨by decide, _, cl_RL_13, C.2.2.2.2.2.1.2.2.2.2.2.2.2.2.2.1.1⟩ pz_nil) (fun q => ?_)
      refine r_astoreR C (lv' := [some (.ref a0), some (.int x1), some (.int x2), some (.int x3), some (.int x4), some (.ref a5), some (.ref q)]) dL_write_21 (Nat.le_of_ble_eq_true rfl) rfl rfl ?_
      refine r_iconst C 2 dL_write_23 (by decide) ?_
      exact r_iret C E0 hr ⟨_, rfl, h⟩ dL_write_24
    · refine x_catch C hexT [(0, 14, 17, 13), (0, 14, 21, 15)] 0 14 25 34 [] rfl cl_RL_34 ca_java_lang_IllegalStateException (by decide) (by decide) (pz_cons ⟨by decide, _, cl_RL_13, C.2.2.2.2.2.1.2.2.2.2.2.2.2.2.2.1.2.1⟩ (pz_cons ⟨by decide, _, cl_RL_15, C.2.2.2.2.2.1.2.2.2.2.2.2.2.2.2.1.2.2⟩ pz_nil)) (fun q => ?_)
      refine r_astoreR C (lv' := [some (.ref a0), some (.int x1), some (.int x2), some (.int x3), some (.int x4), some (.ref a5), some (.ref q)]) dL_write_25 (Nat.le_of_ble_eq_true rfl) rfl rfl ?_
      refine r_iconst C 3 dL_write_27 (by decide) ?_
      exact r_iret C E0 hr ⟨_, rfl, h⟩ dL_write_28
  obtain ⟨ht, h⟩ := h
  refine r_callV C (r := (RX9, TX9, 3)) hL yw_X9_write vw_RL_40 rfl rfl ht rfl rfl (Nat.le_of_ble_eq_true rfl) ⟨(Nat.le_of_ble_eq_true rfl), (Nat.le_of_ble_eq_true rfl)⟩ (mX9_write hfl h) rfl dL_write_9 (kI (fun r1 G2 h => ?_)) hkx
  refine r_i2l C dL_write_12 ?_
  obtain ⟨ht, hi, h⟩ := h
  refine r_lastP C ht hi dL_write_13 ?_
  refine r_nm (fun G3 hG3 => ?_)
  replace h := h G3 hG3
  refine r_goto C 29 dL_write_14 (by decide) ?_
  refine r_iconst C 0 dL_write_29 (by decide) ?_
  exact r_iret C E0 hr ⟨_, rfl, h⟩ dL_write_30
def wL_request (X : Xt) (G : Gt) (a0 : Nat) (x1 : Int32) (x2 : Int32) (a3 : Nat) (Pr : Int32 → Gt → Prop) : Prop := gT G a0 = (1, 10) ∧ wX9_request X G a0 x1 x2 (fun r1 G2 => (gT G2 a3).1 = 5 ∧ vp_in 0 (gT G2 a3).2 ∧ ∀ G3, G3 = sE G2 a3 (vp_updL (gE G2 a3) (0 : Int32).toNatClampNeg ((r1 : Int32).toInt64)) → Pr 0 G3) (fun (E : String) (g : Gt) => (E = "java/lang/IndexOutOfBoundsException" ∧ Pr 1 g))
set_option maxRecDepth 20000 in
theorem mL_request {X : Xt} {l : Launch} (hfl : l.stackTraces = false) {G : Gt} {a0 : Nat} {x1 : Int32} {x2 : Int32} {a3 : Nat} {Pr : Int32 → Gt → Prop} (h : wL_request X G a0 x1 x2 a3 Pr) : Mc X l yL_request (.codeWith yL_request cL_request 5 (some (.int)) [(0, 10, 13, 13)]) 8 144 [.ref a0, .int x1, .int x2, .ref a3] G (rI Pr) noX := by
  refine Mc.ofH (by decide +kernel) hfl [some (.ref a0), some (.int x1), some (.int x2), some (.ref a3), none] rfl (Nat.le_of_ble_eq_true rfl) rfl ?_
  intro K hL C E0 hr hnm hexT
  have C : Cx X K cL_request 5 RL 8 144 := C
  unfold wL_request at h
  refine r_aloadR_n C 3 dL_request_0 rfl rfl ?_
  refine r_iconst C 0 dL_request_1 (by decide) ?_
  refine r_aloadR_n C 0 dL_request_2 rfl rfl ?_
  refine r_iload_n C 1 dL_request_3 rfl rfl ?_
  refine r_iload_n C 2 dL_request_4 rfl rfl ?_
  have hkx : ∀ (E : String) (g : Gt), (fun (E : String) (g : Gt) => (E = "java/lang/IndexOutOfBoundsException" ∧ Pr 1 g)) E g → XM X K (QM X K G (rI Pr) noX) g 5 [some (.ref a0), some (.int x1), some (.int x2), some (.ref a3), none] [.int 0, .ref a3] E := by
    intro E g h
    rcases h with ⟨rfl, h⟩
    · refine x_catch C hexT [] 0 10 13 13 [] rfl cl_RL_13 ca_java_lang_IndexOutOfBoundsException (by decide) (by decide) pz_nil (fun q => ?_)
      refine r_astoreR C (lv' := [some (.ref a0), some (.int x1), some (.int x2), some (.ref a3), some (.ref q)]) dL_request_13 (Nat.le_of_ble_eq_true rfl) rfl rfl ?_
      refine r_iconst C 1 dL_request_15 (by decide) ?_
      exact r_iret C E0 hr ⟨_, rfl, h⟩ dL_request_16
  obtain ⟨ht, h⟩ := h
  refine r_callV C (r := (RX9, TX9, 3)) hL yw_X9_request vw_RL_43 rfl rfl ht rfl rfl (Nat.le_of_ble_eq_true rfl) ⟨(Nat.le_of_ble_eq_true rfl), (Nat.le_of_ble_eq_true rfl)⟩ (mX9_request hfl h) rfl dL_request_5 (kI (fun r1 G2 h => ?_)) hkx
  refine r_i2l C dL_request_8 ?_
  obtain ⟨ht, hi, h⟩ := h
  refine r_lastP C ht hi dL_request_9 ?_
  refine r_nm (fun G3 hG3 => ?_)
  replace h := h G3 hG3
  refine r_goto C 17 dL_request_10 (by decide) ?_
  refine r_iconst C 0 dL_request_17 (by decide) ?_
  exact r_iret C E0 hr ⟨_, rfl, h⟩ dL_request_18
def wL_value (X : Xt) (G : Gt) (a0 : Nat) (x1 : Int32) (x2 : Int32) (a3 : Nat) (Pr : Int32 → Gt → Prop) : Prop := gT G a0 = (1, 10) ∧ wX9_value X G a0 x1 x2 (fun r1 G2 => (gT G2 a3).1 = 5 ∧ vp_in 0 (gT G2 a3).2 ∧ ∀ G3, G3 = sE G2 a3 (vp_updL (gE G2 a3) (0 : Int32).toNatClampNeg ((r1 : Int32).toInt64)) → Pr 0 G3) (fun (E : String) (g : Gt) => (E = "java/lang/IndexOutOfBoundsException" ∧ Pr 1 g) ∨ (E = "java/lang/IllegalStateException" ∧ Pr 2 g))
set_option maxRecDepth 20000 in
theorem mL_value {X : Xt} {l : Launch} (hfl : l.stackTraces = false) {G : Gt} {a0 : Nat} {x1 : Int32} {x2 : Int32} {a3 : Nat} {Pr : Int32 → Gt → Prop} (h : wL_value X G a0 x1 x2 a3 Pr) : Mc X l yL_value (.codeWith yL_value cL_value 5 (some (.int)) [(0, 10, 13, 13), (0, 10, 17, 34)]) 8 144 [.ref a0, .int x1, .int x2, .ref a3] G (rI Pr) noX := by
  refine Mc.ofH (by decide +kernel) hfl [some (.ref a0), some (.int x1), some (.int x2), some (.ref a3), none] rfl (Nat.le_of_ble_eq_true rfl) rfl ?_
  intro K hL C E0 hr hnm hexT
  have C : Cx X K cL_value 5 RL 8 144 := C
  unfold wL_value at h
  refine r_aloadR_n C 3 dL_value_0 rfl rfl ?_
  refine r_iconst C 0 dL_value_1 (by decide) ?_
  refine r_aloadR_n C 0 dL_value_2 rfl rfl ?_
  refine r_iload_n C 1 dL_value_3 rfl rfl ?_
  refine r_iload_n C 2 dL_value_4 rfl rfl ?_
  have hkx : ∀ (E : String) (g : Gt), (fun (E : String) (g : Gt) => (E = "java/lang/IndexOutOfBoundsException" ∧ Pr 1 g) ∨ (E = "java/lang/IllegalStateException" ∧ Pr 2 g)) E g → XM X K (QM X K G (rI Pr) noX) g 5 [some (.ref a0), some (.int x1), some (.int x2), some (.ref a3), none] [.int 0, .ref a3] E := by
    intro E g h
    rcases h with ⟨rfl, h⟩ | ⟨rfl, h⟩
    · refine x_catch C hexT [] 0 10 13 13 [(0, 10, 17, 34)] rfl cl_RL_13 ca_java_lang_IndexOutOfBoundsException (by decide) (by decide) pz_nil (fun q => ?_)
      refine r_astoreR C (lv' := [some (.ref a0), some (.int x1), some (.int x2), some (.ref a3), some (.ref q)]) dL_value_13 (Nat.le_of_ble_eq_true rfl) rfl rfl ?_
      refine r_iconst C 1 dL_value_15 (by decide) ?_
      exact r_iret C E0 hr ⟨_, rfl, h⟩ dL_value_16
    · refine x_catch C hexT [(0, 10, 13, 13)] 0 10 17 34 [] rfl cl_RL_34 ca_java_lang_IllegalStateException (by decide) (by decide) (pz_cons ⟨by decide, _, cl_RL_13, C.2.2.2.2.2.1.2.2.2.2.2.2.2.2.2.1.2.1⟩ pz_nil) (fun q => ?_)
      refine r_astoreR C (lv' := [some (.ref a0), some (.int x1), some (.int x2), some (.ref a3), some (.ref q)]) dL_value_17 (Nat.le_of_ble_eq_true rfl) rfl rfl ?_
      refine r_iconst C 2 dL_value_19 (by decide) ?_
      exact r_iret C E0 hr ⟨_, rfl, h⟩ dL_value_20
  obtain ⟨ht, h⟩ := h
  refine r_callV C (r := (RX9, TX9, 3)) hL yw_X9_value vw_RL_46 rfl rfl ht rfl rfl (Nat.le_of_ble_eq_true rfl) ⟨(Nat.le_of_ble_eq_true rfl), (Nat.le_of_ble_eq_true rfl)⟩ (mX9_value hfl h) rfl dL_value_5 (kI (fun r1 G2 h => ?_)) hkx
  refine r_i2l C dL_value_8 ?_
  obtain ⟨ht, hi, h⟩ := h
  refine r_lastP C ht hi dL_value_9 ?_
  refine r_nm (fun G3 hG3 => ?_)
  replace h := h G3 hG3
  refine r_goto C 21 dL_value_10 (by decide) ?_
  refine r_iconst C 0 dL_value_21 (by decide) ?_
  exact r_iret C E0 hr ⟨_, rfl, h⟩ dL_value_22
def wL_requests (X : Xt) (G : Gt) (a0 : Nat) (x1 : Int32) (a2 : Nat) (Pr : Int32 → Gt → Prop) : Prop := gT G a0 = (1, 10) ∧ wX9_requests X G a0 x1 (fun r1 G2 => (gT G2 a2).1 = 5 ∧ vp_in 0 (gT G2 a2).2 ∧ ∀ G3, G3 = sE G2 a2 (vp_updL (gE G2 a2) (0 : Int32).toNatClampNeg ((r1 : Int32).toInt64)) → Pr 0 G3) (fun (E : String) (g : Gt) => (E = "java/lang/IndexOutOfBoundsException" ∧ Pr 1 g))
set_option maxRecDepth 20000 in
theorem mL_requests {X : Xt} {l : Launch} (hfl : l.stackTraces = false) {G : Gt} {a0 : Nat} {x1 : Int32} {a2 : Nat} {Pr : Int32 → Gt → Prop} (h : wL_requests X G a0 x1 a2 Pr) : Mc X l yL_requests (.codeWith yL_requests cL_requests 4 (some (.int)) [(0, 9, 12, 13)]) 8 143 [.ref a0, .int x1, .ref a2] G (rI Pr) noX := by
  refine Mc.ofH (by decide +kernel) hfl [some (.ref a0), some (.int x1), some (.ref a2), none] rfl (Nat.le_of_ble_eq_true rfl) rfl ?_
  intro K hL C E0 hr hnm hexT
  have C : Cx X K cL_requests 4 RL 8 143 := C
  unfold wL_requests at h
  refine r_aloadR_n C 2 dL_requests_0 rfl rfl ?_
  refine r_iconst C 0 dL_requests_1 (by decide) ?_
  refine r_aloadR_n C 0 dL_requests_2 rfl rfl ?_
  refine r_iload_n C 1 dL_requests_3 rfl rfl ?_
  have hkx : ∀ (E : String) (g : Gt), (fun (E : String) (g : Gt) => (E = "java/lang/IndexOutOfBoundsException" ∧ Pr 1 g)) E g → XM X K (QM X K G (rI Pr) noX) g 4 [some (.ref a0), some (.int x1), some (.ref a2), none] [.int 0, .ref a2] E := by
    intro E g h
    rcases h with ⟨rfl, h⟩
    · refine x_catch C hexT [] 0 9 12 13 [] rfl cl_RL_13 ca_java_lang_IndexOutOfBoundsException (by decide) (by decide) pz_nil (fun q => ?_)
      refine r_astoreR_n C 3 (lv' := [some (.ref a0), some (.int x1), some (.ref a2), some (.ref q)]) dL_requests_12 rfl (Nat.le_of_ble_eq_true rfl) rfl rfl ?_
      refine r_iconst C 1 dL_requests_13 (by decide) ?_
      exact r_iret C E0 hr ⟨_, rfl, h⟩ dL_requests_14
  obtain ⟨ht, h⟩ := h
  refine r_callV C (r := (RX9, TX9, 3)) hL yw_X9_requests vw_RL_49 rfl rfl ht rfl rfl (Nat.le_of_ble_eq_true rfl) ⟨(Nat.le_of_ble_eq_true rfl), (Nat.le_of_ble_eq_true rfl)⟩ (mX9_requests hfl h) rfl dL_requests_4 (kI (fun r1 G2 h => ?_)) hkx
  refine r_i2l C dL_requests_7 ?_
  obtain ⟨ht, hi, h⟩ := h
  refine r_lastP C ht hi dL_requests_8 ?_
  refine r_nm (fun G3 hG3 => ?_)
  replace h := h G3 hG3
  refine r_goto C 15 dL_requests_9 (by decide) ?_
  refine r_iconst C 0 dL_requests_15 (by decide) ?_
  exact r_iret C E0 hr ⟨_, rfl, h⟩ dL_requests_16
def wL_requestsOf (X : Xt) (G : Gt) (a0 : Nat) (x1 : Int32) (x2 : Int32) (a3 : Nat) (Pr : Int32 → Gt → Prop) : Prop := gT G a0 = (1, 10) ∧ wX9_requestsOf X G a0 x1 x2 (fun r1 G2 => (gT G2 a3).1 = 5 ∧ vp_in 0 (gT G2 a3).2 ∧ ∀ G3, G3 = sE G2 a3 (vp_updL (gE G2 a3) (0 : Int32).toNatClampNeg ((r1 : Int32).toInt64)) → Pr 0 G3) (fun (E : String) (g : Gt) => (E = "java/lang/IndexOutOfBoundsException" ∧ Pr 1 g))
set_option maxRecDepth 20000 in
theorem mL_requestsOf {X : Xt} {l : Launch} (hfl : l.stackTraces = false) {G : Gt} {a0 : Nat} {x1 : Int32} {x2 : Int32} {a3 : Nat} {Pr : Int32 → Gt → Prop} (h : wL_requestsOf X G a0 x1 x2 a3 Pr) : Mc X l yL_requestsOf (.codeWith yL_requestsOf cL_requestsOf 5 (some (.int)) [(0, 10, 13, 13)]) 8 142 [.ref a0, .int x1, .int x2, .ref a3] G (rI Pr) noX := by
  refine Mc.ofH (by decide +kernel) hfl [some (.ref a0), some (.int x1), some (.int x2), some (.ref a3), none] rfl (Nat.le_of_ble_eq_true rfl) rfl ?_
  intro K hL C E0 hr hnm hexT
  have C : Cx X K cL_requestsOf 5 RL 8 142 := C
  unfold wL_requestsOf at h
  refine r_aloadR_n C 3 dL_requestsOf_0 rfl rfl ?_
  refine r_iconst C 0 dL_requestsOf_1 (by decide) ?_
  refine r_aloadR_n C 0 dL_requestsOf_2 rfl rfl ?_
  refine r_iload_n C 1 dL_requestsOf_3 rfl rfl ?_
  refine r_iload_n C 2 dL_requestsOf_4 rfl rfl ?_
  have hkx : ∀ (E : String) (g : Gt), (fun (E : String) (g : Gt) => (E = "java/lang/IndexOutOfBoundsException" ∧ Pr 1 g)) E g → XM X K (QM X K G (rI Pr) noX) g 5 [some (.ref a0), some (.int x1), some (.int x2), some (.ref a3), none] [.int 0, .ref a3] E := by
    intro E g h
    rcases h with ⟨rfl, h⟩
    · refine x_catch C hexT [] 0 10 13 13 [] rfl cl_RL_13 ca_java_lang_IndexOutOfBoundsException (by decide) (by decide) pz_nil (fun q => ?_)
      refine r_astoreR C (lv' := [some (.ref a0), some (.int x1), some (.int x2), some (.ref a3), some (.ref q)]) dL_requestsOf_13 (Nat.le_of_ble_eq_true rfl) rfl rfl ?_
      refine r_iconst C 1 dL_requestsOf_15 (by decide) ?_
      exact r_iret C E0 hr ⟨_, rfl, h⟩ dL_requestsOf_16
  obtain ⟨ht, h⟩ := h
  refine r_callV C (r := (RX9, TX9, 3)) hL yw_X9_requestsOf vw_RL_53 rfl rfl ht rfl rfl (Nat.le_of_ble_eq_true rfl) ⟨(Nat.le_of_ble_eq_true rfl), (Nat.le_of_ble_eq_true rfl)⟩ (mX9_requestsOf hfl h) rfl dL_requestsOf_5 (kI (fun r1 G2 h => ?_)) hkx
  refine r_i2l C dL_requestsOf_8 ?_
  obtain ⟨ht, hi, h⟩ := h
  refine r_lastP C ht hi dL_requestsOf_9 ?_
  refine r_nm (fun G3 hG3 => ?_)
  replace h := h G3 hG3
  refine r_goto C 17 dL_requestsOf_10 (by decide) ?_
  refine r_iconst C 0 dL_requestsOf_17 (by decide) ?_
  exact r_iret C E0 hr ⟨_, rfl, h⟩ dL_requestsOf_18
def wL_pass (X : Xt) (G : Gt) (a0 : Nat) (x1 : Int32) (a2 : Nat) (Pr : Int32 → Gt → Prop) : Prop := gT G a0 = (1, 10) ∧ wX9_pass X G a0 x1 (fun r1 G2 => (gT G2 a2).1 = 5 ∧ vp_in 0 (gT G2 a2).2 ∧ ∀ G3, G3 = sE G2 a2 (vp_updL (gE G2 a2) (0 : Int32).toNatClampNeg ((r1 : Int32).toInt64)) → Pr 0 G3) (fun (E : String) (g : Gt) => (E = "java/lang/IllegalArgumentException" ∧ Pr 1 g) ∨ (E = "java/lang/IllegalStateException" ∧ Pr 2 g))
set_option maxRecDepth 20000 in
theorem mL_pass {X : Xt} {l : Launch} (hfl : l.stackTraces = false) {G : Gt} {a0 : Nat} {x1 : Int32} {a2 : Nat} {Pr : Int32 → Gt → Prop} (h : wL_pass X G a0 x1 a2 Pr) : Mc X l yL_pass (.codeWith yL_pass cL_pass 4 (some (.int)) [(0, 9, 12, 15), (0, 9, 15, 34)]) 8 143 [.ref a0, .int x1, .ref a2] G (rI Pr) noX := by
  refine Mc.ofH (by decide +kernel) hfl [some (.ref a0), some (.int x1), some (.ref a2), none] rfl (Nat.le_of_ble_eq_true rfl) rfl ?_
  intro K hL C E0 hr hnm hexT
  have C : Cx X K cL_pass 4 RL 8 143 := C
  unfold wL_pass at h
  refine r_aloadR_n C 2 dL_pass_0 rfl rfl ?_
  refine r_iconst C 0 dL_pass_1 (by decide) ?_
  refine r_aloadR_n C 0 dL_pass_2 rfl rfl ?_
  refine r_iload_n C 1 dL_pass_3 rfl rfl ?_
  have hkx : ∀ (E : String) (g : Gt), (fun (E : String) (g : Gt) => (E = "java/lang/IllegalArgumentException" ∧ Pr 1 g) ∨ (E = "java/lang/IllegalStateException" ∧ Pr 2 g)) E g → XM X K (QM X K G (rI Pr) noX) g 4 [some (.ref a0), some (.int x1), some (.ref a2), none] [.int 0, .ref a2] E := by
    intro E g h
    rcases h with ⟨rfl, h⟩ | ⟨rfl, h⟩
    · refine x_catch C hexT [] 0 9 12 15 [(0, 9, 15, 34)] rfl cl_RL_15 ca_java_lang_IllegalArgumentException (by decide) (by decide) pz_nil (fun q => ?_)
      refine r_astoreR_n C 3 (lv' := [some (.ref a0), some (.int x1), some (.ref a2), some (.ref q)]) dL_pass_12 rfl (Nat.le_of_ble_eq_true rfl) rfl rfl ?_
      refine r_iconst C 1 dL_pass_13 (by decide) ?_
      exact r_iret C E0 hr ⟨_, rfl, h⟩ dL_pass_14
    · refine x_catch C hexT [(0, 9, 12, 15)] 0 9 15 34 [] rfl cl_RL_34 ca_java_lang_IllegalStateException (by decide) (by decide) (pz_cons ⟨by decide, _, cl_RL_15, C.2.2.2.2.2.1.2.2.2.2.2.2.2.2.2.1.2.2⟩ pz_nil) (fun q => ?_)
      refine r_astoreR_n C 3 (lv' := [some (.ref a0), some (.int x1), some (.ref a2), some (.ref q)]) dL_pass_15 rfl (Nat.le_of_ble_eq_true rfl) rfl rfl ?_
      refine r_iconst C 2 dL_pass_16 (by decide) ?_
      exact r_iret C E0 hr ⟨_, rfl, h⟩ dL_pass_17
  obtain ⟨ht, h⟩ := h
  refine r_callV C (r := (RX9, TX9, 3)) hL yw_X9_pass vw_RL_56 rfl rfl ht rfl rfl (Nat.le_of_ble_eq_true rfl) ⟨(Nat.le_of_ble_eq_true rfl), (Nat.le_of_ble_eq_true rfl)⟩ (mX9_pass hfl h) rfl dL_pass_4 (kI (fun r1 G2 h => ?_)) hkx
  refine r_i2l C dL_pass_7 ?_
  obtain ⟨ht, hi, h⟩ := h
  refine r_lastP C ht hi dL_pass_8 ?_
  refine r_nm (fun G3 hG3 => ?_)
  replace h := h G3 hG3
  refine r_goto C 18 dL_pass_9 (by decide) ?_
  refine r_iconst C 0 dL_pass_18 (by decide) ?_
  exact r_iret C E0 hr ⟨_, rfl, h⟩ dL_pass_19
def wL_frameByte (X : Xt) (G : Gt) (a0 : Nat) (x1 : Int32) (a2 : Nat) (Pr : Int32 → Gt → Prop) : Prop := gT G a0 = (1, 10) ∧ wX9_frameByte X G a0 x1 (fun r1 G2 => (gT G2 a2).1 = 5 ∧ vp_in 0 (gT G2 a2).2 ∧ ∀ G3, G3 = sE G2 a2 (vp_updL (gE G2 a2) (0 : Int32).toNatClampNeg ((r1 : Int32).toInt64)) → Pr 0 G3) (fun (E : String) (g : Gt) => (E = "java/lang/IndexOutOfBoundsException" ∧ Pr 1 g))
set_option maxRecDepth 20000 in
theorem mL_frameByte {X : Xt} {l : Launch} (hfl : l.stackTraces = false) {G : Gt} {a0 : Nat} {x1 : Int32} {a2 : Nat} {Pr : Int32 → Gt → Prop} (h : wL_frameByte X G a0 x1 a2 Pr) : Mc X l yL_frameByte (.codeWith yL_frameByte cL_frameByte 4 (some (.int)) [(0, 9, 12, 13)]) 7 152 [.ref a0, .int x1, .ref a2] G (rI Pr) noX := by
  refine Mc.ofH (by decide +kernel) hfl [some (.ref a0), some (.int x1), some (.ref a2), none] rfl (Nat.le_of_ble_eq_true rfl) rfl ?_
  intro K hL C E0 hr hnm hexT
  have C : Cx X K cL_frameByte 4 RL 7 152 := C
  unfold wL_frameByte at h
  refine r_aloadR_n C 2 dL_frameByte_0 rfl rfl ?_
  refine r_iconst C 0 dL_frameByte_1 (by decide) ?_
  refine r_aloadR_n C 0 dL_frameByte_2 rfl rfl ?_
  refine r_iload_n C 1 dL_frameByte_3 rfl rfl ?_
  have hkx : ∀ (E : String) (g : Gt), (fun (E : String) (g : Gt) => (E = "java/lang/IndexOutOfBoundsException" ∧ Pr 1 g)) E g → XM X K (QM X K G (rI Pr) noX) g 4 [some (.ref a0), some (.int x1), some (.ref a2), none] [.int 0, .ref a2] E := by
    intro E g h
    rcases h with ⟨rfl, h⟩
    · refine x_catch C hexT [] 0 9 12 13 [] rfl cl_RL_13 ca_java_lang_IndexOutOfBoundsException (by decide) (by decide) pz_nil (fun q => ?_)
      refine r_astoreR_n C 3 (lv' := [some (.ref a0), some (.int x1), some (.ref a2), some (.ref q)]) dL_frameByte_12 rfl (Nat.le_of_ble_eq_true rfl) rfl rfl ?_
      refine r_iconst C 1 dL_frameByte_13 (by decide) ?_
      exact r_iret C E0 hr ⟨_, rfl, h⟩ dL_frameByte_14
  obtain ⟨ht, h⟩ := h
  refine r_callV C (r := (RX9, TX9, 3)) hL yw_X9_frameByte vw_RL_59 rfl rfl ht rfl rfl (Nat.le_of_ble_eq_true rfl) ⟨(Nat.le_of_ble_eq_true rfl), (Nat.le_of_ble_eq_true rfl)⟩ (mX9_frameByte hfl h) rfl dL_frameByte_4 (kI (fun r1 G2 h => ?_)) hkx
  refine r_i2l C dL_frameByte_7 ?_
  obtain ⟨ht, hi, h⟩ := h
  refine r_lastP C ht hi dL_frameByte_8 ?_
  refine r_nm (fun G3 hG3 => ?_)
  replace h := h G3 hG3
  refine r_goto C 15 dL_frameByte_9 (by decide) ?_
  refine r_iconst C 0 dL_frameByte_15 (by decide) ?_
  exact r_iret C E0 hr ⟨_, rfl, h⟩ dL_frameByte_16
def wL_cacheAge (X : Xt) (G : Gt) (a0 : Nat) (x1 : Int32) (x2 : Int32) (a3 : Nat) (Pr : Int32 → Gt → Prop) : Prop := gT G a0 = (1, 10) ∧ wX9_cacheAge X G a0 x1 x2 (fun r1 G2 => (gT G2 a3).1 = 5 ∧ vp_in 0 (gT G2 a3).2 ∧ ∀ G3, G3 = sE G2 a3 (vp_updL (gE G2 a3) (0 : Int32).toNatClampNeg ((r1 : Int32).toInt64)) → Pr 0 G3) (fun (E : String) (g : Gt) => (E = "java/lang/IndexOutOfBoundsException" ∧ Pr 1 g))
set_option maxRecDepth 20000 in
theorem mL_cacheAge {X : Xt} {l : Launch} (hfl : l.stackTraces = false) {G : Gt} {a0 : Nat} {x1 : Int32} {x2 : Int32} {a3 : Nat} {Pr : Int32 → Gt → Prop} (h : wL_cacheAge X G a0 x1 x2 a3 Pr) : Mc X l yL_cacheAge (.codeWith yL_cacheAge cL_cacheAge 5 (some (.int)) [(0, 10, 13, 13)]) 9 163 [.ref a0, .int x1, .int x2, .ref a3] G (rI Pr) noX := by
  refine Mc.ofH (by decide +kernel) hfl [some (.ref a0), some (.int x1), some (.int x2), some (.ref a3), none] rfl (Nat.le_of_ble_eq_true rfl) rfl ?_
  intro K hL C E0 hr hnm hexT
  have C : Cx X K cL_cacheAge 5 RL 9 163 := C
  unfold wL_cacheAge at h
  refine r_aloadR_n C 3 dL_cacheAge_0 rfl rfl ?_
  refine r_iconst C 0 dL_cacheAge_1 (by decide) ?_
  refine r_aloadR_n C 0 dL_cacheAge_2 rfl rfl ?_
  refine r_iload_n C 1 dL_cacheAge_3 rfl rfl ?_
  refine r_iload_n C 2 dL_cacheAge_4 rfl rfl ?_
  have hkx : ∀ (E : String) (g : Gt), (fun (E : String) (g : Gt) => (E = "java/lang/IndexOutOfBoundsException" ∧ Pr 1 g)) E g → XM X K (QM X K G (rI Pr) noX) g 5 [some (.ref a0), some (.int x1), some (.int x2), some (.ref a3), none] [.int 0, .ref a3] E := by
    intro E g h
    rcases h with ⟨rfl, h⟩
    · refine x_catch C hexT [] 0 10 13 13 [] rfl cl_RL_13 ca_java_lang_IndexOutOfBoundsException (by decide) (by decide) pz_nil (fun q => ?_)
      refine r_astoreR C (lv' := [some (.ref a0), some (.int x1), some (.int x2), some (.ref a3), some (.ref q)]) dL_cacheAge_13 (Nat.le_of_ble_eq_true rfl) rfl rfl ?_
      refine r_iconst C 1 dL_cacheAge_15 (by decide) ?_
      exact r_iret C E0 hr ⟨_, rfl, h⟩ dL_cacheAge_16
  obtain ⟨ht, h⟩ := h
  refine r_callV C (r := (RX9, TX9, 3)) hL yw_X9_cacheAge vw_RL_62 rfl rfl ht rfl rfl (Nat.le_of_ble_eq_true rfl) ⟨(Nat.le_of_ble_eq_true rfl), (Nat.le_of_ble_eq_true rfl)⟩ (mX9_cacheAge hfl h) rfl dL_cacheAge_5 (kI (fun r1 G2 h => ?_)) hkx
  refine r_i2l C dL_cacheAge_8 ?_
  obtain ⟨ht, hi, h⟩ := h
  refine r_lastP C ht hi dL_cacheAge_9 ?_
  refine r_nm (fun G3 hG3 => ?_)
  replace h := h G3 hG3
  refine r_goto C 17 dL_cacheAge_10 (by decide) ?_
  refine r_iconst C 0 dL_cacheAge_17 (by decide) ?_
  exact r_iret C E0 hr ⟨_, rfl, h⟩ dL_cacheAge_18
def wL_cached (X : Xt) (G : Gt) (a0 : Nat) (x1 : Int32) (x2 : Int32) (a3 : Nat) (Pr : Int32 → Gt → Prop) : Prop := gT G a0 = (1, 10) ∧ wX9_cached X G a0 x1 x2 (fun r1 G2 => (gT G2 a3).1 = 5 ∧ vp_in 0 (gT G2 a3).2 ∧ ∀ G3, G3 = sE G2 a3 (vp_updL (gE G2 a3) (0 : Int32).toNatClampNeg ((r1 : Int32).toInt64)) → Pr 0 G3) (fun (E : String) (g : Gt) => (E = "java/lang/IndexOutOfBoundsException" ∧ Pr 1 g))
set_option maxRecDepth 20000 in
theorem mL_cached {X : Xt} {l : Launch} (hfl : l.stackTraces = false) {G : Gt} {a0 : Nat} {x1 : Int32} {x2 : Int32} {a3 : Nat} {Pr : Int32 → Gt → Prop} (h : wL_cached X G a0 x1 x2 a3 Pr) : Mc X l yL_cached (.codeWith yL_cached cL_cached 5 (some (.int)) [(0, 10, 13, 13)]) 9 163 [.ref a0, .int x1, .int x2, .ref a3] G (rI Pr) noX := by
  refine Mc.ofH (by decide +kernel) hfl [some (.ref a0), some (.int x1), some (.int x2), some (.ref a3), none] rfl (Nat.le_of_ble_eq_true rfl) rfl ?_
  intro K hL C E0 hr hnm hexT
  have C : Cx X K cL_cached 5 RL 9 163 := C
  unfold wL_cached at h
  refine r_aloadR_n C 3 dL_cached_0 rfl rfl ?_
  refine r_iconst C 0 dL_cached_1 (by decide) ?_
  refine r_aloadR_n C 0 dL_cached_2 rfl rfl ?_
  refine r_iload_n C 1 dL_cached_3 rfl rfl ?_
  refine r_iload_n C 2 dL_cached_4 rfl rfl ?_
  have hkx : ∀ (E : String) (g : Gt), (fun (E : String) (g : Gt) => (E = "java/lang/IndexOutOfBoundsException" ∧ Pr 1 g)) E g → XM X K (QM X K G (rI Pr) noX) g 5 [some (.ref a0), some (.int x1), some (.int x2), some (.ref a3), none] [.int 0, .ref a3] E := by
    intro E g h
    rcases h with ⟨rfl, h⟩
    · refine x_catch C hexT [] 0 10 13 13 [] rfl cl_RL_13 ca_java_lang_IndexOutOfBoundsException (by decide) (by decide) pz_nil (fun q => ?_)
      refine r_astoreR C (lv' := [some (.ref a0), some (.int x1), some (.int x2), some (.ref a3), some (.ref q)]) dL_cached_13 (Nat.le_of_ble_eq_true rfl) rfl rfl ?_
      refine r_iconst C 1 dL_cached_15 (by decide) ?_
      exact r_iret C E0 hr ⟨_, rfl, h⟩ dL_cached_16
  obtain ⟨ht, h⟩ := h
  refine r_callV C (r := (RX9, TX9, 3)) hL yw_X9_cached vw_RL_65 rfl rfl ht rfl rfl (Nat.le_of_ble_eq_true rfl) ⟨(Nat.le_of_ble_eq_true rfl), (Nat.le_of_ble_eq_true rfl)⟩ (mX9_cached hfl h) rfl dL_cached_5 (kI (fun r1 G2 h => ?_)) hkx
  refine r_i2l C dL_cached_8 ?_
  obtain ⟨ht, hi, h⟩ := h
  refine r_lastP C ht hi dL_cached_9 ?_
  refine r_nm (fun G3 hG3 => ?_)
  replace h := h G3 hG3
  refine r_goto C 17 dL_cached_10 (by decide) ?_
  refine r_iconst C 0 dL_cached_17 (by decide) ?_
  exact r_iret C E0 hr ⟨_, rfl, h⟩ dL_cached_18
def wL_count (X : Xt) (G : Gt) (a0 : Nat) (x1 : Int32) (a2 : Nat) (Pr : Int32 → Gt → Prop) : Prop := gT G a0 = (1, 10) ∧ wX9_count X G a0 x1 (fun r1 G2 => (gT G2 a2).1 = 5 ∧ vp_in 0 (gT G2 a2).2 ∧ ∀ G3, G3 = sE G2 a2 (vp_updL (gE G2 a2) (0 : Int32).toNatClampNeg ((r1 : Int32).toInt64)) → Pr 0 G3) (fun (E : String) (g : Gt) => (E = "java/lang/IndexOutOfBoundsException" ∧ Pr 1 g))
set_option maxRecDepth 20000 in
theorem mL_count {X : Xt} {l : Launch} (hfl : l.stackTraces = false) {G : Gt} {a0 : Nat} {x1 : Int32} {a2 : Nat} {Pr : Int32 → Gt → Prop} (h : wL_count X G a0 x1 a2 Pr) : Mc X l yL_count (.codeWith yL_count cL_count 4 (some (.int)) [(0, 9, 12, 13)]) 7 121 [.ref a0, .int x1, .ref a2] G (rI Pr) noX := by
  refine Mc.ofH (by decide +kernel) hfl [some (.ref a0), some (.int x1), some (.ref a2), none] rfl (Nat.le_of_ble_eq_true rfl) rfl ?_
  intro K hL C E0 hr hnm hexT
  have C : Cx X K cL_count 4 RL 7 121 := C
  unfold wL_count at h
  refine r_aloadR_n C 2 dL_count_0 rfl rfl ?_
  refine r_iconst C 0 dL_count_1 (by decide) ?_
  refine r_aloadR_n C 0 dL_count_2 rfl rfl ?_
  refine r_iload_n C 1 dL_count_3 rfl rfl ?_
  have hkx : ∀ (E : String) (g : Gt), (fun (E : String) (g : Gt) => (E = "java/lang/IndexOutOfBoundsException" ∧ Pr 1 g)) E g → XM X K (QM X K G (rI Pr) noX) g 4 [some (.ref a0), some (.int x1), some (.ref a2), none] [.int 0, .ref a2] E := by
    intro E g h
    rcases h with ⟨rfl, h⟩
    · refine x_catch C hexT [] 0 9 12 13 [] rfl cl_RL_13 ca_java_lang_IndexOutOfBoundsException (by decide) (by decide) pz_nil (fun q => ?_)
      refine r_astoreR_n C 3 (lv' := [some (.ref a0), some (.int x1), some (.ref a2), some (.ref q)]) dL_count_12 rfl (Nat.le_of_ble_eq_true rfl) rfl rfl ?_
      refine r_iconst C 1 dL_count_13 (by decide) ?_
      exact r_iret C E0 hr ⟨_, rfl, h⟩ dL_count_14
  obtain ⟨ht, h⟩ := h
  refine r_callV C (r := (RX9, TX9, 3)) hL yw_X9_count vw_RL_68 rfl rfl ht rfl rfl (Nat.le_of_ble_eq_true rfl) ⟨(Nat.le_of_ble_eq_true rfl), (Nat.le_of_ble_eq_true rfl)⟩ (mX9_count hfl h) rfl dL_count_4 (kI (fun r1 G2 h => ?_)) hkx
  refine r_i2l C dL_count_7 ?_
  obtain ⟨ht, hi, h⟩ := h
  refine r_lastP C ht hi dL_count_8 ?_
  refine r_nm (fun G3 hG3 => ?_)
  replace h := h G3 hG3
  refine r_goto C 15 dL_count_9 (by decide) ?_
  refine r_iconst C 0 dL_count_15 (by decide) ?_
  exact r_iret C E0 hr ⟨_, rfl, h⟩ dL_count_16
def wL_leastDrain (X : Xt) (G : Gt) (a0 : Nat) (x1 : Int32) (a2 : Nat) (Pr : Int32 → Gt → Prop) : Prop := gT G a0 = (1, 10) ∧ wX9_leastDrain X G a0 x1 (fun r1 G2 => (gT G2 a2).1 = 5 ∧ vp_in 0 (gT G2 a2).2 ∧ ∀ G3, G3 = sE G2 a2 (vp_updL (gE G2 a2) (0 : Int32).toNatClampNeg ((r1 : Int32).toInt64)) → Pr 0 G3) (fun (E : String) (g : Gt) => (E = "java/lang/IllegalArgumentException" ∧ Pr 1 g))
set_option maxRecDepth 20000 in
theorem mL_leastDrain {X : Xt} {l : Launch} (hfl : l.stackTraces = false) {G : Gt} {a0 : Nat} {x1 : Int32} {a2 : Nat} {Pr : Int32 → Gt → Prop} (h : wL_leastDrain X G a0 x1 a2 Pr) : Mc X l yL_leastDrain (.codeWith yL_leastDrain cL_leastDrain 4 (some (.int)) [(0, 9, 12, 15)]) 12 288 [.ref a0, .int x1, .ref a2] G (rI Pr) noX := by
  refine Mc.ofH (by decide +kernel) hfl [some (.ref a0), some (.int x1), some (.ref a2), none] rfl (Nat.le_of_ble_eq_true rfl) rfl ?_
  intro K hL C E0 hr hnm hexT
  have C : Cx X K cL_leastDrain 4 RL 12 288 := C
  unfold wL_leastDrain at h
  refine r_aloadR_n C 2 dL_leastDrain_0 rfl rfl ?_
  refine r_iconst C 0 dL_leastDrain_1 (by decide) ?_
  refine r_aloadR_n C 0 dL_leastDrain_2 rfl rfl ?_
  refine r_iload_n C 1 dL_leastDrain_3 rfl rfl ?_
  have hkx : ∀ (E : String) (g : Gt), (fun (E : String) (g : Gt) => (E = "java/lang/IllegalArgumentException" ∧ Pr 1 g)) E g → XM X K (QM X K G (rI Pr) noX) g 4 [some (.ref a0), some (.int x1), some (.ref a2), none] [.int 0, .ref a2] E := by
    intro E g h
    rcases h with ⟨rfl, h⟩
    · refine x_catch C hexT [] 0 9 12 15 [] rfl cl_RL_15 ca_java_lang_IllegalArgumentException (by decide) (by decide) pz_nil (fun q => ?_)
      refine r_astoreR_n C 3 (lv' := [some (.ref a0), some (.int x1), some (.ref a2), some (.ref q)]) dL_leastDrain_12 rfl (Nat.le_of_ble_eq_true rfl) rfl rfl ?_
      refine r_iconst C 1 dL_leastDrain_13 (by decide) ?_
      exact r_iret C E0 hr ⟨_, rfl, h⟩ dL_leastDrain_14
  obtain ⟨ht, h⟩ := h
  refine r_callV C (r := (RX9, TX9, 3)) hL yw_X9_leastDrain vw_RL_71 rfl rfl ht rfl rfl (Nat.le_of_ble_eq_true rfl) ⟨(Nat.le_of_ble_eq_true rfl), (Nat.le_of_ble_eq_true rfl)⟩ (mX9_leastDrain hfl h) rfl dL_leastDrain_4 (kI (fun r1 G2 h => ?_)) hkx
  refine r_i2l C dL_leastDrain_7 ?_
  obtain ⟨ht, hi, h⟩ := h
  refine r_lastP C ht hi dL_leastDrain_8 ?_
  refine r_nm (fun G3 hG3 => ?_)
  replace h := h G3 hG3
  refine r_goto C 15 dL_leastDrain_9 (by decide) ?_
  refine r_iconst C 0 dL_leastDrain_15 (by decide) ?_
  exact r_iret C E0 hr ⟨_, rfl, h⟩ dL_leastDrain_16
def wL_feed (X : Xt) (G : Gt) (a0 : Nat) (x1 : Int32) (x2 : Int32) (a3 : Nat) (Pr : Int32 → Gt → Prop) : Prop := gT G a0 = (1, 10) ∧ wX9_feed X G a0 x1 x2 (fun r1 G2 => (gT G2 a3).1 = 5 ∧ vp_in 0 (gT G2 a3).2 ∧ ∀ G3, G3 = sE G2 a3 (vp_updL (gE G2 a3) (0 : Int32).toNatClampNeg ((r1 : Int32).toInt64)) → Pr 0 G3) (fun (E : String) (g : Gt) => (E = "java/lang/IllegalArgumentException" ∧ Pr 1 g))
set_option maxRecDepth 20000 in
theorem mL_feed {X : Xt} {l : Launch} (hfl : l.stackTraces = false) {G : Gt} {a0 : Nat} {x1 : Int32} {x2 : Int32} {a3 : Nat} {Pr : Int32 → Gt → Prop} (h : wL_feed X G a0 x1 x2 a3 Pr) : Mc X l yL_feed (.codeWith yL_feed cL_feed 5 (some (.int)) [(0, 10, 13, 15)]) 8 144 [.ref a0, .int x1, .int x2, .ref a3] G (rI Pr) noX := by
  refine Mc.ofH (by decide +kernel) hfl [some (.ref a0), some (.int x1), some (.int x2), some (.ref a3), none] rfl (Nat.le_of_ble_eq_true rfl) rfl ?_
  intro K hL C E0 hr hnm hexT
  have C : Cx X K cL_feed 5 RL 8 144 := C
  unfold wL_feed at h
  refine r_aloadR_n C 3 dL_feed_0 rfl rfl ?_
  refine r_iconst C 0 dL_feed_1 (by decide) ?_
  refine r_aloadR_n C 0 dL_feed_2 rfl rfl ?_
  refine r_iload_n C 1 dL_feed_3 rfl rfl ?_
  refine r_iload_n C 2 dL_feed_4 rfl rfl ?_
  have hkx : ∀ (E : String) (g : Gt), (fun (E : String) (g : Gt) => (E = "java/lang/IllegalArgumentException" ∧ Pr 1 g)) E g → XM X K (QM X K G (rI Pr) noX) g 5 [some (.ref a0), some (.int x1), some (.int x2), some (.ref a3), none] [.int 0, .ref a3] E := by
    intro E g h
    rcases h with ⟨rfl, h⟩
    · refine x_catch C hexT [] 0 10 13 15 [] rfl cl_RL_15 ca_java_lang_IllegalArgumentException (by decide) (by decide) pz_nil (fun q => ?_)
      refine r_astoreR C (lv' := [some (.ref a0), some (.int x1), some (.int x2), some (.ref a3), some (.ref q)]) dL_feed_13 (Nat.le_of_ble_eq_true rfl) rfl rfl ?_
      refine r_iconst C 1 dL_feed_15 (by decide) ?_
      exact r_iret C E0 hr ⟨_, rfl, h⟩ dL_feed_16
  obtain ⟨ht, h⟩ := h
  refine r_callV C (r := (RX9, TX9, 3)) hL yw_X9_feed vw_RL_74 rfl rfl ht rfl rfl (Nat.le_of_ble_eq_true rfl) ⟨(Nat.le_of_ble_eq_true rfl), (Nat.le_of_ble_eq_true rfl)⟩ (mX9_feed hfl h) rfl dL_feed_5 (kI (fun r1 G2 h => ?_)) hkx
  refine r_i2l C dL_feed_8 ?_
  obtain ⟨ht, hi, h⟩ := h
  refine r_lastP C ht hi dL_feed_9 ?_
  refine r_nm (fun G3 hG3 => ?_)
  replace h := h G3 hG3
  refine r_goto C 17 dL_feed_10 (by decide) ?_
  refine r_iconst C 0 dL_feed_17 (by decide) ?_
  exact r_iret C E0 hr ⟨_, rfl, h⟩ dL_feed_18
def wL_verdict (X : Xt) (G : Gt) (a0 : Nat) (x1 : Int32) (a2 : Nat) (Pr : Int32 → Gt → Prop) : Prop := gT G a0 = (1, 10) ∧ wX9_verdict X G a0 x1 (fun r1 G2 => (gT G2 a2).1 = 5 ∧ vp_in 0 (gT G2 a2).2 ∧ ∀ G3, G3 = sE G2 a2 (vp_updL (gE G2 a2) (0 : Int32).toNatClampNeg ((r1 : Int32).toInt64)) → Pr 0 G3) (fun (E : String) (g : Gt) => (E = "java/lang/IndexOutOfBoundsException" ∧ Pr 1 g))
set_option maxRecDepth 20000 in
theorem mL_verdict {X : Xt} {l : Launch} (hfl : l.stackTraces = false) {G : Gt} {a0 : Nat} {x1 : Int32} {a2 : Nat} {Pr : Int32 → Gt → Prop} (h : wL_verdict X G a0 x1 a2 Pr) : Mc X l yL_verdict (.codeWith yL_verdict cL_verdict 4 (some (.int)) [(0, 9, 12, 13)]) 8 141 [.ref a0, .int x1, .ref a2] G (rI Pr) noX := by
  refine Mc.ofH (by decide +kernel) hfl [some (.ref a0), some (.int x1), some (.ref a2), none] rfl (Nat.le_of_ble_eq_true rfl) rfl ?_
  intro K hL C E0 hr hnm hexT
  have C : Cx X K cL_verdict 4 RL 8 141 := C
  unfold wL_verdict at h
  refine r_aloadR_n C 2 dL_verdict_0 rfl rfl ?_
  refine r_iconst C 0 dL_verdict_1 (by decide) ?_
  refine r_aloadR_n C 0 dL_verdict_2 rfl rfl ?_
  refine r_iload_n C 1 dL_verdict_3 rfl rfl ?_
  have hkx : ∀ (E : String) (g : Gt), (fun (E : String) (g : Gt) => (E = "java/lang/IndexOutOfBoundsException" ∧ Pr 1 g)) E g → XM X K (QM X K G (rI Pr) noX) g 4 [some (.ref a0), some (.int x1), some (.ref a2), none] [.int 0, .ref a2] E := by
    intro E g h
    rcases h with ⟨rfl, h⟩
    · refine x_catch C hexT [] 0 9 12 13 [] rfl cl_RL_13 ca_java_lang_IndexOutOfBoundsException (by decide) (by decide) pz_nil (fun q => ?_)
      refine r_astoreR_n C 3 (lv' := [some (.ref a0), some (.int x1), some (.ref a2), some (.ref q)]) dL_verdict_12 rfl (Nat.le_of_ble_eq_true rfl) rfl rfl ?_
      refine r_iconst C 1 dL_verdict_13 (by decide) ?_
      exact r_iret C E0 hr ⟨_, rfl, h⟩ dL_verdict_14
  obtain ⟨ht, h⟩ := h
  refine r_callV C (r := (RX9, TX9, 3)) hL yw_X9_verdict vw_RL_77 rfl rfl ht rfl rfl (Nat.le_of_ble_eq_true rfl) ⟨(Nat.le_of_ble_eq_true rfl), (Nat.le_of_ble_eq_true rfl)⟩ (mX9_verdict hfl h) rfl dL_verdict_4 (kI (fun r1 G2 h => ?_)) hkx
  refine r_i2l C dL_verdict_7 ?_
  obtain ⟨ht, hi, h⟩ := h
  refine r_lastP C ht hi dL_verdict_8 ?_
  refine r_nm (fun G3 hG3 => ?_)
  replace h := h G3 hG3
  refine r_goto C 15 dL_verdict_9 (by decide) ?_
  refine r_iconst C 0 dL_verdict_15 (by decide) ?_
  exact r_iret C E0 hr ⟨_, rfl, h⟩ dL_verdict_16
def wL_length (X : Xt) (G : Gt) (a0 : Nat) (x1 : Int32) (a2 : Nat) (Pr : Int32 → Gt → Prop) : Prop := gT G a0 = (1, 10) ∧ wX9_length X G a0 x1 (fun r1 G2 => (gT G2 a2).1 = 5 ∧ vp_in 0 (gT G2 a2).2 ∧ ∀ G3, G3 = sE G2 a2 (vp_updL (gE G2 a2) (0 : Int32).toNatClampNeg ((r1 : Int32).toInt64)) → Pr 0 G3) (fun (E : String) (g : Gt) => (E = "java/lang/IndexOutOfBoundsException" ∧ Pr 1 g))
set_option maxRecDepth 20000 in
theorem mL_length {X : Xt} {l : Launch} (hfl : l.stackTraces = false) {G : Gt} {a0 : Nat} {x1 : Int32} {a2 : Nat} {Pr : Int32 → Gt → Prop} (h : wL_length X G a0 x1 a2 Pr) : Mc X l yL_length (.codeWith yL_length cL_length 4 (some (.int)) [(0, 9, 12, 13)]) 8 141 [.ref a0, .int x1, .ref a2] G (rI Pr) noX := by
  refine Mc.ofH (by decide +kernel) hfl [some (.ref a0), some (.int x1), some (.ref a2), none] rfl (Nat.le_of_ble_eq_true rfl) rfl ?_
  intro K hL C E0 hr hnm hexT
  have C : Cx X K cL_length 4 RL 8 141 := C
  unfold wL_length at h
  refine r_aloadR_n C 2 dL_length_0 rfl rfl ?_
  refine r_iconst C 0 dL_length_1 (by decide) ?_
  refine r_aloadR_n C 0 dL_length_2 rfl rfl ?_
  refine r_iload_n C 1 dL_length_3 rfl rfl ?_
  have hkx : ∀ (E : String) (g : Gt), (fun (E : String) (g : Gt) => (E = "java/lang/IndexOutOfBoundsException" ∧ Pr 1 g)) E g → XM X K (QM X K G (rI Pr) noX) g 4 [some (.ref a0), some (.int x1), some (.ref a2), none] [.int 0, .ref a2] E := by
    intro E g h
    rcases h with ⟨rfl, h⟩
    · refine x_catch C hexT [] 0 9 12 13 [] rfl cl_RL_13 ca_java_lang_IndexOutOfBoundsException (by decide) (by decide) pz_nil (fun q => ?_)
      refine r_astoreR_n C 3 (lv' := [some (.ref a0), some (.int x1), some (.ref a2), some (.ref q)]) dL_length_12 rfl (Nat.le_of_ble_eq_true rfl) rfl rfl ?_
      refine r_iconst C 1 dL_length_13 (by decide) ?_
      exact r_iret C E0 hr ⟨_, rfl, h⟩ dL_length_14
  obtain ⟨ht, h⟩ := h
  refine r_callV C (r := (RX9, TX9, 3)) hL yw_X9_length vw_RL_80 rfl rfl ht rfl rfl (Nat.le_of_ble_eq_true rfl) ⟨(Nat.le_of_ble_eq_true rfl), (Nat.le_of_ble_eq_true rfl)⟩ (mX9_length hfl h) rfl dL_length_4 (kI (fun r1 G2 h => ?_)) hkx
  refine r_i2l C dL_length_7 ?_
  obtain ⟨ht, hi, h⟩ := h
  refine r_lastP C ht hi dL_length_8 ?_
  refine r_nm (fun G3 hG3 => ?_)
  replace h := h G3 hG3
  refine r_goto C 15 dL_length_9 (by decide) ?_
  refine r_iconst C 0 dL_length_15 (by decide) ?_
  exact r_iret C E0 hr ⟨_, rfl, h⟩ dL_length_16
theorem r_sldE {X : Xt} {K : Kt} {Q : State → Prop} {G : Gt} {pc : Nat} {lv : List (Option Value)} {st : List Value} {cc : ByteArray} {nL : Nat} {own : String} {fr lo : Nat} (C : Cx X K cc nL own fr lo) {a b L : Nat} {xs : Nat → Int32} (hX : SC X (kS K) b L xs) (hab : a = b) {i : Int32} (hin : vp_in i L) (hd : decode cc pc = .ok (.iaload, 1)) (kk : WM X K Q G (pc + 1) lv (.int (xs i.toNatClampNeg) :: st)) : WM X K Q G pc lv (.int i :: .ref a :: st) := by subst hab; exact r_sld C hX hin hd kk
theorem r_slenE {X : Xt} {K : Kt} {Q : State → Prop} {G : Gt} {pc : Nat} {lv : List (Option Value)} {st : List Value} {cc : ByteArray} {nL : Nat} {own : String} {fr lo : Nat} (C : Cx X K cc nL own fr lo) {a b L : Nat} {xs : Nat → Int32} (hX : SC X (kS K) b L xs) (hab : a = b) (hd : decode cc pc = .ok (.arraylength, 1)) (kk : WM X K Q G (pc + 1) lv (.int (nI L) :: st)) : WM X K Q G pc lv (.ref a :: st) := by subst hab; exact r_slen C hX hd kk
def BL (X : Xt) (K : Kt) (l : Launch) (b0 L : Nat) (xs : Nat → Int32) (Pr : Int32 → Gt → Prop) (Q : State → Prop) : Prop := kL K = l ∧ Cx X K cL_law 7 RL 15 590 ∧ SC X (kS K) b0 L xs ∧ l.stackTraces = false ∧ ∀ (v : Int32) (G : Gt) (pc : Nat) (lv : List (Option Value)), Pr v G → decode cL_law pc = .ok (.ireturn, 1) → WM X K Q G pc lv [.int v]
def wL_law_558 (X : Xt) (b0 : Nat) (xs : Nat → Int32) (L : Nat) (Pr : Int32 → Gt → Prop) (k23 : Gt → Nat → Nat → Nat → Nat → Int32 → Prop) (G : Gt) (a0 : Nat) (a1 : Nat) (a2 : Nat) (a3 : Nat) (x4 : Int32) (sy0 : Int64) (sy1 : Int64) : Prop := ((lg_cmp sy0 sy1) = 0 → k23 G a0 a1 a2 a3 (x4 + 5)) ∧ (¬ ((lg_cmp sy0 sy1) = 0) → Pr 0 G)
set_option maxRecDepth 20000 in
theorem bL_law_558 {X : Xt} {K : Kt} {l : Launch} {b0 : Nat} {xs : Nat → Int32} {L : Nat} {Q : State → Prop} {Pr : Int32 → Gt → Prop} (B : BL X K l b0 L xs Pr Q) {k23 : Gt → Nat → Nat → Nat → Nat → Int32 → Prop} (hk23 : ∀ (G : Gt) (a0 : Nat) (a1 : Nat) (a2 : Nat) (a3 : Nat) (x4 : Int32), k23 G a0 a1 a2 a3 x4 → WM X K Q G 23 [some (.ref a0), some (.ref a1), some (.ref a2), some (.ref a3), some (.int x4), none, none] []) {G : Gt} {a0 : Nat} {a1 : Nat} {a2 : Nat} {a3 : Nat} {x4 : Int32} {sy0 : Int64} {sy1 : Int64} (h : wL_law_558 X b0 xs L Pr k23 G a0 a1 a2 a3 x4 sy0 sy1) : WM X K Q G 558 [some (.ref a0), some (.ref a1), some (.ref a2), some (.ref a3), some (.int x4), none, none] [.long sy1, .long sy0] := by
  obtain ⟨hL, C, hSC, hfl, hret⟩ := id B
  unfold wL_law_558 at h
  refine r_lcmp C dL_law_558 ?_
  refine r_if_eq C 564 dL_law_559 (by decide) (fun c => ?_) (fun c => ?_)
  · replace h := h.1 c
    refine r_goto C 1737 dL_law_564 (by decide) ?_
    refine r_iinc C 5 (lv' := [some (.ref a0), some (.ref a1), some (.ref a2), some (.ref a3), some (.int (x4 + 5)), none, none]) dL_law_1737 rfl (by decide) rfl rfl ?_
    refine r_goto C 23 dL_law_1740 (by decide) ?_
    exact hk23 _ _ _ _ _ _ h
  · replace h := h.2 c
    refine r_iconst C 0 dL_law_562 (by decide) ?_
    exact hret _ _ _ _ h dL_law_563
def wL_law_524 (X : Xt) (b0 : Nat) (xs : Nat → Int32) (L : Nat) (Pr : Int32 → Gt → Prop) (k23 : Gt → Nat → Nat → Nat → Nat → Int32 → Prop) (G : Gt) (a0 : Nat) (a1 : Nat) (a2 : Nat) (a3 : Nat) (x4 : Int32) (x5 : Int32) (sa0 : Nat) (sx1 : Int32) (sx2 : Int32) (sx3 : Int32) : Prop := gT G sa0 = (1, 11) ∧ wX10_protect X G sa0 sx1 sx2 sx3 (fun r1 G2 => gT G2 a2 = (1, 11) ∧ wX10_thrown X G2 a2 (fun r3 G4 => (r3 = x5 → (¬ x5 = 0 → k23 G4 a0 a1 a2 a3 (x4 + 5)) ∧ (x5 = 0 → (gT G4 a3).1 = 5 ∧ vp_in 0 (gT G4 a3).2 ∧ (r1 = 0 → wL_law_558 X b0 xs L Pr k23 G4 a0 a1 a2 a3 x4 (gE G4 a3 (0 : Int32).toNatClampNeg) (0 : Int64)) ∧ (¬ (r1 = 0) → wL_law_558 X b0 xs L Pr k23 G4 a0 a1 a2 a3 x4 (gE G4 a3 (0 : Int32).toNatClampNeg) (1 : Int64)))) ∧ (¬ (r3 = x5) → Pr 0 G4)))
set_option maxRecDepth 20000 in
theorem bL_law_524 {X : Xt} {K : Kt} {l : Launch} {b0 : Nat} {xs : Nat → Int32} {L : Nat} {Q : State → Prop} {Pr : Int32 → Gt → Prop} (B : BL X K l b0 L xs Pr Q) {k23 : Gt → Nat → Nat → Nat → Nat → Int32 → Prop} (hk23 : ∀ (G : Gt) (a0 : Nat) (a1 : Nat) (a2 : Nat) (a3 : Nat) (x4 : Int32), k23 G a0 a1 a2 a3 x4 → WM X K Q G 23 [some (.ref a0), some (.ref a1), some (.ref a2), some (.ref a3), some (.int x4), none, none] []) {G : Gt} {a0 : Nat} {a1 : Nat} {a2 : Nat} {a3 : Nat} {x4 : Int32} {x5 : Int32} {sa0 : Nat} {sx1 : Int32} {sx2 : Int32} {sx3 : Int32} (h : wL_law_524 X b0 xs L Pr k23 G a0 a1 a2 a3 x4 x5 sa0 sx1 sx2 sx3) : WM X K Q G 524 [some (.ref a0), some (.ref a1), some (.ref a2), some (.ref a3), some (.int x4), some (.int x5), none] [.int sx3, .int sx2, .int sx1, .ref sa0] := by
  obtain ⟨hL, C, hSC, hfl, hret⟩ := id B
  unfold wL_law_524 at h
  obtain ⟨ht, h⟩ := h
  refine r_callV C (r := (RX10, TX10, 19)) hL yw_X10_protect vw_RL_110 rfl rfl ht rfl rfl (Nat.le_of_ble_eq_true rfl) ⟨(Nat.le_of_ble_eq_true rfl), (Nat.le_of_ble_eq_true rfl)⟩ (mX10_protect hfl h) rfl dL_law_524 (kI (fun r1 G2 h => ?_)) kN
  refine r_istore C (lv' := [some (.ref a0), some (.ref a1), some (.ref a2), some (.ref a3), some (.int x4), some (.int x5), some (.int r1)]) dL_law_527 (Nat.le_of_ble_eq_true rfl) rfl rfl ?_
  refine r_aloadR_n C 2 dL_law_529 rfl rfl ?_
  obtain ⟨ht, h⟩ := h
  refine r_callV C (r := (RX10, TX10, 19)) hL yw_X10_thrown vw_RL_93 rfl rfl ht rfl rfl (Nat.le_of_ble_eq_true rfl) ⟨(Nat.le_of_ble_eq_true rfl), (Nat.le_of_ble_eq_true rfl)⟩ (mX10_thrown hfl h) rfl dL_law_530 (kI (fun r3 G4 h => ?_)) kN
  refine r_iload C dL_law_533 rfl ?_
  refine r_icmp_eq C 540 dL_law_535 (by decide) (fun c => ?_) (fun c => ?_)
  · replace h := h.1 c
    refine r_iload C dL_law_540 rfl ?_
    refine r_if_ne C 564 dL_law_542 (by decide) (fun c => ?_) (fun c => ?_)
    · replace h := h.1 c
      refine r_goto C 1737 dL_law_564 (by decide) ?_
      refine r_iinc C 5 (lv' := [some (.ref a0), some (.ref a1), some (.ref a2), some (.ref a3), some (.int (x4 + 5)), some (.int x5), some (.int r1)]) dL_law_1737 rfl (by decide) rfl rfl ?_
      refine r_goto C 23 dL_law_1740 (by decide) ?_
      refine r_fg (lv' := [some (.ref a0), some (.ref a1), some (.ref a2), some (.ref a3), some (.int (x4 + 5)), none, none]) (show fgt _ _ from ⟨rfl, ⟨rfl, ⟨rfl, ⟨rfl, ⟨rfl, trivial⟩⟩⟩⟩⟩) ?_
      exact hk23 _ _ _ _ _ _ h
    · replace h := h.2 c
      refine r_aloadR_n C 3 dL_law_545 rfl rfl ?_
      refine r_iconst C 0 dL_law_546 (by decide) ?_
      obtain ⟨ht, hi, h⟩ := h
      refine r_laldP C ht hi dL_law_547 ?_
      refine r_iload C dL_law_548 rfl ?_
      refine r_if_eq C 557 dL_law_550 (by decide) (fun c => ?_) (fun c => ?_)
      · replace h := h.1 c
        refine r_lconst C 0 dL_law_557 (by decide) ?_
        refine r_fg (lv' := [some (.ref a0), some (.ref a1), some (.ref a2), some (.ref a3), some (.int x4), none, none]) (show fgt _ _ from ⟨rfl, ⟨rfl, ⟨rfl, ⟨rfl, ⟨rfl, trivial⟩⟩⟩⟩⟩) ?_
        exact bL_law_558 B hk23 h
      · replace h := h.2 c
        refine r_lconst C 1 dL_law_553 (by decide) ?_
        refine r_goto C 558 dL_law_554 (by decide) ?_
        refine r_fg (lv' := [some (.ref a0), some (.ref a1), some (.ref a2), some (.ref a3), some (.int x4), none, none]) (show fgt _ _ from ⟨rfl, ⟨rfl, ⟨rfl, ⟨rfl, ⟨rfl, trivial⟩⟩⟩⟩⟩) ?_
        exact bL_law_558 B hk23 h
  · replace h := h.2 c
    refine r_iconst C 0 dL_law_538 (by decide) ?_
    exact hret _ _ _ _ h dL_law_539
def wL_law_491 (X : Xt) (b0 : Nat) (xs : Nat → Int32) (L : Nat) (Pr : Int32 → Gt → Prop) (k23 : Gt → Nat → Nat → Nat → Nat → Int32 → Prop) (G : Gt) (a0 : Nat) (a1 : Nat) (a2 : Nat) (a3 : Nat) (x4 : Int32) (sa0 : Nat) (sx1 : Int32) (sx2 : Int32) (sx3 : Int32) : Prop := wL_protect X G sa0 sx1 sx2 sx3 a3 (fun r1 G2 => a0 = b0 ∧ vp_in (x4 + 1) L ∧ a0 = b0 ∧ vp_in (x4 + 2) L ∧ a0 = b0 ∧ vp_in (x4 + 3) L ∧ ((xs (x4 + 3).toNatClampNeg) = 0 → wL_law_524 X b0 xs L Pr k23 G2 a0 a1 a2 a3 x4 r1 a2 (xs (x4 + 1).toNatClampNeg) (xs (x4 + 2).toNatClampNeg) (0 : Int32)) ∧ (¬ ((xs (x4 + 3).toNatClampNeg) = 0) → wL_law_524 X b0 xs L Pr k23 G2 a0 a1 a2 a3 x4 r1 a2 (xs (x4 + 1).toNatClampNeg) (xs (x4 + 2).toNatClampNeg) (1 : Int32)))
set_option maxRecDepth 20000 in
theorem bL_law_491 {X : Xt} {K : Kt} {l : Launch} {b0 : Nat} {xs : Nat → Int32} {L : Nat} {Q : State → Prop} {Pr : Int32 → Gt → Prop} (B : BL X K l b0 L xs Pr Q) {k23 : Gt → Nat → Nat → Nat → Nat → Int32 → Prop} (hk23 : ∀ (G : Gt) (a0 : Nat) (a1 : Nat) (a2 : Nat) (a3 : Nat) (x4 : Int32), k23 G a0 a1 a2 a3 x4 → WM X K Q G 23 [some (.ref a0), some (.ref a1), some (.ref a2), some (.ref a3), some (.int x4), none, none] []) {G : Gt} {a0 : Nat} {a1 : Nat} {a2 : Nat} {a3 : Nat} {x4 : Int32} {sa0 : Nat} {sx1 : Int32} {sx2 : Int32} {sx3 : Int32} (h : wL_law_491 X b0 xs L Pr k23 G a0 a1 a2 a3 x4 sa0 sx1 sx2 sx3) : WM X K Q G 491 [some (.ref a0), some (.ref a1), some (.ref a2), some (.ref a3), some (.int x4), none, none] [.int sx3, .int sx2, .int sx1, .ref sa0] := by
  obtain ⟨hL, C, hSC, hfl, hret⟩ := id B
  unfold wL_law_491 at h
  refine r_aloadR_n C 3 dL_law_491 rfl rfl ?_
  refine r_callX C hL xw_RL_107 rfl rfl (Nat.le_of_ble_eq_true rfl) ⟨(Nat.le_of_ble_eq_true rfl), (Nat.le_of_ble_eq_true rfl)⟩ (mL_protect hfl h) rfl dL_law_492 (kI (fun r1 G2 h => ?_)) kN
  refine r_istore C (lv' := [some (.ref a0), some (.ref a1), some (.ref a2), some (.ref a3), some (.int x4), some (.int r1), none]) dL_law_495 (Nat.le_of_ble_eq_true rfl) rfl rfl ?_
  refine r_aloadR_n C 2 dL_law_497 rfl rfl ?_
  refine r_aloadR_n C 0 dL_law_498 rfl rfl ?_
  refine r_iload C dL_law_499 rfl ?_
  refine r_iconst C 1 dL_law_501 (by decide) ?_
  refine r_iadd C dL_law_502 ?_
  obtain ⟨hab, hi, h⟩ := h
  refine r_sldE C hSC hab hi dL_law_503 ?_
  refine r_aloadR_n C 0 dL_law_504 rfl rfl ?_
  refine r_iload C dL_law_505 rfl ?_
  refine r_iconst C 2 dL_law_507 (by decide) ?_
  refine r_iadd C dL_law_508 ?_
  obtain ⟨hab, hi, h⟩ := h
  refine r_sldE C hSC hab hi dL_law_509 ?_
  refine r_aloadR_n C 0 dL_law_510 rfl rfl ?_
  refine r_iload C dL_law_511 rfl ?_
  refine r_iconst C 3 dL_law_513 (by decide) ?_
  refine r_iadd C dL_law_514 ?_
  obtain ⟨hab, hi, h⟩ := h
  refine r_sldE C hSC hab hi dL_law_515 ?_
  refine r_if_eq C 523 dL_law_516 (by decide) (fun c => ?_) (fun c => ?_)
  · replace h := h.1 c
    refine r_iconst C 0 dL_law_523 (by decide) ?_
    exact bL_law_524 B hk23 h
  · replace h := h.2 c
    refine r_iconst C 1 dL_law_519 (by decide) ?_
    refine r_goto C 524 dL_law_520 (by decide) ?_
    exact bL_law_524 B hk23 h
def wL_law_23 (X : Xt) (b0 : Nat) (xs : Nat → Int32) (L : Nat) (Pr : Int32 → Gt → Prop) (k23 : Gt → Nat → Nat → Nat → Nat → Int32 → Prop) (G : Gt) (a0 : Nat) (a1 : Nat) (a2 : Nat) (a3 : Nat) (x4 : Int32) : Prop := a0 = b0 ∧ (((nI L) - 5) < x4 → Pr 1 G) ∧ (¬ (((nI L) - 5) < x4) → a0 = b0 ∧ vp_in x4 L ∧ ∀ z41, z41 = ((xs x4.toNatClampNeg) &&& 31) → (z41.toInt < 0 ∨ 28 < z41.toInt → k23 G a0 a1 a2 a3 (x4 + 5)) ∧ (z41 = 0 → a0 = b0 ∧ vp_in (x4 + 1) L ∧ a0 = b0 ∧ vp_in (x4 + 2) L ∧ wL_set X G a1 (xs (x4 + 1).toNatClampNeg) (xs (x4 + 2).toNatClampNeg) a3 (fun r82 G83 => a0 = b0 ∧ vp_in (x4 + 1) L ∧ a0 = b0 ∧ vp_in (x4 + 2) L ∧ gT G83 a2 = (1, 11) ∧ wX10_set X G83 a2 (xs (x4 + 1).toNatClampNeg) (xs (x4 + 2).toNatClampNeg) (fun r84 G85 => gT G85 a2 = (1, 11) ∧ wX10_thrown X G85 a2 (fun r86 G87 => (r86 = r82 → (¬ r82 = 0 → k23 G87 a0 a1 a2 a3 (x4 + 5)) ∧ (r82 = 0 → (gT G87 a3).1 = 5 ∧ vp_in 0 (gT G87 a3).2 ∧ ((lg_cmp (gE G87 a3 (0 : Int32).toNatClampNeg) ((r84 : Int32).toInt64)) = 0 → k23 G87 a0 a1 a2 a3 (x4 + 5)) ∧ (¬ ((lg_cmp (gE G87 a3 (0 : Int32).toNatClampNeg) ((r84 : Int32).toInt64)) = 0) → Pr 0 G87))) ∧ (¬ (r86 = r82) → Pr 0 G87))))) ∧ (z41 = 1 → a0 = b0 ∧ vp_in (x4 + 1) L ∧ a0 = b0 ∧ vp_in (x4 + 2) L ∧ a0 = b0 ∧ vp_in (x4 + 3) L ∧ wL_setDevice X G a1 (xs (x4 + 1).toNatClampNeg) (xs (x4 + 2).toNatClampNeg) (xs (x4 + 3).toNatClampNeg) a3 (fun r102 G103 => a0 = b0 ∧ vp_in (x4 + 1) L ∧ a0 = b0 ∧ vp_in (x4 + 2) L ∧ a0 = b0 ∧ vp_in (x4 + 3) L ∧ gT G103 a2 = (1, 11) ∧ wX10_setDevice X G103 a2 (xs (x4 + 1).toNatClampNeg) (xs (x4 + 2).toNatClampNeg) (xs (x4 + 3).toNatClampNeg) (fun r104 G105 => gT G105 a2 = (1, 11) ∧ wX10_thrown X G105 a2 (fun r106 G107 => (r106 = r102 → (¬ r102 = 0 → k23 G107 a0 a1 a2 a3 (x4 + 5)) ∧ (r102 = 0 → (gT G107 a3).1 = 5 ∧ vp_in 0 (gT G107 a3).2 ∧ ((lg_cmp (gE G107 a3 (0 : Int32).toNatClampNeg) ((r104 : Int32).toInt64)) = 0 → k23 G107 a0 a1 a2 a3 (x4 + 5)) ∧ (¬ ((lg_cmp (gE G107 a3 (0 : Int32).toNatClampNeg) ((r104 : Int32).toInt64)) = 0) → Pr 0 G107))) ∧ (¬ (r106 = r102) → Pr 0 G107))))) ∧ (z41 = 2 → a0 = b0 ∧ vp_in (x4 + 1) L ∧ a0 = b0 ∧ vp_in (x4 + 2) L ∧ a0 = b0 ∧ vp_in (x4 + 3) L ∧ wL_poke X G a1 (xs (x4 + 1).toNatClampNeg) (xs (x4 + 2).toNatClampNeg) (xs (x4 + 3).toNatClampNeg) a3 (fun r122 G123 => a0 = b0 ∧ vp_in (x4 + 1) L ∧ a0 = b0 ∧ vp_in (x4 + 2) L ∧ a0 = b0 ∧ vp_in (x4 + 3) L ∧ gT G123 a2 = (1, 11) ∧ wX10_poke X G123 a2 (xs (x4 + 1).toNatClampNeg) (xs (x4 + 2).toNatClampNeg) (xs (x4 + 3).toNatClampNeg) (fun r124 G125 => gT G125 a2 = (1, 11) ∧ wX10_thrown X G125 a2 (fun r126 G127 => (r126 = r122 → (¬ r122 = 0 → k23 G127 a0 a1 a2 a3 (x4 + 5)) ∧ (r122 = 0 → (gT G127 a3).1 = 5 ∧ vp_in 0 (gT G127 a3).2 ∧ ((lg_cmp (gE G127 a3 (0 : Int32).toNatClampNeg) ((r124 : Int32).toInt64)) = 0 → k23 G127 a0 a1 a2 a3 (x4 + 5)) ∧ (¬ ((lg_cmp (gE G127 a3 (0 : Int32).toNatClampNeg) ((r124 : Int32).toInt64)) = 0) → Pr 0 G127))) ∧ (¬ (r126 = r122) → Pr 0 G127))))) ∧ (z41 = 3 → a0 = b0 ∧ vp_in (x4 + 1) L ∧ a0 = b0 ∧ vp_in (x4 + 2) L ∧ wL_peek X G a1 (xs (x4 + 1).toNatClampNeg) (xs (x4 + 2).toNatClampNeg) a3 (fun r142 G143 => a0 = b0 ∧ vp_in (x4 + 1) L ∧ a0 = b0 ∧ vp_in (x4 + 2) L ∧ gT G143 a2 = (1, 11) ∧ wX10_peek X G143 a2 (xs (x4 + 1).toNatClampNeg) (xs (x4 + 2).toNatClampNeg) (fun r144 G145 => gT G145 a2 = (1, 11) ∧ wX10_thrown X G145 a2 (fun r146 G147 => (r146 = r142 → (¬ r142 = 0 → k23 G147 a0 a1 a2 a3 (x4 + 5)) ∧ (r142 = 0 → (gT G147 a3).1 = 5 ∧ vp_in 0 (gT G147 a3).2 ∧ ((lg_cmp (gE G147 a3 (0 : Int32).toNatClampNeg) ((r144 : Int32).toInt64)) = 0 → k23 G147 a0 a1 a2 a3 (x4 + 5)) ∧ (¬ ((lg_cmp (gE G147 a3 (0 : Int32).toNatClampNeg) ((r144 : Int32).toInt64)) = 0) → Pr 0 G147))) ∧ (¬ (r146 = r142) → Pr 0 G147))))) ∧ (z41 = 4 → a0 = b0 ∧ vp_in (x4 + 1) L ∧ a0 = b0 ∧ vp_in (x4 + 2) L ∧ a0 = b0 ∧ vp_in (x4 + 3) L ∧ ((xs (x4 + 3).toNatClampNeg) = 0 → wL_law_491 X b0 xs L Pr k23 G a0 a1 a2 a3 x4 a1 (xs (x4 + 1).toNatClampNeg) (xs (x4 + 2).toNatClampNeg) (0 : Int32)) ∧ (¬ ((xs (x4 + 3).toNatClampNeg) = 0) → wL_law_491 X b0 xs L Pr k23 G a0 a1 a2 a3 x4 a1 (xs (x4 + 1).toNatClampNeg) (xs (x4 + 2).toNatClampNeg) (1 : Int32))) ∧ (z41 = 5 → a0 = b0 ∧ vp_in (x4 + 1) L ∧ a0 = b0 ∧ vp_in (x4 + 2) L ∧ a0 = b0 ∧ vp_in (x4 + 3) L ∧ wL_fault X G a1 (xs (x4 + 1).toNatClampNeg) (xs (x4 + 2).toNatClampNeg) (xs (x4 + 3).toNatClampNeg) a3 (fun r182 G183 => a0 = b0 ∧ vp_in (x4 + 1) L ∧ a0 = b0 ∧ vp_in (x4 + 2) L ∧ a0 = b0 ∧ vp_in (x4 + 3) L ∧ gT G183 a2 = (1, 11) ∧ wX10_fault X G183 a2 (xs (x4 + 1).toNatClampNeg) (xs (x4 + 2).toNatClampNeg) (xs (x4 + 3).toNatClampNeg) (fun r184 G185 => gT G185 a2 = (1, 11) ∧ wX10_thrown X G185 a2 (fun r186 G187 => (r186 = r182 → (¬ r182 = 0 → k23 G187 a0 a1 a2 a3 (x4 + 5)) ∧ (r182 = 0 → (gT G187 a3).1 = 5 ∧ vp_in 0 (gT G187 a3).2 ∧ ((lg_cmp (gE G187 a3 (0 : Int32).toNatClampNeg) ((r184 : Int32).toInt64)) = 0 → k23 G187 a0 a1 a2 a3 (x4 + 5)) ∧ (¬ ((lg_cmp (gE G187 a3 (0 : Int32).toNatClampNeg) ((r184 : Int32).toInt64)) = 0) → Pr 0 G187))) ∧ (¬ (r186 = r182) → Pr 0 G187))))) ∧ (z41 = 6 → a0 = b0 ∧ vp_in (x4 + 1) L ∧ a0 = b0 ∧ vp_in (x4 + 2) L ∧ a0 = b0 ∧ vp_in (x4 + 3) L ∧ a0 = b0 ∧ vp_in (x4 + 4) L ∧ wL_read X G a1 (xs (x4 + 1).toNatClampNeg) (xs (x4 + 2).toNatClampNeg) (xs (x4 + 3).toNatClampNeg) (xs (x4 + 4).toNatClampNeg) a3 (fun r202 G203 => a0 = b0 ∧ vp_in (x4 + 1) L ∧ a0 = b0 ∧ vp_in (x4 + 2) L ∧ a0 = b0 ∧ vp_in (x4 + 3) L ∧ a0 = b0 ∧ vp_in (x4 + 4) L ∧ gT G203 a2 = (1, 11) ∧ wX10_read X G203 a2 (xs (x4 + 1).toNatClampNeg) (xs (x4 + 2).toNatClampNeg) (xs (x4 + 3).toNatClampNeg) (xs (x4 + 4).toNatClampNeg) (fun r204 G205 => gT G205 a2 = (1, 11) ∧ wX10_thrown X G205 a2 (fun r206 G207 => (r206 = r202 → (¬ r202 = 0 → k23 G207 a0 a1 a2 a3 (x4 + 5)) ∧ (r202 = 0 → (gT G207 a3).1 = 5 ∧ vp_in 0 (gT G207 a3).2 ∧ ((lg_cmp (gE G207 a3 (0 : Int32).toNatClampNeg) ((r204 : Int32).toInt64)) = 0 → k23 G207 a0 a1 a2 a3 (x4 + 5)) ∧ (¬ ((lg_cmp (gE G207 a3 (0 : Int32).toNatClampNeg) ((r204 : Int32).toInt64)) = 0) → Pr 0 G207))) ∧ (¬ (r206 = r202) → Pr 0 G207))))) ∧ (z41 = 7 → a0 = b0 ∧ vp_in (x4 + 1) L ∧ a0 = b0 ∧ vp_in (x4 + 2) L ∧ a0 = b0 ∧ vp_in (x4 + 3) L ∧ a0 = b0 ∧ vp_in (x4 + 4) L ∧ wL_write X G a1 (xs (x4 + 1).toNatClampNeg) (xs (x4 + 2).toNatClampNeg) (xs (x4 + 3).toNatClampNeg) (xs (x4 + 4).toNatClampNeg) a3 (fun r222 G223 => a0 = b0 ∧ vp_in (x4 + 1) L ∧ a0 = b0 ∧ vp_in (x4 + 2) L ∧ a0 = b0 ∧ vp_in (x4 + 3) L ∧ a0 = b0 ∧ vp_in (x4 + 4) L ∧ gT G223 a2 = (1, 11) ∧ wX10_write X G223 a2 (xs (x4 + 1).toNatClampNeg) (xs (x4 + 2).toNatClampNeg) (xs (x4 + 3).toNatClampNeg) (xs (x4 + 4).toNatClampNeg) (fun r224 G225 => gT G225 a2 = (1, 11) ∧ wX10_thrown X G225 a2 (fun r226 G227 => (r226 = r222 → (¬ r222 = 0 → k23 G227 a0 a1 a2 a3 (x4 + 5)) ∧ (r222 = 0 → (gT G227 a3).1 = 5 ∧ vp_in 0 (gT G227 a3).2 ∧ ((lg_cmp (gE G227 a3 (0 : Int32).toNatClampNeg) ((r224 : Int32).toInt64)) = 0 → k23 G227 a0 a1 a2 a3 (x4 + 5)) ∧ (¬ ((lg_cmp (gE G227 a3 (0 : Int32).toNatClampNeg) ((r224 : Int32).toInt64)) = 0) → Pr 0 G227))) ∧ (¬ (r226 = r222) → Pr 0 G227))))) ∧ (z41 = 8 → a0 = b0 ∧ vp_in (x4 + 1) L ∧ a0 = b0 ∧ vp_in (x4 + 2) L ∧ wL_request X G a1 (xs (x4 + 1).toNatClampNeg) (xs (x4 + 2).toNatClampNeg) a3 (fun r242 G243 => a0 = b0 ∧ vp_in (x4 + 1) L ∧ a0 = b0 ∧ vp_in (x4 + 2) L ∧ gT G243 a2 = (1, 11) ∧ wX10_request X G243 a2 (xs (x4 + 1).toNatClampNeg) (xs (x4 + 2).toNatClampNeg) (fun r244 G245 => gT G245 a2 = (1, 11) ∧ wX10_thrown X G245 a2 (fun r246 G247 => (r246 = r242 → (¬ r242 = 0 → k23 G247 a0 a1 a2 a3 (x4 + 5)) ∧ (r242 = 0 → (gT G247 a3).1 = 5 ∧ vp_in 0 (gT G247 a3).2 ∧ ((lg_cmp (gE G247 a3 (0 : Int32).toNatClampNeg) ((r244 : Int32).toInt64)) = 0 → k23 G247 a0 a1 a2 a3 (x4 + 5)) ∧ (¬ ((lg_cmp (gE G247 a3 (0 : Int32).toNatClampNeg) ((r244 : Int32).toInt64)) = 0) → Pr 0 G247))) ∧ (¬ (r246 = r242) → Pr 0 G247))))) ∧ (z41 = 9 → a0 = b0 ∧ vp_in (x4 + 1) L ∧ a0 = b0 ∧ vp_in (x4 + 2) L ∧ wL_value X G a1 (xs (x4 + 1).toNatClampNeg) (xs (x4 + 2).toNatClampNeg) a3 (fun r262 G263 => a0 = b0 ∧ vp_in (x4 + 1) L ∧ a0 = b0 ∧ vp_in (x4 + 2) L ∧ gT G263 a2 = (1, 11) ∧ wX10_value X G263 a2 (xs (x4 + 1).toNatClampNeg) (xs (x4 + 2).toNatClampNeg) (fun r264 G265 => gT G265 a2 = (1, 11) ∧ wX10_thrown X G265 a2 (fun r266 G267 => (r266 = r262 → (¬ r262 = 0 → k23 G267 a0 a1 a2 a3 (x4 + 5)) ∧ (r262 = 0 → (gT G267 a3).1 = 5 ∧ vp_in 0 (gT G267 a3).2 ∧ ((lg_cmp (gE G267 a3 (0 : Int32).toNatClampNeg) ((r264 : Int32).toInt64)) = 0 → k23 G267 a0 a1 a2 a3 (x4 + 5)) ∧ (¬ ((lg_cmp (gE G267 a3 (0 : Int32).toNatClampNeg) ((r264 : Int32).toInt64)) = 0) → Pr 0 G267))) ∧ (¬ (r266 = r262) → Pr 0 G267))))) ∧ (z41 = 10 → a0 = b0 ∧ vp_in (x4 + 1) L ∧ wL_requests X G a1 (xs (x4 + 1).toNatClampNeg) a3 (fun r282 G283 => a0 = b0 ∧ vp_in (x4 + 1) L ∧ gT G283 a2 = (1, 11) ∧ wX10_requests X G283 a2 (xs (x4 + 1).toNatClampNeg) (fun r284 G285 => gT G285 a2 = (1, 11) ∧ wX10_thrown X G285 a2 (fun r286 G287 => (r286 = r282 → (¬ r282 = 0 → k23 G287 a0 a1 a2 a3 (x4 + 5)) ∧ (r282 = 0 → (gT G287 a3).1 = 5 ∧ vp_in 0 (gT G287 a3).2 ∧ ((lg_cmp (gE G287 a3 (0 : Int32).toNatClampNeg) ((r284 : Int32).toInt64)) = 0 → k23 G287 a0 a1 a2 a3 (x4 + 5)) ∧ (¬ ((lg_cmp (gE G287 a3 (0 : Int32).toNatClampNeg) ((r284 : Int32).toInt64)) = 0) → Pr 0 G287))) ∧ (¬ (r286 = r282) → Pr 0 G287))))) ∧ (z41 = 11 → a0 = b0 ∧ vp_in (x4 + 1) L ∧ a0 = b0 ∧ vp_in (x4 + 2) L ∧ wL_requestsOf X G a1 (xs (x4 + 1).toNatClampNeg) (xs (x4 + 2).toNatClampNeg) a3 (fun r302 G303 => a0 = b0 ∧ vp_in (x4 + 1) L ∧ a0 = b0 ∧ vp_in (x4 + 2) L ∧ gT G303 a2 = (1, 11) ∧ wX10_requestsOf X G303 a2 (xs (x4 + 1).toNatClampNeg) (xs (x4 + 2).toNatClampNeg) (fun r304 G305 => gT G305 a2 = (1, 11) ∧ wX10_thrown X G305 a2 (fun r306 G307 => (r306 = r302 → (¬ r302 = 0 → k23 G307 a0 a1 a2 a3 (x4 + 5)) ∧ (r302 = 0 → (gT G307 a3).1 = 5 ∧ vp_in 0 (gT G307 a3).2 ∧ ((lg_cmp (gE G307 a3 (0 : Int32).toNatClampNeg) ((r304 : Int32).toInt64)) = 0 → k23 G307 a0 a1 a2 a3 (x4 + 5)) ∧ (¬ ((lg_cmp (gE G307 a3 (0 : Int32).toNatClampNeg) ((r304 : Int32).toInt64)) = 0) → Pr 0 G307))) ∧ (¬ (r306 = r302) → Pr 0 G307))))) ∧ (z41 = 12 → gT G a1 = (1, 10) ∧ wX9_step X G a1 (fun r322 G323 => gT G323 a2 = (1, 11) ∧ wX10_step X G323 a2 (fun r324 G325 => (r322 = r324 → k23 G325 a0 a1 a2 a3 (x4 + 5)) ∧ (¬ (r322 = r324) → Pr 0 G325))) noX) ∧ (z41 = 13 → gT G a1 = (1, 10) ∧ wX9_finish X G a1 (fun r342 G343 => gT G343 a2 = (1, 11) ∧ wX10_finish X G343 a2 (fun r344 G345 => (r342 = r344 → k23 G345 a0 a1 a2 a3 (x4 + 5)) ∧ (¬ (r342 = r344) → Pr 0 G345))) noX) ∧ (z41 = 14 → a0 = b0 ∧ vp_in (x4 + 1) L ∧ wL_pass X G a1 (xs (x4 + 1).toNatClampNeg) a3 (fun r362 G363 => a0 = b0 ∧ vp_in (x4 + 1) L ∧ gT G363 a2 = (1, 11) ∧ wX10_pass X G363 a2 (xs (x4 + 1).toNatClampNeg) (fun r364 G365 => gT G365 a2 = (1, 11) ∧ wX10_thrown X G365 a2 (fun r366 G367 => (r366 = r362 → (¬ r362 = 0 → k23 G367 a0 a1 a2 a3 (x4 + 5)) ∧ (r362 = 0 → (gT G367 a3).1 = 5 ∧ vp_in 0 (gT G367 a3).2 ∧ ((lg_cmp (gE G367 a3 (0 : Int32).toNatClampNeg) ((r364 : Int32).toInt64)) = 0 → k23 G367 a0 a1 a2 a3 (x4 + 5)) ∧ (¬ ((lg_cmp (gE G367 a3 (0 : Int32).toNatClampNeg) ((r364 : Int32).toInt64)) = 0) → Pr 0 G367))) ∧ (¬ (r366 = r362) → Pr 0 G367))))) ∧ (z41 = 15 → gT G a1 = (1, 10) ∧ wX9_time X G a1 (fun r382 G383 => gT G383 a2 = (1, 11) ∧ wX10_time X G383 a2 (fun r384 G385 => (r382 = r384 → k23 G385 a0 a1 a2 a3 (x4 + 5)) ∧ (¬ (r382 = r384) → Pr 0 G385)))) ∧ (z41 = 16 → gT G a1 = (1, 10) ∧ wX9_group X G a1 (fun r402 G403 => gT G403 a2 = (1, 11) ∧ wX10_group X G403 a2 (fun r404 G405 => ((lg_cmp r402 r404) = 0 → k23 G405 a0 a1 a2 a3 (x4 + 5)) ∧ (¬ ((lg_cmp r402 r404) = 0) → Pr 0 G405))) noX) ∧ (z41 = 17 → a0 = b0 ∧ vp_in (x4 + 1) L ∧ wL_frameByte X G a1 (xs (x4 + 1).toNatClampNeg) a3 (fun r422 G423 => a0 = b0 ∧ vp_in (x4 + 1) L ∧ gT G423 a2 = (1, 11) ∧ wX10_frameByte X G423 a2 (xs (x4 + 1).toNatClampNeg) (fun r424 G425 => gT G425 a2 = (1, 11) ∧ wX10_thrown X G425 a2 (fun r426 G427 => (r426 = r422 → (¬ r422 = 0 → k23 G427 a0 a1 a2 a3 (x4 + 5)) ∧ (r422 = 0 → (gT G427 a3).1 = 5 ∧ vp_in 0 (gT G427 a3).2 ∧ ((lg_cmp (gE G427 a3 (0 : Int32).toNatClampNeg) ((r424 : Int32).toInt64)) = 0 → k23 G427 a0 a1 a2 a3 (x4 + 5)) ∧ (¬ ((lg_cmp (gE G427 a3 (0 : Int32).toNatClampNeg) ((r424 : Int32).toInt64)) = 0) → Pr 0 G427))) ∧ (¬ (r426 = r422) → Pr 0 G427))))) ∧ (z41 = 18 → a0 = b0 ∧ vp_in (x4 + 1) L ∧ a0 = b0 ∧ vp_in (x4 + 2) L ∧ wL_cacheAge X G a1 (xs (x4 + 1).toNatClampNeg) (xs (x4 + 2).toNatClampNeg) a3 (fun r442 G443 => a0 = b0 ∧ vp_in (x4 + 1) L ∧ a0 = b0 ∧ vp_in (x4 + 2) L ∧ gT G443 a2 = (1, 11) ∧ wX10_cacheAge X G443 a2 (xs (x4 + 1).toNatClampNeg) (xs (x4 + 2).toNatClampNeg) (fun r444 G445 => gT G445 a2 = (1, 11) ∧ wX10_thrown X G445 a2 (fun r446 G447 => (r446 = r442 → (¬ r442 = 0 → k23 G447 a0 a1 a2 a3 (x4 + 5)) ∧ (r442 = 0 → (gT G447 a3).1 = 5 ∧ vp_in 0 (gT G447 a3).2 ∧ ((lg_cmp (gE G447 a3 (0 : Int32).toNatClampNeg) ((r444 : Int32).toInt64)) = 0 → k23 G447 a0 a1 a2 a3 (x4 + 5)) ∧ (¬ ((lg_cmp (gE G447 a3 (0 : Int32).toNatClampNeg) ((r444 : Int32).toInt64)) = 0) → Pr 0 G447))) ∧ (¬ (r446 = r442) → Pr 0 G447))))) ∧ (z41 = 19 → a0 = b0 ∧ vp_in (x4 + 1) L ∧ a0 = b0 ∧ vp_in (x4 + 2) L ∧ wL_cached X G a1 (xs (x4 + 1).toNatClampNeg) (xs (x4 + 2).toNatClampNeg) a3 (fun r462 G463 => a0 = b0 ∧ vp_in (x4 + 1) L ∧ a0 = b0 ∧ vp_in (x4 + 2) L ∧ gT G463 a2 = (1, 11) ∧ wX10_cached X G463 a2 (xs (x4 + 1).toNatClampNeg) (xs (x4 + 2).toNatClampNeg) (fun r464 G465 => gT G465 a2 = (1, 11) ∧ wX10_thrown X G465 a2 (fun r466 G467 => (r466 = r462 → (¬ r462 = 0 → k23 G467 a0 a1 a2 a3 (x4 + 5)) ∧ (r462 = 0 → (gT G467 a3).1 = 5 ∧ vp_in 0 (gT G467 a3).2 ∧ ((lg_cmp (gE G467 a3 (0 : Int32).toNatClampNeg) ((r464 : Int32).toInt64)) = 0 → k23 G467 a0 a1 a2 a3 (x4 + 5)) ∧ (¬ ((lg_cmp (gE G467 a3 (0 : Int32).toNatClampNeg) ((r464 : Int32).toInt64)) = 0) → Pr 0 G467))) ∧ (¬ (r466 = r462) → Pr 0 G467))))) ∧ (z41 = 20 → gT G a1 = (1, 10) ∧ wX9_clearCache X G a1 (fun r482 G483 => gT G483 a2 = (1, 11) ∧ wX10_clearCache X G483 a2 (fun r484 G485 => (r482 = r484 → k23 G485 a0 a1 a2 a3 (x4 + 5)) ∧ (¬ (r482 = r484) → Pr 0 G485)))) ∧ (z41 = 21 → a0 = b0 ∧ vp_in (x4 + 1) L ∧ wL_count X G a1 (xs (x4 + 1).toNatClampNeg) a3 (fun r502 G503 => a0 = b0 ∧ vp_in (x4 + 1) L ∧ gT G503 a2 = (1, 11) ∧ wX10_count X G503 a2 (xs (x4 + 1).toNatClampNeg) (fun r504 G505 => gT G505 a2 = (1, 11) ∧ wX10_thrown X G505 a2 (fun r506 G507 => (r506 = r502 → (¬ r502 = 0 → k23 G507 a0 a1 a2 a3 (x4 + 5)) ∧ (r502 = 0 → (gT G507 a3).1 = 5 ∧ vp_in 0 (gT G507 a3).2 ∧ ((lg_cmp (gE G507 a3 (0 : Int32).toNatClampNeg) ((r504 : Int32).toInt64)) = 0 → k23 G507 a0 a1 a2 a3 (x4 + 5)) ∧ (¬ ((lg_cmp (gE G507 a3 (0 : Int32).toNatClampNeg) ((r504 : Int32).toInt64)) = 0) → Pr 0 G507))) ∧ (¬ (r506 = r502) → Pr 0 G507))))) ∧ (z41 = 22 → a0 = b0 ∧ vp_in (x4 + 1) L ∧ wL_leastDrain X G a1 (xs (x4 + 1).toNatClampNeg) a3 (fun r522 G523 => a0 = b0 ∧ vp_in (x4 + 1) L ∧ gT G523 a2 = (1, 11) ∧ wX10_leastDrain X G523 a2 (xs (x4 + 1).toNatClampNeg) (fun r524 G525 => gT G525 a2 = (1, 11) ∧ wX10_thrown X G525 a2 (fun r526 G527 => (r526 = r522 → (¬ r522 = 0 → k23 G527 a0 a1 a2 a3 (x4 + 5)) ∧ (r522 = 0 → (gT G527 a3).1 = 5 ∧ vp_in 0 (gT G527 a3).2 ∧ ((lg_cmp (gE G527 a3 (0 : Int32).toNatClampNeg) ((r524 : Int32).toInt64)) = 0 → k23 G527 a0 a1 a2 a3 (x4 + 5)) ∧ (¬ ((lg_cmp (gE G527 a3 (0 : Int32).toNatClampNeg) ((r524 : Int32).toInt64)) = 0) → Pr 0 G527))) ∧ (¬ (r526 = r522) → Pr 0 G527))))) ∧ (z41 = 23 → a0 = b0 ∧ vp_in (x4 + 1) L ∧ a0 = b0 ∧ vp_in (x4 + 2) L ∧ wL_feed X G a1 (xs (x4 + 1).toNatClampNeg) (xs (x4 + 2).toNatClampNeg) a3 (fun r542 G543 => a0 = b0 ∧ vp_in (x4 + 1) L ∧ a0 = b0 ∧ vp_in (x4 + 2) L ∧ gT G543 a2 = (1, 11) ∧ wX10_feed X G543 a2 (xs (x4 + 1).toNatClampNeg) (xs (x4 + 2).toNatClampNeg) (fun r544 G545 => gT G545 a2 = (1, 11) ∧ wX10_thrown X G545 a2 (fun r546 G547 => (r546 = r542 → (¬ r542 = 0 → k23 G547 a0 a1 a2 a3 (x4 + 5)) ∧ (r542 = 0 → (gT G547 a3).1 = 5 ∧ vp_in 0 (gT G547 a3).2 ∧ ((lg_cmp (gE G547 a3 (0 : Int32).toNatClampNeg) ((r544 : Int32).toInt64)) = 0 → k23 G547 a0 a1 a2 a3 (x4 + 5)) ∧ (¬ ((lg_cmp (gE G547 a3 (0 : Int32).toNatClampNeg) ((r544 : Int32).toInt64)) = 0) → Pr 0 G547))) ∧ (¬ (r546 = r542) → Pr 0 G547))))) ∧ (z41 = 24 → gT G a1 = (1, 10) ∧ wX9_endFrame X G a1 (fun r562 G563 => gT G563 a2 = (1, 11) ∧ wX10_endFrame X G563 a2 (fun r564 G565 => (r562 = r564 → k23 G565 a0 a1 a2 a3 (x4 + 5)) ∧ (¬ (r562 = r564) → Pr 0 G565)))) ∧ (z41 = 25 → a0 = b0 ∧ vp_in (x4 + 1) L ∧ wL_verdict X G a1 (xs (x4 + 1).toNatClampNeg) a3 (fun r582 G583 => a0 = b0 ∧ vp_in (x4 + 1) L ∧ gT G583 a2 = (1, 11) ∧ wX10_verdict X G583 a2 (xs (x4 + 1).toNatClampNeg) (fun r584 G585 => gT G585 a2 = (1, 11) ∧ wX10_thrown X G585 a2 (fun r586 G587 => (r586 = r582 → (¬ r582 = 0 → k23 G587 a0 a1 a2 a3 (x4 + 5)) ∧ (r582 = 0 → (gT G587 a3).1 = 5 ∧ vp_in 0 (gT G587 a3).2 ∧ ((lg_cmp (gE G587 a3 (0 : Int32).toNatClampNeg) ((r584 : Int32).toInt64)) = 0 → k23 G587 a0 a1 a2 a3 (x4 + 5)) ∧ (¬ ((lg_cmp (gE G587 a3 (0 : Int32).toNatClampNeg) ((r584 : Int32).toInt64)) = 0) → Pr 0 G587))) ∧ (¬ (r586 = r582) → Pr 0 G587))))) ∧ (z41 = 26 → a0 = b0 ∧ vp_in (x4 + 1) L ∧ wL_length X G a1 (xs (x4 + 1).toNatClampNeg) a3 (fun r602 G603 => a0 = b0 ∧ vp_in (x4 + 1) L ∧ gT G603 a2 = (1, 11) ∧ wX10_length X G603 a2 (xs (x4 + 1).toNatClampNeg) (fun r604 G605 => gT G605 a2 = (1, 11) ∧ wX10_thrown X G605 a2 (fun r606 G607 => (r606 = r602 → (¬ r602 = 0 → k23 G607 a0 a1 a2 a3 (x4 + 5)) ∧ (r602 = 0 → (gT G607 a3).1 = 5 ∧ vp_in 0 (gT G607 a3).2 ∧ ((lg_cmp (gE G607 a3 (0 : Int32).toNatClampNeg) ((r604 : Int32).toInt64)) = 0 → k23 G607 a0 a1 a2 a3 (x4 + 5)) ∧ (¬ ((lg_cmp (gE G607 a3 (0 : Int32).toNatClampNeg) ((r604 : Int32).toInt64)) = 0) → Pr 0 G607))) ∧ (¬ (r606 = r602) → Pr 0 G607))))) ∧ (z41 = 27 → gT G a1 = (1, 10) ∧ wX9_checksum X G a1 (fun r622 G623 => gT G623 a2 = (1, 11) ∧ wX10_checksum X G623 a2 (fun r624 G625 => (r622 = r624 → k23 G625 a0 a1 a2 a3 (x4 + 5)) ∧ (¬ (r622 = r624) → Pr 0 G625)))) ∧ (z41 = 28 → gT G a1 = (1, 10) ∧ wX9_fingerprint X G a1 (fun r642 G643 => gT G643 a2 = (1, 11) ∧ wX10_fingerprint X G643 a2 (fun r644 G645 => ((lg_cmp r642 r644) = 0 → k23 G645 a0 a1 a2 a3 (x4 + 5)) ∧ (¬ ((lg_cmp r642 r644) = 0) → Pr 0 G645))) noX))
set_option maxRecDepth 20000 in
theorem bL_law_23 {X : Xt} {K : Kt} {l : Launch} {b0 : Nat} {xs : Nat → Int32} {L : Nat} {Q : State → Prop} {Pr : Int32 → Gt → Prop} (B : BL X K l b0 L xs Pr Q) {k23 : Gt → Nat → Nat → Nat → Nat → Int32 → Prop} (hk23 : ∀ (G : Gt) (a0 : Nat) (a1 : Nat) (a2 : Nat) (a3 : Nat) (x4 : Int32), k23 G a0 a1 a2 a3 x4 → WM X K Q G 23 [some (.ref a0), some (.ref a1), some (.ref a2), some (.ref a3), some (.int x4), none, none] []) {G : Gt} {a0 : Nat} {a1 : Nat} {a2 : Nat} {a3 : Nat} {x4 : Int32} (h : wL_law_23 X b0 xs L Pr k23 G a0 a1 a2 a3 x4) : WM X K Q G 23 [some (.ref a0), some (.ref a1), some (.ref a2), some (.ref a3), some (.int x4), none, none] [] := by
  obtain ⟨hL, C, hSC, hfl, hret⟩ := id B
  unfold wL_law_23 at h
  refine r_iload C dL_law_23 rfl ?_
  refine r_aloadR_n C 0 dL_law_25 rfl rfl ?_
  obtain ⟨hab, h⟩ := h
  refine r_slenE C hSC hab dL_law_26 ?_
  refine r_iconst C 5 dL_law_27 (by decide) ?_
  refine r_isub C dL_law_28 ?_
  refine r_icmp_gt C 1743 dL_law_29 (by decide) (fun c => ?_) (fun c => ?_)
  · replace h := h.1 c
    refine r_iconst C 1 dL_law_1743 (by decide) ?_
    exact hret _ _ _ _ h dL_law_1744
  · replace h := h.2 c
    refine r_aloadR_n C 0 dL_law_32 rfl rfl ?_
    refine r_iload C dL_law_33 rfl ?_
    obtain ⟨hab, hi, h⟩ := h
    refine r_sldE C hSC hab hi dL_law_35 ?_
    refine r_bipush C 31 dL_law_36 (by decide) ?_
    refine r_iand C dL_law_38 ?_
    refine r_nmI (fun z41 hz41 => ?_)
    replace h := h z41 hz41
    by_cases c : z41.toInt < 0 ∨ 28 < z41.toInt
    · refine r_tableOut C 1737 dL_law_39 c (by decide) ?_
      replace h := h.1 c
      refine r_iinc C 5 (lv' := [some (.ref a0), some (.ref a1), some (.ref a2), some (.ref a3), some (.int (x4 + 5)), none, none]) dL_law_1737 rfl (by decide) rfl rfl ?_
      refine r_goto C 23 dL_law_1740 (by decide) ?_
      exact hk23 _ _ _ _ _ _ h
    · rcases sw_cases28 z41 c with c | c | c | c | c | c | c | c | c | c | c | c | c | c | c | c | c | c | c | c | c | c | c | c | c | c | c | c | c
      · replace h := h.2.1 c
        refine r_tableIn C 168 dL_law_39 (by rw [c]; decide) (by rw [c]; decide) (by rw [c]; rfl) (by decide) ?_
        refine r_aloadR_n C 1 dL_law_168 rfl rfl ?_
        refine r_aloadR_n C 0 dL_law_169 rfl rfl ?_
        refine r_iload C dL_law_170 rfl ?_
        refine r_iconst C 1 dL_law_172 (by decide) ?_
        refine r_iadd C dL_law_173 ?_
        obtain ⟨hab, hi, h⟩ := h
        refine r_sldE C hSC hab hi dL_law_174 ?_
        refine r_aloadR_n C 0 dL_law_175 rfl rfl ?_
        refine r_iload C dL_law_176 rfl ?_
        refine r_iconst C 2 dL_law_178 (by decide) ?_
        refine r_iadd C dL_law_179 ?_
        obtain ⟨hab, hi, h⟩ := h
        refine r_sldE C hSC hab hi dL_law_180 ?_
        refine r_aloadR_n C 3 dL_law_181 rfl rfl ?_
        refine r_callX C hL xw_RL_87 rfl rfl (Nat.le_of_ble_eq_true rfl) ⟨(Nat.le_of_ble_eq_true rfl), (Nat.le_of_ble_eq_true rfl)⟩ (mL_set hfl h) rfl dL_law_182 (kI (fun r82 G83 h => ?_)) kN
        refine r_istore C (lv' := [some (.ref a0), some (.ref a1), some (.ref a2), some (.ref a3), some (.int x4), some (.int r82), none]) dL_law_185 (Nat.le_of_ble_eq_true rfl) rfl rfl ?_
        refine r_aloadR_n C 2 dL_law_187 rfl rfl ?_
        refine r_aloadR_n C 0 dL_law_188 rfl rfl ?_
        refine r_iload C dL_law_189 rfl ?_
        refine r_iconst C 1 dL_law_191 (by decide) ?_
        refine r_iadd C dL_law_192 ?_
        obtain ⟨hab, hi, h⟩ := h
        refine r_sldE C hSC hab hi dL_law_193 ?_
        refine r_aloadR_n C 0 dL_law_194 rfl rfl ?_
        refine r_iload C dL_law_195 rfl ?_
        refine r_iconst C 2 dL_law_197 (by decide) ?_
        refine r_iadd C dL_law_198 ?_
        obtain ⟨hab, hi, h⟩ := h
        refine r_sldE C hSC hab hi dL_law_199 ?_
        obtain ⟨ht, h⟩ := h
        refine r_callV C (r := (RX10, TX10, 19)) hL yw_X10_set vw_RL_92 rfl rfl ht rfl rfl (Nat.le_of_ble_eq_true rfl) ⟨(Nat.le_of_ble_eq_true rfl), (Nat.le_of_ble_eq_true rfl)⟩ (mX10_set hfl h) rfl dL_law_200 (kI (fun r84 G85 h => ?_)) kN
        refine r_istore C (lv' := [some (.ref a0), some (.ref a1), some (.ref a2), some (.ref a3), some (.int x4), some (.int r82), some (.int r84)]) dL_law_203 (Nat.le_of_ble_eq_true rfl) rfl rfl ?_
        refine r_aloadR_n C 2 dL_law_205 rfl rfl ?_
        obtain ⟨ht, h⟩ := h
        refine r_callV C (r := (RX10, TX10, 19)) hL yw_X10_thrown vw_RL_93 rfl rfl ht rfl rfl (Nat.le_of_ble_eq_true rfl) ⟨(Nat.le_of_ble_eq_true rfl), (Nat.le_of_ble_eq_true rfl)⟩ (mX10_thrown hfl h) rfl dL_law_206 (kI (fun r86 G87 h => ?_)) kN
        refine r_iload C dL_law_209 rfl ?_
        refine r_icmp_eq C 216 dL_law_211 (by decide) (fun c => ?_) (fun c => ?_)
        · replace h := h.1 c
          refine r_iload C dL_law_216 rfl ?_
          refine r_if_ne C 233 dL_law_218 (by decide) (fun c => ?_) (fun c => ?_)
          · replace h := h.1 c
            refine r_goto C 1737 dL_law_233 (by decide) ?_
            refine r_iinc C 5 (lv' := [some (.ref a0), some (.ref a1), some (.ref a2), some (.ref a3), some (.int (x4 + 5)), some (.int r82), some (.int r84)]) dL_law_1737 rfl (by decide) rfl rfl ?_
            refine r_goto C 23 dL_law_1740 (by decide) ?_
            refine r_fg (lv' := [some (.ref a0), some (.ref a1), some (.ref a2), some (.ref a3), some (.int (x4 + 5)), none, none]) (show fgt _ _ from ⟨rfl, ⟨rfl, ⟨rfl, ⟨rfl, ⟨rfl, trivial⟩⟩⟩⟩⟩) ?_
            exact hk23 _ _ _ _ _ _ h
          · replace h := h.2 c
            refine r_aloadR_n C 3 dL_law_221 rfl rfl ?_
            refine r_iconst C 0 dL_law_222 (by decide) ?_
            obtain ⟨ht, hi, h⟩ := h
            refine r_laldP C ht hi dL_law_223 ?_
            refine r_iload C dL_law_224 rfl ?_
            refine r_i2l C dL_law_226 ?_
            refine r_lcmp C dL_law_227 ?_
            refine r_if_eq C 233 dL_law_228 (by decide) (fun c => ?_) (fun c => ?_)
            · replace h := h.1 c
              refine r_goto C 1737 dL_law_233 (by decide) ?_
              refine r_iinc C 5 (lv' := [some (.ref a0), some (.ref a1), some (.ref a2), some (.ref a3), some (.int (x4 + 5)), some (.int r82), some (.int r84)]) dL_law_1737 rfl (by decide) rfl rfl ?_
              refine r_goto C 23 dL_law_1740 (by decide) ?_
              refine r_fg (lv' := [some (.ref a0), some (.ref a1), some (.ref a2), some (.ref a3), some (.int (x4 + 5)), none, none]) (show fgt _ _ from ⟨rfl, ⟨rfl, ⟨rfl, ⟨rfl, ⟨rfl, trivial⟩⟩⟩⟩⟩) ?_
              exact hk23 _ _ _ _ _ _ h
            · replace h := h.2 c
              refine r_iconst C 0 dL_law_231 (by decide) ?_
              exact hret _ _ _ _ h dL_law_232
        · replace h := h.2 c
          refine r_iconst C 0 dL_law_214 (by decide) ?_
          exact hret _ _ _ _ h dL_law_215
      · replace h := h.2.2.1 c
        refine r_tableIn C 236 dL_law_39 (by rw [c]; decide) (by rw [c]; decide) (by rw [c]; rfl) (by decide) ?_
        refine r_aloadR_n C 1 dL_law_236 rfl rfl ?_
        refine r_aloadR_n C 0 dL_law_237 rfl rfl ?_
        refine r_iload C dL_law_238 rfl ?_
        refine r_iconst C 1 dL_law_240 (by decide) ?_
        refine r_iadd C dL_law_241 ?_
        obtain ⟨hab, hi, h⟩ := h
        refine r_sldE C hSC hab hi dL_law_242 ?_
        refine r_aloadR_n C 0 dL_law_243 rfl rfl ?_
        refine r_iload C dL_law_244 rfl ?_
        refine r_iconst C 2 dL_law_246 (by decide) ?_
        refine r_iadd C dL_law_247 ?_
        obtain ⟨hab, hi, h⟩ := h
        refine r_sldE C hSC hab hi dL_law_248 ?_
        refine r_aloadR_n C 0 dL_law_249 rfl rfl ?_
        refine r_iload C dL_law_250 rfl ?_
        refine r_iconst C 3 dL_law_252 (by decide) ?_
        refine r_iadd C dL_law_253 ?_
        obtain ⟨hab, hi, h⟩ := h
        refine r_sldE C hSC hab hi dL_law_254 ?_
        refine r_aloadR_n C 3 dL_law_255 rfl rfl ?_
        refine r_callX C hL xw_RL_97 rfl rfl (Nat.le_of_ble_eq_true rfl) ⟨(Nat.le_of_ble_eq_true rfl), (Nat.le_of_ble_eq_true rfl)⟩ (mL_setDevice hfl h) rfl dL_law_256 (kI (fun r102 G103 h => ?_)) kN
        refine r_istore C (lv' := [some (.ref a0), some (.ref a1), some (.ref a2), some (.ref a3), some (.int x4), some (.int r102), none]) dL_law_259 (Nat.le_of_ble_eq_true rfl) rfl rfl ?_
        refine r_aloadR_n C 2 dL_law_261 rfl rfl ?_
        refine r_aloadR_n C 0 dL_law_262 rfl rfl ?_
        refine r_iload C dL_law_263 rfl ?_
        refine r_iconst C 1 dL_law_265 (by decide) ?_
        refine r_iadd C dL_law_266 ?_
        obtain ⟨hab, hi, h⟩ := h
        refine r_sldE C hSC hab hi dL_law_267 ?_
        refine r_aloadR_n C 0 dL_law_268 rfl rfl ?_
        refine r_iload C dL_law_269 rfl ?_
        refine r_iconst C 2 dL_law_271 (by decide) ?_
        refine r_iadd C dL_law_272 ?_
        obtain ⟨hab, hi, h⟩ := h
        refine r_sldE C hSC hab hi dL_law_273 ?_
        refine r_aloadR_n C 0 dL_law_274 rfl rfl ?_
        refine r_iload C dL_law_275 rfl ?_
        refine r_iconst C 3 dL_law_277 (by decide) ?_
        refine r_iadd C dL_law_278 ?_
        obtain ⟨hab, hi, h⟩ := h
        refine r_sldE C hSC hab hi dL_law_279 ?_
        obtain ⟨ht, h⟩ := h
        refine r_callV C (r := (RX10, TX10, 19)) hL yw_X10_setDevice vw_RL_100 rfl rfl ht rfl rfl (Nat.le_of_ble_eq_true rfl) ⟨(Nat.le_of_ble_eq_true rfl), (Nat.le_of_ble_eq_true rfl)⟩ (mX10_setDevice hfl h) rfl dL_law_280 (kI (fun r104 G105 h => ?_)) kN
        refine r_istore C (lv' := [some (.ref a0), some (.ref a1), some (.ref a2), some (.ref a3), some (.int x4), some (.int r102), some (.int r104)]) dL_law_283 (Nat.le_of_ble_eq_true rfl) rfl rfl ?_
        refine r_aloadR_n C 2 dL_law_285 rfl rfl ?_
        obtain ⟨ht, h⟩ := h
        refine r_callV C (r := (RX10, TX10, 19)) hL yw_X10_thrown vw_RL_93 rfl rfl ht rfl rfl (Nat.le_of_ble_eq_true rfl) ⟨(Nat.le_of_ble_eq_true rfl), (Nat.le_of_ble_eq_true rfl)⟩ (mX10_thrown hfl h) rfl dL_law_286 (kI (fun r106 G107 h => ?_)) kN
        refine r_iload C dL_law_289 rfl ?_
        refine r_icmp_eq C 296 dL_law_291 (by decide) (fun c => ?_) (fun c => ?_)
        · replace h := h.1 c
          refine r_iload C dL_law_296 rfl ?_
          refine r_if_ne C 313 dL_law_298 (by decide) (fun c => ?_) (fun c => ?_)
          · replace h := h.1 c
            refine r_goto C 1737 dL_law_313 (by decide) ?_
            refine r_iinc C 5 (lv' := [some (.ref a0), some (.ref a1), some (.ref a2), some (.ref a3), some (.int (x4 + 5)), some (.int r102), some (.int r104)]) dL_law_1737 rfl (by decide) rfl rfl ?_
            refine r_goto C 23 dL_law_1740 (by decide) ?_
            refine r_fg (lv' := [some (.ref a0), some (.ref a1), some (.ref a2), some (.ref a3), some (.int (x4 + 5)), none, none]) (show fgt _ _ from ⟨rfl, ⟨rfl, ⟨rfl, ⟨rfl, ⟨rfl, trivial⟩⟩⟩⟩⟩) ?_
            exact hk23 _ _ _ _ _ _ h
          · replace h := h.2 c
            refine r_aloadR_n C 3 dL_law_301 rfl rfl ?_
            refine r_iconst C 0 dL_law_302 (by decide) ?_
            obtain ⟨ht, hi, h⟩ := h
            refine r_laldP C ht hi dL_law_303 ?_
            refine r_iload C dL_law_304 rfl ?_
            refine r_i2l C dL_law_306 ?_
            refine r_lcmp C dL_law_307 ?_
            refine r_if_eq C 313 dL_law_308 (by decide) (fun c => ?_) (fun c => ?_)
            · replace h := h.1 c
              refine r_goto C 1737 dL_law_313 (by decide) ?_
              refine r_iinc C 5 (lv' := [some (.ref a0), some (.ref a1), some (.ref a2), some (.ref a3), some (.int (x4 + 5)), some (.int r102), some (.int r104)]) dL_law_1737 rfl (by decide) rfl rfl ?_
              refine r_goto C 23 dL_law_1740 (by decide) ?_
              refine r_fg (lv' := [some (.ref a0), some (.ref a1), some (.ref a2), some (.ref a3), some (.int (x4 + 5)), none, none]) (show fgt _ _ from ⟨rfl, ⟨rfl, ⟨rfl, ⟨rfl, ⟨rfl, trivial⟩⟩⟩⟩⟩) ?_
              exact hk23 _ _ _ _ _ _ h
            · replace h := h.2 c
              refine r_iconst C 0 dL_law_311 (by decide) ?_
              exact hret _ _ _ _ h dL_law_312
        · replace h := h.2 c
          refine r_iconst C 0 dL_law_294 (by decide) ?_
          exact hret _ _ _ _ h dL_law_295
      · replace h := h.2.2.2.1 c
        refine r_tableIn C 316 dL_law_39 (by rw [c]; decide) (by rw [c]; decide) (by rw [c]; rfl) (by decide) ?_
        refine r_aloadR_n C 1 dL_law_316 rfl rfl ?_
        refine r_aloadR_n C 0 dL_law_317 rfl rfl ?_
        refine r_iload C dL_law_318 rfl ?_
        refine r_iconst C 1 dL_law_320 (by decide) ?_
        refine r_iadd C dL_law_321 ?_
        obtain ⟨hab, hi, h⟩ := h
        refine r_sldE C hSC hab hi dL_law_322 ?_
        refine r_aloadR_n C 0 dL_law_323 rfl rfl ?_
        refine r_iload C dL_law_324 rfl ?_
        refine r_iconst C 2 dL_law_326 (by decide) ?_
        refine r_iadd C dL_law_327 ?_
        obtain ⟨hab, hi, h⟩ := h
        refine r_sldE C hSC hab hi dL_law_328 ?_
        refine r_aloadR_n C 0 dL_law_329 rfl rfl ?_
        refine r_iload C dL_law_330 rfl ?_
        refine r_iconst C 3 dL_law_332 (by decide) ?_
        refine r_iadd C dL_law_333 ?_
        obtain ⟨hab, hi, h⟩ := h
        refine r_sldE C hSC hab hi dL_law_334 ?_
        refine r_aloadR_n C 3 dL_law_335 rfl rfl ?_
        refine r_callX C hL xw_RL_101 rfl rfl (Nat.le_of_ble_eq_true rfl) ⟨(Nat.le_of_ble_eq_true rfl), (Nat.le_of_ble_eq_true rfl)⟩ (mL_poke hfl h) rfl dL_law_336 (kI (fun r122 G123 h => ?_)) kN
        refine r_istore C (lv' := [some (.ref a0), some (.ref a1), some (.ref a2), some (.ref a3), some (.int x4), some (.int r122), none]) dL_law_339 (Nat.le_of_ble_eq_true rfl) rfl rfl ?_
        refine r_aloadR_n C 2 dL_law_341 rfl rfl ?_
        refine r_aloadR_n C 0 dL_law_342 rfl rfl ?_
        refine r_iload C dL_law_343 rfl ?_
        refine r_iconst C 1 dL_law_345 (by decide) ?_
        refine r_iadd C dL_law_346 ?_
        obtain ⟨hab, hi, h⟩ := h
        refine r_sldE C hSC hab hi dL_law_347 ?_
        refine r_aloadR_n C 0 dL_law_348 rfl rfl ?_
        refine r_iload C dL_law_349 rfl ?_
        refine r_iconst C 2 dL_law_351 (by decide) ?_
        refine r_iadd C dL_law_352 ?_
        obtain ⟨hab, hi, h⟩ := h
        refine r_sldE C hSC hab hi dL_law_353 ?_
        refine r_aloadR_n C 0 dL_law_354 rfl rfl ?_
        refine r_iload C dL_law_355 rfl ?_
        refine r_iconst C 3 dL_law_357 (by decide) ?_
        refine r_iadd C dL_law_358 ?_
        obtain ⟨hab, hi, h⟩ := h
        refine r_sldE C hSC hab hi dL_law_359 ?_
        obtain ⟨ht, h⟩ := h
        refine r_callV C (r := (RX10, TX10, 19)) hL yw_X10_poke vw_RL_103 rfl rfl ht rfl rfl (Nat.le_of_ble_eq_true rfl) ⟨(Nat.le_of_ble_eq_true rfl), (Nat.le_of_ble_eq_true rfl)⟩ (mX10_poke hfl h) rfl dL_law_360 (kI (fun r124 G125 h => ?_)) kN
        refine r_istore C (lv' := [some (.ref a0), some (.ref a1), some (.ref a2), some (.ref a3), some (.int x4), some (.int r122), some (.int r124)]) dL_law_363 (Nat.le_of_ble_eq_true rfl) rfl rfl ?_
        refine r_aloadR_n C 2 dL_law_365 rfl rfl ?_
        obtain ⟨ht, h⟩ := h
        refine r_callV C (r := (RX10, TX10, 19)) hL yw_X10_thrown vw_RL_93 rfl rfl ht rfl rfl (Nat.le_of_ble_eq_true rfl) ⟨(Nat.le_of_ble_eq_true rfl), (Nat.le_of_ble_eq_true rfl)⟩ (mX10_thrown hfl h) rfl dL_law_366 (kI (fun r126 G127 h => ?_)) kN
        refine r_iload C dL_law_369 rfl ?_
        refine r_icmp_eq C 376 dL_law_371 (by decide) (fun c => ?_) (fun c => ?_)
        · replace h := h.1 c
          refine r_iload C dL_law_376 rfl ?_
          refine r_if_ne C 393 dL_law_378 (by decide) (fun c => ?_) (fun c => ?_)
          · replace h := h.1 c
            refine r_goto C 1737 dL_law_393 (by decide) ?_
            refine r_iinc C 5 (lv' := [some (.ref a0), some (.ref a1), some (.ref a2), some (.ref a3), some (.int (x4 + 5)), some (.int r122), some (.int r124)]) dL_law_1737 rfl (by decide) rfl rfl ?_
            refine r_goto C 23 dL_law_1740 (by decide) ?_
            refine r_fg (lv' := [some (.ref a0), some (.ref a1), some (.ref a2), some (.ref a3), some (.int (x4 + 5)), none, none]) (show fgt _ _ from ⟨rfl, ⟨rfl, ⟨rfl, ⟨rfl, ⟨rfl, trivial⟩⟩⟩⟩⟩) ?_
            exact hk23 _ _ _ _ _ _ h
          · replace h := h.2 c
            refine r_aloadR_n C 3 dL_law_381 rfl rfl ?_
            refine r_iconst C 0 dL_law_382 (by decide) ?_
            obtain ⟨ht, hi, h⟩ := h
            refine r_laldP C ht hi dL_law_383 ?_
            refine r_iload C dL_law_384 rfl ?_
            refine r_i2l C dL_law_386 ?_
            refine r_lcmp C dL_law_387 ?_
            refine r_if_eq C 393 dL_law_388 (by decide) (fun c => ?_) (fun c => ?_)
            · replace h := h.1 c
              refine r_goto C 1737 dL_law_393 (by decide) ?_
              refine r_iinc C 5 (lv' := [some (.ref a0), some (.ref a1), some (.ref a2), some (.ref a3), some (.int (x4 + 5)), some (.int r122), some (.int r124)]) dL_law_1737 rfl (by decide) rfl rfl ?_
              refine r_goto C 23 dL_law_1740 (by decide) ?_
              refine r_fg (lv' := [some (.ref a0), some (.ref a1), some (.ref a2), some (.ref a3), some (.int (x4 + 5)), none, none]) (show fgt _ _ from ⟨rfl, ⟨rfl, ⟨rfl, ⟨rfl, ⟨rfl, trivial⟩⟩⟩⟩⟩) ?_
              exact hk23 _ _ _ _ _ _ h
            · replace h := h.2 c
              refine r_iconst C 0 dL_law_391 (by decide) ?_
              exact hret _ _ _ _ h dL_law_392
        · replace h := h.2 c
          refine r_iconst C 0 dL_law_374 (by decide) ?_
          exact hret _ _ _ _ h dL_law_375
      · replace h := h.2.2.2.2.1 c
        refine r_tableIn C 396 dL_law_39 (by rw [c]; decide) (by rw [c]; decide) (by rw [c]; rfl) (by decide) ?_
        refine r_aloadR_n C 1 dL_law_396 rfl rfl ?_
        refine r_aloadR_n C 0 dL_law_397 rfl rfl ?_
        refine r_iload C dL_law_398 rfl ?_
        refine r_iconst C 1 dL_law_400 (by decide) ?_
        refine r_iadd C dL_law_401 ?_
        obtain ⟨hab, hi, h⟩ := h
        refine r_sldE C hSC hab hi dL_law_402 ?_
        refine r_aloadR_n C 0 dL_law_403 rfl rfl ?_
        refine r_iload C dL_law_404 rfl ?_
        refine r_iconst C 2 dL_law_406 (by decide) ?_
        refine r_iadd C dL_law_407 ?_
        obtain ⟨hab, hi, h⟩ := h
        refine r_sldE C hSC hab hi dL_law_408 ?_
        refine r_aloadR_n C 3 dL_law_409 rfl rfl ?_
        refine r_callX C hL xw_RL_104 rfl rfl (Nat.le_of_ble_eq_true rfl) ⟨(Nat.le_of_ble_eq_true rfl), (Nat.le_of_ble_eq_true rfl)⟩ (mL_peek hfl h) rfl dL_law_410 (kI (fun r142 G143 h => ?_)) kN
        refine r_istore C (lv' := [some (.ref a0), some (.ref a1), some (.ref a2), some (.ref a3), some (.int x4), some (.int r142), none]) dL_law_413 (Nat.le_of_ble_eq_true rfl) rfl rfl ?_
        refine r_aloadR_n C 2 dL_law_415 rfl rfl ?_
        refine r_aloadR_n C 0 dL_law_416 rfl rfl ?_
        refine r_iload C dL_law_417 rfl ?_
        refine r_iconst C 1 dL_law_419 (by decide) ?_
        refine r_iadd C dL_law_420 ?_
        obtain ⟨hab, hi, h⟩ := h
        refine r_sldE C hSC hab hi dL_law_421 ?_
        refine r_aloadR_n C 0 dL_law_422 rfl rfl ?_
        refine r_iload C dL_law_423 rfl ?_
        refine r_iconst C 2 dL_law_425 (by decide) ?_
        refine r_iadd C dL_law_426 ?_
        obtain ⟨hab, hi, h⟩ := h
        refine r_sldE C hSC hab hi dL_law_427 ?_
        obtain ⟨ht, h⟩ := h
        refine r_callV C (r := (RX10, TX10, 19)) hL yw_X10_peek vw_RL_106 rfl rfl ht rfl rfl (Nat.le_of_ble_eq_true rfl) ⟨(Nat.le_of_ble_eq_true rfl), (Nat.le_of_ble_eq_true rfl)⟩ (mX10_peek hfl h) rfl dL_law_428 (kI (fun r144 G145 h => ?_)) kN
        refine r_istore C (lv' := [some (.ref a0), some (.ref a1), some (.ref a2), some (.ref a3), some (.int x4), some (.int r142), some (.int r144)]) dL_law_431 (Nat.le_of_ble_eq_true rfl) rfl rfl ?_
        refine r_aloadR_n C 2 dL_law_433 rfl rfl ?_
        obtain ⟨ht, h⟩ := h
        refine r_callV C (r := (RX10, TX10, 19)) hL yw_X10_thrown vw_RL_93 rfl rfl ht rfl rfl (Nat.le_of_ble_eq_true rfl) ⟨(Nat.le_of_ble_eq_true rfl), (Nat.le_of_ble_eq_true rfl)⟩ (mX10_thrown hfl h) rfl dL_law_434 (kI (fun r146 G147 h => ?_)) kN
        refine r_iload C dL_law_437 rfl ?_
        refine r_icmp_eq C 444 dL_law_439 (by decide) (fun c => ?_) (fun c => ?_)
        · replace h := h.1 c
          refine r_iload C dL_law_444 rfl ?_
          refine r_if_ne C 461 dL_law_446 (by decide) (fun c => ?_) (fun c => ?_)
          · replace h := h.1 c
            refine r_goto C 1737 dL_law_461 (by decide) ?_
            refine r_iinc C 5 (lv' := [some (.ref a0), some (.ref a1), some (.ref a2), some (.ref a3), some (.int (x4 + 5)), some (.int r142), some (.int r144)]) dL_law_1737 rfl (by decide) rfl rfl ?_
            refine r_goto C 23 dL_law_1740 (by decide) ?_
            refine r_fg (lv' := [some (.ref a0), some (.ref a1), some (.ref a2), some (.ref a3), some (.int (x4 + 5)), none, none]) (show fgt _ _ from ⟨rfl, ⟨rfl, ⟨rfl, ⟨rfl, ⟨rfl, trivial⟩⟩⟩⟩⟩) ?_
            exact hk23 _ _ _ _ _ _ h
          · replace h := h.2 c
            refine r_aloadR_n C 3 dL_law_449 rfl rfl ?_
            refine r_iconst C 0 dL_law_450 (by decide) ?_
            obtain ⟨ht, hi, h⟩ := h
            refine r_laldP C ht hi dL_law_451 ?_
            refine r_iload C dL_law_452 rfl ?_
            refine r_i2l C dL_law_454 ?_
            refine r_lcmp C dL_law_455 ?_
            refine r_if_eq C 461 dL_law_456 (by decide) (fun c => ?_) (fun c => ?_)
            · replace h := h.1 c
              refine r_goto C 1737 dL_law_461 (by decide) ?_
              refine r_iinc C 5 (lv' := [some (.ref a0), some (.ref a1), some (.ref a2), some (.ref a3), some (.int (x4 + 5)), some (.int r142), some (.int r144)]) dL_law_1737 rfl (by decide) rfl rfl ?_
              refine r_goto C 23 dL_law_1740 (by decide) ?_
              refine r_fg (lv' := [some (.ref a0), some (.ref a1), some (.ref a2), some (.ref a3), some (.int (x4 + 5)), none, none]) (show fgt _ _ from ⟨rfl, ⟨rfl, ⟨rfl, ⟨rfl, ⟨rfl, trivial⟩⟩⟩⟩⟩) ?_
              exact hk23 _ _ _ _ _ _ h
            · replace h := h.2 c
              refine r_iconst C 0 dL_law_459 (by decide) ?_
              exact hret _ _ _ _ h dL_law_460
        · replace h := h.2 c
          refine r_iconst C 0 dL_law_442 (by decide) ?_
          exact hret _ _ _ _ h dL_law_443
      · replace h := h.2.2.2.2.2.1 c
        refine r_tableIn C 464 dL_law_39 (by rw [c]; decide) (by rw [c]; decide) (by rw [c]; rfl) (by decide) ?_
        refine r_aloadR_n C 1 dL_law_464 rfl rfl ?_
        refine r_aloadR_n C 0 dL_law_465 rfl rfl ?_
        refine r_iload C dL_law_466 rfl ?_
        refine r_iconst C 1 dL_law_468 (by decide) ?_
        refine r_iadd C dL_law_469 ?_
        obtain ⟨hab, hi, h⟩ := h
        refine r_sldE C hSC hab hi dL_law_470 ?_
        refine r_aloadR_n C 0 dL_law_471 rfl rfl ?_
        refine r_iload C dL_law_472 rfl ?_
        refine r_iconst C 2 dL_law_474 (by decide) ?_
        refine r_iadd C dL_law_475 ?_
        obtain ⟨hab, hi, h⟩ := h
        refine r_sldE C hSC hab hi dL_law_476 ?_
        refine r_aloadR_n C 0 dL_law_477 rfl rfl ?_
        refine r_iload C dL_law_478 rfl ?_
        refine r_iconst C 3 dL_law_480 (by decide) ?_
        refine r_iadd C dL_law_481 ?_
        obtain ⟨hab, hi, h⟩ := h
        refine r_sldE C hSC hab hi dL_law_482 ?_
        refine r_if_eq C 490 dL_law_483 (by decide) (fun c => ?_) (fun c => ?_)
        · replace h := h.1 c
          refine r_iconst C 0 dL_law_490 (by decide) ?_
          exact bL_law_491 B hk23 h
        · replace h := h.2 c
          refine r_iconst C 1 dL_law_486 (by decide) ?_
          refine r_goto C 491 dL_law_487 (by decide) ?_
          exact bL_law_491 B hk23 h
      · replace h := h.2.2.2.2.2.2.1 c
        refine r_tableIn C 567 dL_law_39 (by rw [c]; decide) (by rw [c]; decide) (by rw [c]; rfl) (by decide) ?_
        refine r_aloadR_n C 1 dL_law_567 rfl rfl ?_
        refine r_aloadR_n C 0 dL_law_568 rfl rfl ?_
        refine r_iload C dL_law_569 rfl ?_
        refine r_iconst C 1 dL_law_571 (by decide) ?_
        refine r_iadd C dL_law_572 ?_
        obtain ⟨hab, hi, h⟩ := h
        refine r_sldE C hSC hab hi dL_law_573 ?_
        refine r_aloadR_n C 0 dL_law_574 rfl rfl ?_
        refine r_iload C dL_law_575 rfl ?_
        refine r_iconst C 2 dL_law_577 (by decide) ?_
        refine r_iadd C dL_law_578 ?_
        obtain ⟨hab, hi, h⟩ := h
        refine r_sldE C hSC hab hi dL_law_579 ?_
        refine r_aloadR_n C 0 dL_law_580 rfl rfl ?_
        refine r_iload C dL_law_581 rfl ?_
        refine r_iconst C 3 dL_law_583 (by decide) ?_
        refine r_iadd C dL_law_584 ?_
        obtain ⟨hab, hi, h⟩ := h
        refine r_sldE C hSC hab hi dL_law_585 ?_
        refine r_aloadR_n C 3 dL_law_586 rfl rfl ?_
        refine r_callX C hL xw_RL_111 rfl rfl (Nat.le_of_ble_eq_true rfl) ⟨(Nat.le_of_ble_eq_true rfl), (Nat.le_of_ble_eq_true rfl)⟩ (mL_fault hfl h) rfl dL_law_587 (kI (fun r182 G183 h => ?_)) kN
        refine r_istore C (lv' := [some (.ref a0), some (.ref a1), some (.ref a2), some (.ref a3), some (.int x4), some (.int r182), none]) dL_law_590 (Nat.le_of_ble_eq_true rfl) rfl rfl ?_
        refine r_aloadR_n C 2 dL_law_592 rfl rfl ?_
        refine r_aloadR_n C 0 dL_law_593 rfl rfl ?_
        refine r_iload C dL_law_594 rfl ?_
        refine r_iconst C 1 dL_law_596 (by decide) ?_
        refine r_iadd C dL_law_597 ?_
        obtain ⟨hab, hi, h⟩ := h
        refine r_sldE C hSC hab hi dL_law_598 ?_
        refine r_aloadR_n C 0 dL_law_599 rfl rfl ?_
        refine r_iload C dL_law_600 rfl ?_
        refine r_iconst C 2 dL_law_602 (by decide) ?_
        refine r_iadd C dL_law_603 ?_
        obtain ⟨hab, hi, h⟩ := h
        refine r_sldE C hSC hab hi dL_law_604 ?_
        refine r_aloadR_n C 0 dL_law_605 rfl rfl ?_
        refine r_iload C dL_law_606 rfl ?_
        refine r_iconst C 3 dL_law_608 (by decide) ?_
        refine r_iadd C dL_law_609 ?_
        obtain ⟨hab, hi, h⟩ := h
        refine r_sldE C hSC hab hi dL_law_610 ?_
        obtain ⟨ht, h⟩ := h
        refine r_callV C (r := (RX10, TX10, 19)) hL yw_X10_fault vw_RL_113 rfl rfl ht rfl rfl (Nat.le_of_ble_eq_true rfl) ⟨(Nat.le_of_ble_eq_true rfl), (Nat.le_of_ble_eq_true rfl)⟩ (mX10_fault hfl h) rfl dL_law_611 (kI (fun r184 G185 h => ?_)) kN
        refine r_istore C (lv' := [some (.ref a0), some (.ref a1), some (.ref a2), some (.ref a3), some (.int x4), some (.int r182), some (.int r184)]) dL_law_614 (Nat.le_of_ble_eq_true rfl) rfl rfl ?_
        refine r_aloadR_n C 2 dL_law_616 rfl rfl ?_
        obtain ⟨ht, h⟩ := h
        refine r_callV C (r := (RX10, TX10, 19)) hL yw_X10_thrown vw_RL_93 rfl rfl ht rfl rfl (Nat.le_of_ble_eq_true rfl) ⟨(Nat.le_of_ble_eq_true rfl), (Nat.le_of_ble_eq_true rfl)⟩ (mX10_thrown hfl h) rfl dL_law_617 (kI (fun r186 G187 h => ?_)) kN
        refine r_iload C dL_law_620 rfl ?_
        refine r_icmp_eq C 627 dL_law_622 (by decide) (fun c => ?_) (fun c => ?_)
        · replace h := h.1 c
          refine r_iload C dL_law_627 rfl ?_
          refine r_if_ne C 644 dL_law_629 (by decide) (fun c => ?_) (fun c => ?_)
          · replace h := h.1 c
            refine r_goto C 1737 dL_law_644 (by decide) ?_
            refine r_iinc C 5 (lv' := [some (.ref a0), some (.ref a1), some (.ref a2), some (.ref a3), some (.int (x4 + 5)), some (.int r182), some (.int r184)]) dL_law_1737 rfl (by decide) rfl rfl ?_
            refine r_goto C 23 dL_law_1740 (by decide) ?_
            refine r_fg (lv' := [some (.ref a0), some (.ref a1), some (.ref a2), some (.ref a3), some (.int (x4 + 5)), none, none]) (show fgt _ _ from ⟨rfl, ⟨rfl, ⟨rfl, ⟨rfl, ⟨rfl, trivial⟩⟩⟩⟩⟩) ?_
            exact hk23 _ _ _ _ _ _ h
          · replace h := h.2 c
            refine r_aloadR_n C 3 dL_law_632 rfl rfl ?_
            refine r_iconst C 0 dL_law_633 (by decide) ?_
            obtain ⟨ht, hi, h⟩ := h
            refine r_laldP C ht hi dL_law_634 ?_
            refine r_iload C dL_law_635 rfl ?_
            refine r_i2l C dL_law_637 ?_
            refine r_lcmp C dL_law_638 ?_
            refine r_if_eq C 644 dL_law_639 (by decide) (fun c => ?_) (fun c => ?_)
            · replace h := h.1 c
              refine r_goto C 1737 dL_law_644 (by decide) ?_
              refine r_iinc C 5 (lv' := [some (.ref a0), some (.ref a1), some (.ref a2), some (.ref a3), some (.int (x4 + 5)), some (.int r182), some (.int r184)]) dL_law_1737 rfl (by decide) rfl rfl ?_
              refine r_goto C 23 dL_law_1740 (by decide) ?_
              refine r_fg (lv' := [some (.ref a0), some (.ref a1), some (.ref a2), some (.ref a3), some (.int (x4 + 5)), none, none]) (show fgt _ _ from ⟨rfl, ⟨rfl, ⟨rfl, ⟨rfl, ⟨rfl, trivial⟩⟩⟩⟩⟩) ?_
              exact hk23 _ _ _ _ _ _ h
            · replace h := h.2 c
              refine r_iconst C 0 dL_law_642 (by decide) ?_
              exact hret _ _ _ _ h dL_law_643
        · replace h := h.2 c
          refine r_iconst C 0 dL_law_625 (by decide) ?_
          exact hret _ _ _ _ h dL_law_626
      · replace h := h.2.2.2.2.2.2.2.1 c
        refine r_tableIn C 647 dL_law_39 (by rw [c]; decide) (by rw [c]; decide) (by rw [c]; rfl) (by decide) ?_
        refine r_aloadR_n C 1 dL_law_647 rfl rfl ?_
        refine r_aloadR_n C 0 dL_law_648 rfl rfl ?_
        refine r_iload C dL_law_649 rfl ?_
        refine r_iconst C 1 dL_law_651 (by decide) ?_
        refine r_iadd C dL_law_652 ?_
        obtain ⟨hab, hi, h⟩ := h
        refine r_sldE C hSC hab hi dL_law_653 ?_
        refine r_aloadR_n C 0 dL_law_654 rfl rfl ?_
        refine r_iload C dL_law_655 rfl ?_
        refine r_iconst C 2 dL_law_657 (by decide) ?_
        refine r_iadd C dL_law_658 ?_
        obtain ⟨hab, hi, h⟩ := h
        refine r_sldE C hSC hab hi dL_law_659 ?_
        refine r_aloadR_n C 0 dL_law_660 rfl rfl ?_
        refine r_iload C dL_law_661 rfl ?_
        refine r_iconst C 3 dL_law_663 (by decide) ?_
        refine r_iadd C dL_law_664 ?_
        obtain ⟨hab, hi, h⟩ := h
        refine r_sldE C hSC hab hi dL_law_665 ?_
        refine r_aloadR_n C 0 dL_law_666 rfl rfl ?_
        refine r_iload C dL_law_667 rfl ?_
        refine r_iconst C 4 dL_law_669 (by decide) ?_
        refine r_iadd C dL_law_670 ?_
        obtain ⟨hab, hi, h⟩ := h
        refine r_sldE C hSC hab hi dL_law_671 ?_
        refine r_aloadR_n C 3 dL_law_672 rfl rfl ?_
        refine r_callX C hL xw_RL_114 rfl rfl (Nat.le_of_ble_eq_true rfl) ⟨(Nat.le_of_ble_eq_true rfl), (Nat.le_of_ble_eq_true rfl)⟩ (mL_read hfl h) rfl dL_law_673 (kI (fun r202 G203 h => ?_)) kN
        refine r_istore C (lv' := [some (.ref a0), some (.ref a1), some (.ref a2), some (.ref a3), some (.int x4), some (.int r202), none]) dL_law_676 (Nat.le_of_ble_eq_true rfl) rfl rfl ?_
        refine r_aloadR_n C 2 dL_law_678 rfl rfl ?_
        refine r_aloadR_n C 0 dL_law_679 rfl rfl ?_
        refine r_iload C dL_law_680 rfl ?_
        refine r_iconst C 1 dL_law_682 (by decide) ?_
        refine r_iadd C dL_law_683 ?_
        obtain ⟨hab, hi, h⟩ := h
        refine r_sldE C hSC hab hi dL_law_684 ?_
        refine r_aloadR_n C 0 dL_law_685 rfl rfl ?_
        refine r_iload C dL_law_686 rfl ?_
        refine r_iconst C 2 dL_law_688 (by decide) ?_
        refine r_iadd C dL_law_689 ?_
        obtain ⟨hab, hi, h⟩ := h
        refine r_sldE C hSC hab hi dL_law_690 ?_
        refine r_aloadR_n C 0 dL_law_691 rfl rfl ?_
        refine r_iload C dL_law_692 rfl ?_
        refine r_iconst C 3 dL_law_694 (by decide) ?_
        refine r_iadd C dL_law_695 ?_
        obtain ⟨hab, hi, h⟩ := h
        refine r_sldE C hSC hab hi dL_law_696 ?_
        refine r_aloadR_n C 0 dL_law_697 rfl rfl ?_
        refine r_iload C dL_law_698 rfl ?_
        refine r_iconst C 4 dL_law_700 (by decide) ?_
        refine r_iadd C dL_law_701 ?_
        obtain ⟨hab, hi, h⟩ := h
        refine r_sldE C hSC hab hi dL_law_702 ?_
        obtain ⟨ht, h⟩ := h
        refine r_callV C (r := (RX10, TX10, 19)) hL yw_X10_read vw_RL_117 rfl rfl ht rfl rfl (Nat.le_of_ble_eq_true rfl) ⟨(Nat.le_of_ble_eq_true rfl), (Nat.le_of_ble_eq_true rfl)⟩ (mX10_read hfl h) rfl dL_law_703 (kI (fun r204 G205 h => ?_)) kN
        refine r_istore C (lv' := [some (.ref a0), some (.ref a1), some (.ref a2), some (.ref a3), some (.int x4), some (.int r202), some (.int r204)]) dL_law_706 (Nat.le_of_ble_eq_true rfl) rfl rfl ?_
        refine r_aloadR_n C 2 dL_law_708 rfl rfl ?_
        obtain ⟨ht, h⟩ := h
        refine r_callV C (r := (RX10, TX10, 19)) hL yw_X10_thrown vw_RL_93 rfl rfl ht rfl rfl (Nat.le_of_ble_eq_true rfl) ⟨(Nat.le_of_ble_eq_true rfl), (Nat.le_of_ble_eq_true rfl)⟩ (mX10_thrown hfl h) rfl dL_law_709 (kI (fun r206 G207 h => ?_)) kN
        refine r_iload C dL_law_712 rfl ?_
        refine r_icmp_eq C 719 dL_law_714 (by decide) (fun c => ?_) (fun c => ?_)
        · replace h := h.1 c
          refine r_iload C dL_law_719 rfl ?_
          refine r_if_ne C 736 dL_law_721 (by decide) (fun c => ?_) (fun c => ?_)
          · replace h := h.1 c
            refine r_goto C 1737 dL_law_736 (by decide) ?_
            refine r_iinc C 5 (lv' := [some (.ref a0), some (.ref a1), some (.ref a2), some (.ref a3), some (.int (x4 + 5)), some (.int r202), some (.int r204)]) dL_law_1737 rfl (by decide) rfl rfl ?_
            refine r_goto C 23 dL_law_1740 (by decide) ?_
            refine r_fg (lv' := [some (.ref a0), some (.ref a1), some (.ref a2), some (.ref a3), some (.int (x4 + 5)), none, none]) (show fgt _ _ from ⟨rfl, ⟨rfl, ⟨rfl, ⟨rfl, ⟨rfl, trivial⟩⟩⟩⟩⟩) ?_
            exact hk23 _ _ _ _ _ _ h
          · replace h := h.2 c
            refine r_aloadR_n C 3 dL_law_724 rfl rfl ?_
            refine r_iconst C 0 dL_law_725 (by decide) ?_
            obtain ⟨ht, hi, h⟩ := h
            refine r_laldP C ht hi dL_law_726 ?_
            refine r_iload C dL_law_727 rfl ?_
            refine r_i2l C dL_law_729 ?_
            refine r_lcmp C dL_law_730 ?_
            refine r_if_eq C 736 dL_law_731 (by decide) (fun c => ?_) (fun c => ?_)
            · replace h := h.1 c
              refine r_goto C 1737 dL_law_736 (by decide) ?_
              refine r_iinc C 5 (lv' := [some (.ref a0), some (.ref a1), some (.ref a2), some (.ref a3), some (.int (x4 + 5)), some (.int r202), some (.int r204)]) dL_law_1737 rfl (by decide) rfl rfl ?_
              refine r_goto C 23 dL_law_1740 (by decide) ?_
              refine r_fg (lv' := [some (.ref a0), some (.ref a1), some (.ref a2), some (.ref a3), some (.int (x4 + 5)), none, none]) (show fgt _ _ from ⟨rfl, ⟨rfl, ⟨rfl, ⟨rfl, ⟨rfl, trivial⟩⟩⟩⟩⟩) ?_
              exact hk23 _ _ _ _ _ _ h
            · replace h := h.2 c
              refine r_iconst C 0 dL_law_734 (by decide) ?_
              exact hret _ _ _ _ h dL_law_735
        · replace h := h.2 c
          refine r_iconst C 0 dL_law_717 (by decide) ?_
          exact hret _ _ _ _ h dL_law_718
      · replace h := h.2.2.2.2.2.2.2.2.1 c
        refine r_tableIn C 739 dL_law_39 (by rw [c]; decide) (by rw [c]; decide) (by rw [c]; rfl) (by decide) ?_
        refine r_aloadR_n C 1 dL_law_739 rfl rfl ?_
        refine r_aloadR_n C 0 dL_law_740 rfl rfl ?_
        refine r_iload C dL_law_741 rfl ?_
        refine r_iconst C 1 dL_law_743 (by decide) ?_
        refine r_iadd C dL_law_744 ?_
        obtain ⟨hab, hi, h⟩ := h
        refine r_sldE C hSC hab hi dL_law_745 ?_
        refine r_aloadR_n C 0 dL_law_746 rfl rfl ?_
        refine r_iload C dL_law_747 rfl ?_
        refine r_iconst C 2 dL_law_749 (by decide) ?_
        refine r_iadd C dL_law_750 ?_
        obtain ⟨hab, hi, h⟩ := h
        refine r_sldE C hSC hab hi dL_law_751 ?_
        refine r_aloadR_n C 0 dL_law_752 rfl rfl ?_
        refine r_iload C dL_law_753 rfl ?_
        refine r_iconst C 3 dL_law_755 (by decide) ?_
        refine r_iadd C dL_law_756 ?_
        obtain ⟨hab, hi, h⟩ := h
        refine r_sldE C hSC hab hi dL_law_757 ?_
        refine r_aloadR_n C 0 dL_law_758 rfl rfl ?_
        refine r_iload C dL_law_759 rfl ?_
        refine r_iconst C 4 dL_law_761 (by decide) ?_
        refine r_iadd C dL_law_762 ?_
        obtain ⟨hab, hi, h⟩ := h
        refine r_sldE C hSC hab hi dL_law_763 ?_
        refine r_aloadR_n C 3 dL_law_764 rfl rfl ?_
        refine r_callX C hL xw_RL_118 rfl rfl (Nat.le_of_ble_eq_true rfl) ⟨(Nat.le_of_ble_eq_true rfl), (Nat.le_of_ble_eq_true rfl)⟩ (mL_write hfl h) rfl dL_law_765 (kI (fun r222 G223 h => ?_)) kN
        refine r_istore C (lv' := [some (.ref a0), some (.ref a1), some (.ref a2), some (.ref a3), some (.int x4), some (.int r222), none]) dL_law_768 (Nat.le_of_ble_eq_true rfl) rfl rfl ?_
        refine r_aloadR_n C 2 dL_law_770 rfl rfl ?_
        refine r_aloadR_n C 0 dL_law_771 rfl rfl ?_
        refine r_iload C dL_law_772 rfl ?_
        refine r_iconst C 1 dL_law_774 (by decide) ?_
        refine r_iadd C dL_law_775 ?_
        obtain ⟨hab, hi, h⟩ := h
        refine r_sldE C hSC hab hi dL_law_776 ?_
        refine r_aloadR_n C 0 dL_law_777 rfl rfl ?_
        refine r_iload C dL_law_778 rfl ?_
        refine r_iconst C 2 dL_law_780 (by decide) ?_
        refine r_iadd C dL_law_781 ?_
        obtain ⟨hab, hi, h⟩ := h
        refine r_sldE C hSC hab hi dL_law_782 ?_
        refine r_aloadR_n C 0 dL_law_783 rfl rfl ?_
        refine r_iload C dL_law_784 rfl ?_
        refine r_iconst C 3 dL_law_786 (by decide) ?_
        refine r_iadd C dL_law_787 ?_
        obtain ⟨hab, hi, h⟩ := h
        refine r_sldE C hSC hab hi dL_law_788 ?_
        refine r_aloadR_n C 0 dL_law_789 rfl rfl ?_
        refine r_iload C dL_law_790 rfl ?_
        refine r_iconst C 4 dL_law_792 (by decide) ?_
        refine r_iadd C dL_law_793 ?_
        obtain ⟨hab, hi, h⟩ := h
        refine r_sldE C hSC hab hi dL_law_794 ?_
        obtain ⟨ht, h⟩ := h
        refine r_callV C (r := (RX10, TX10, 19)) hL yw_X10_write vw_RL_120 rfl rfl ht rfl rfl (Nat.le_of_ble_eq_true rfl) ⟨(Nat.le_of_ble_eq_true rfl), (Nat.le_of_ble_eq_true rfl)⟩ (mX10_write hfl h) rfl dL_law_795 (kI (fun r224 G225 h => ?_)) kN
        refine r_istore C (lv' := [some (.ref a0), some (.ref a1), some (.ref a2), some (.ref a3), some (.int x4), some (.int r222), some (.int r224)]) dL_law_798 (Nat.le_of_ble_eq_true rfl) rfl rfl ?_
        refine r_aloadR_n C 2 dL_law_800 rfl rfl ?_
        obtain ⟨ht, h⟩ := h
        refine r_callV C (r := (RX10, TX10, 19)) hL yw_X10_thrown vw_RL_93 rfl rfl ht rfl rfl (Nat.le_of_ble_eq_true rfl) ⟨(Nat.le_of_ble_eq_true rfl), (Nat.le_of_ble_eq_true rfl)⟩ (mX10_thrown hfl h) rfl dL_law_801 (kI (fun r226 G227 h => ?_)) kN
        refine r_iload C dL_law_804 rfl ?_
        refine r_icmp_eq C 811 dL_law_806 (by decide) (fun c => ?_) (fun c => ?_)
        · replace h := h.1 c
          refine r_iload C dL_law_811 rfl ?_
          refine r_if_ne C 828 dL_law_813 (by decide) (fun c => ?_) (fun c => ?_)
          · replace h := h.1 c
            refine r_goto C 1737 dL_law_828 (by decide) ?_
            refine r_iinc C 5 (lv' := [some (.ref a0), some (.ref a1), some (.ref a2), some (.ref a3), some (.int (x4 + 5)), some (.int r222), some (.int r224)]) dL_law_1737 rfl (by decide) rfl rfl ?_
            refine r_goto C 23 dL_law_1740 (by decide) ?_
            refine r_fg (lv' := [some (.ref a0), some (.ref a1), some (.ref a2), some (.ref a3), some (.int (x4 + 5)), none, none]) (show fgt _ _ from ⟨rfl, ⟨rfl, ⟨rfl, ⟨rfl, ⟨rfl, trivial⟩⟩⟩⟩⟩) ?_
            exact hk23 _ _ _ _ _ _ h
          · replace h := h.2 c
            refine r_aloadR_n C 3 dL_law_816 rfl rfl ?_
            refine r_iconst C 0 dL_law_817 (by decide) ?_
            obtain ⟨ht, hi, h⟩ := h
            refine r_laldP C ht hi dL_law_818 ?_
            refine r_iload C dL_law_819 rfl ?_
            refine r_i2l C dL_law_821 ?_
            refine r_lcmp C dL_law_822 ?_
            refine r_if_eq C 828 dL_law_823 (by decide) (fun c => ?_) (fun c => ?_)
            · replace h := h.1 c
              refine r_goto C 1737 dL_law_828 (by decide) ?_
              refine r_iinc C 5 (lv' := [some (.ref a0), some (.ref a1), some (.ref a2), some (.ref a3), some (.int (x4 + 5)), some (.int r222), some (.int r224)]) dL_law_1737 rfl (by decide) rfl rfl ?_
              refine r_goto C 23 dL_law_1740 (by decide) ?_
              refine r_fg (lv' := [some (.ref a0), some (.ref a1), some (.ref a2), some (.ref a3), some (.int (x4 + 5)), none, none]) (show fgt _ _ from ⟨rfl, ⟨rfl, ⟨rfl, ⟨rfl, ⟨rfl, trivial⟩⟩⟩⟩⟩) ?_
              exact hk23 _ _ _ _ _ _ h
            · replace h := h.2 c
              refine r_iconst C 0 dL_law_826 (by decide) ?_
              exact hret _ _ _ _ h dL_law_827
        · replace h := h.2 c
          refine r_iconst C 0 dL_law_809 (by decide) ?_
          exact hret _ _ _ _ h dL_law_810
      · replace h := h.2.2.2.2.2.2.2.2.2.1 c
        refine r_tableIn C 831 dL_law_39 (by rw [c]; decide) (by rw [c]; decide) (by rw [c]; rfl) (by decide) ?_
        refine r_aloadR_n C 1 dL_law_831 rfl rfl ?_
        refine r_aloadR_n C 0 dL_law_832 rfl rfl ?_
        refine r_iload C dL_law_833 rfl ?_
        refine r_iconst C 1 dL_law_835 (by decide) ?_
        refine r_iadd C dL_law_836 ?_
        obtain ⟨hab, hi, h⟩ := h
        refine r_sldE C hSC hab hi dL_law_837 ?_
        refine r_aloadR_n C 0 dL_law_838 rfl rfl ?_
        refine r_iload C dL_law_839 rfl ?_
        refine r_iconst C 2 dL_law_841 (by decide) ?_
        refine r_iadd C dL_law_842 ?_
        obtain ⟨hab, hi, h⟩ := h
        refine r_sldE C hSC hab hi dL_law_843 ?_
        refine r_aloadR_n C 3 dL_law_844 rfl rfl ?_
        refine r_callX C hL xw_RL_121 rfl rfl (Nat.le_of_ble_eq_true rfl) ⟨(Nat.le_of_ble_eq_true rfl), (Nat.le_of_ble_eq_true rfl)⟩ (mL_request hfl h) rfl dL_law_845 (kI (fun r242 G243 h => ?_)) kN
        refine r_istore C (lv' := [some (.ref a0), some (.ref a1), some (.ref a2), some (.ref a3), some (.int x4), some (.int r242), none]) dL_law_848 (Nat.le_of_ble_eq_true rfl) rfl rfl ?_
        refine r_aloadR_n C 2 dL_law_850 rfl rfl ?_
        refine r_aloadR_n C 0 dL_law_851 rfl rfl ?_
        refine r_iload C dL_law_852 rfl ?_
        refine r_iconst C 1 dL_law_854 (by decide) ?_
        refine r_iadd C dL_law_855 ?_
        obtain ⟨hab, hi, h⟩ := h
        refine r_sldE C hSC hab hi dL_law_856 ?_
        refine r_aloadR_n C 0 dL_law_857 rfl rfl ?_
        refine r_iload C dL_law_858 rfl ?_
        refine r_iconst C 2 dL_law_860 (by decide) ?_
        refine r_iadd C dL_law_861 ?_
        obtain ⟨hab, hi, h⟩ := h
        refine r_sldE C hSC hab hi dL_law_862 ?_
        obtain ⟨ht, h⟩ := h
        refine r_callV C (r := (RX10, TX10, 19)) hL yw_X10_request vw_RL_123 rfl rfl ht rfl rfl (Nat.le_of_ble_eq_true rfl) ⟨(Nat.le_of_ble_eq_true rfl), (Nat.le_of_ble_eq_true rfl)⟩ (mX10_request hfl h) rfl dL_law_863 (kI (fun r244 G245 h => ?_)) kN
        refine r_istore C (lv' := [some (.ref a0), some (.ref a1), some (.ref a2), some (.ref a3), some (.int x4), some (.int r242), some (.int r244)]) dL_law_866 (Nat.le_of_ble_eq_true rfl) rfl rfl ?_
        refine r_aloadR_n C 2 dL_law_868 rfl rfl ?_
        obtain ⟨ht, h⟩ := h
        refine r_callV C (r := (RX10, TX10, 19)) hL yw_X10_thrown vw_RL_93 rfl rfl ht rfl rfl (Nat.le_of_ble_eq_true rfl) ⟨(Nat.le_of_ble_eq_true rfl), (Nat.le_of_ble_eq_true rfl)⟩ (mX10_thrown hfl h) rfl dL_law_869 (kI (fun r246 G247 h => ?_)) kN
        refine r_iload C dL_law_872 rfl ?_
        refine r_icmp_eq C 879 dL_law_874 (by decide) (fun c => ?_) (fun c => ?_)
        · replace h := h.1 c
          refine r_iload C dL_law_879 rfl ?_
          refine r_if_ne C 896 dL_law_881 (by decide) (fun c => ?_) (fun c => ?_)
          · replace h := h.1 c
            refine r_goto C 1737 dL_law_896 (by decide) ?_
            refine r_iinc C 5 (lv' := [some (.ref a0), some (.ref a1), some (.ref a2), some (.ref a3), some (.int (x4 + 5)), some (.int r242), some (.int r244)]) dL_law_1737 rfl (by decide) rfl rfl ?_
            refine r_goto C 23 dL_law_1740 (by decide) ?_
            refine r_fg (lv' := [some (.ref a0), some (.ref a1), some (.ref a2), some (.ref a3), some (.int (x4 + 5)), none, none]) (show fgt _ _ from ⟨rfl, ⟨rfl, ⟨rfl, ⟨rfl, ⟨rfl, trivial⟩⟩⟩⟩⟩) ?_
            exact hk23 _ _ _ _ _ _ h
          · replace h := h.2 c
            refine r_aloadR_n C 3 dL_law_884 rfl rfl ?_
            refine r_iconst C 0 dL_law_885 (by decide) ?_
            obtain ⟨ht, hi, h⟩ := h
            refine r_laldP C ht hi dL_law_886 ?_
            refine r_iload C dL_law_887 rfl ?_
            refine r_i2l C dL_law_889 ?_
            refine r_lcmp C dL_law_890 ?_
            refine r_if_eq C 896 dL_law_891 (by decide) (fun c => ?_) (fun c => ?_)
            · replace h := h.1 c
              refine r_goto C 1737 dL_law_896 (by decide) ?_
              refine r_iinc C 5 (lv' := [some (.ref a0), some (.ref a1), some (.ref a2), some (.ref a3), some (.int (x4 + 5)), some (.int r242), some (.int r244)]) dL_law_1737 rfl (by decide) rfl rfl ?_
              refine r_goto C 23 dL_law_1740 (by decide) ?_
              refine r_fg (lv' := [some (.ref a0), some (.ref a1), some (.ref a2), some (.ref a3), some (.int (x4 + 5)), none, none]) (show fgt _ _ from ⟨rfl, ⟨rfl, ⟨rfl, ⟨rfl, ⟨rfl, trivial⟩⟩⟩⟩⟩) ?_
              exact hk23 _ _ _ _ _ _ h
            · replace h := h.2 c
              refine r_iconst C 0 dL_law_894 (by decide) ?_
              exact hret _ _ _ _ h dL_law_895
        · replace h := h.2 c
          refine r_iconst C 0 dL_law_877 (by decide) ?_
          exact hret _ _ _ _ h dL_law_878
      · replace h := h.2.2.2.2.2.2.2.2.2.2.1 c
        refine r_tableIn C 899 dL_law_39 (by rw [c]; decide) (by rw [c]; decide) (by rw [c]; rfl) (by decide) ?_
        refine r_aloadR_n C 1 dL_law_899 rfl rfl ?_
        refine r_aloadR_n C 0 dL_law_900 rfl rfl ?_
        refine r_iload C dL_law_901 rfl ?_
        refine r_iconst C 1 dL_law_903 (by decide) ?_
        refine r_iadd C dL_law_904 ?_
        obtain ⟨hab, hi, h⟩ := h
        refine r_sldE C hSC hab hi dL_law_905 ?_
        refine r_aloadR_n C 0 dL_law_906 rfl rfl ?_
        refine r_iload C dL_law_907 rfl ?_
        refine r_iconst C 2 dL_law_909 (by decide) ?_
        refine r_iadd C dL_law_910 ?_
        obtain ⟨hab, hi, h⟩ := h
        refine r_sldE C hSC hab hi dL_law_911 ?_
        refine r_aloadR_n C 3 dL_law_912 rfl rfl ?_
        refine r_callX C hL xw_RL_124 rfl rfl (Nat.le_of_ble_eq_true rfl) ⟨(Nat.le_of_ble_eq_true rfl), (Nat.le_of_ble_eq_true rfl)⟩ (mL_value hfl h) rfl dL_law_913 (kI (fun r262 G263 h => ?_)) kN
        refine r_istore C (lv' := [some (.ref a0), some (.ref a1), some (.ref a2), some (.ref a3), some (.int x4), some (.int r262), none]) dL_law_916 (Nat.le_of_ble_eq_true rfl) rfl rfl ?_
        refine r_aloadR_n C 2 dL_law_918 rfl rfl ?_
        refine r_aloadR_n C 0 dL_law_919 rfl rfl ?_
        refine r_iload C dL_law_920 rfl ?_
        refine r_iconst C 1 dL_law_922 (by decide) ?_
        refine r_iadd C dL_law_923 ?_
        obtain ⟨hab, hi, h⟩ := h
        refine r_sldE C hSC hab hi dL_law_924 ?_
        refine r_aloadR_n C 0 dL_law_925 rfl rfl ?_
        refine r_iload C dL_law_926 rfl ?_
        refine r_iconst C 2 dL_law_928 (by decide) ?_
        refine r_iadd C dL_law_929 ?_
        obtain ⟨hab, hi, h⟩ := h
        refine r_sldE C hSC hab hi dL_law_930 ?_
        obtain ⟨ht, h⟩ := h
        refine r_callV C (r := (RX10, TX10, 19)) hL yw_X10_value vw_RL_126 rfl rfl ht rfl rfl (Nat.le_of_ble_eq_true rfl) ⟨(Nat.le_of_ble_eq_true rfl), (Nat.le_of_ble_eq_true rfl)⟩ (mX10_value hfl h) rfl dL_law_931 (kI (fun r264 G265 h => ?_)) kN
        refine r_istore C (lv' := [some (.ref a0), some (.ref a1), some (.ref a2), some (.ref a3), some (.int x4), some (.int r262), some (.int r264)]) dL_law_934 (Nat.le_of_ble_eq_true rfl) rfl rfl ?_
        refine r_aloadR_n C 2 dL_law_936 rfl rfl ?_
        obtain ⟨ht, h⟩ := h
        refine r_callV C (r := (RX10, TX10, 19)) hL yw_X10_thrown vw_RL_93 rfl rfl ht rfl rfl (Nat.le_of_ble_eq_true rfl) ⟨(Nat.le_of_ble_eq_true rfl), (Nat.le_of_ble_eq_true rfl)⟩ (mX10_thrown hfl h) rfl dL_law_937 (kI (fun r266 G267 h => ?_)) kN
        refine r_iload C dL_law_940 rfl ?_
        refine r_icmp_eq C 947 dL_law_942 (by decide) (fun c => ?_) (fun c => ?_)
        · replace h := h.1 c
          refine r_iload C dL_law_947 rfl ?_
          refine r_if_ne C 964 dL_law_949 (by decide) (fun c => ?_) (fun c => ?_)
          · replace h := h.1 c
            refine r_goto C 1737 dL_law_964 (by decide) ?_
            refine r_iinc C 5 (lv' := [some (.ref a0), some (.ref a1), some (.ref a2), some (.ref a3), some (.int (x4 + 5)), some (.int r262), some (.int r264)]) dL_law_1737 rfl (by decide) rfl rfl ?_
            refine r_goto C 23 dL_law_1740 (by decide) ?_
            refine r_fg (lv' := [some (.ref a0), some (.ref a1), some (.ref a2), some (.ref a3), some (.int (x4 + 5)), none, none]) (show fgt _ _ from ⟨rfl, ⟨rfl, ⟨rfl, ⟨rfl, ⟨rfl, trivial⟩⟩⟩⟩⟩) ?_
            exact hk23 _ _ _ _ _ _ h
          · replace h := h.2 c
            refine r_aloadR_n C 3 dL_law_952 rfl rfl ?_
            refine r_iconst C 0 dL_law_953 (by decide) ?_
            obtain ⟨ht, hi, h⟩ := h
            refine r_laldP C ht hi dL_law_954 ?_
            refine r_iload C dL_law_955 rfl ?_
            refine r_i2l C dL_law_957 ?_
            refine r_lcmp C dL_law_958 ?_
            refine r_if_eq C 964 dL_law_959 (by decide) (fun c => ?_) (fun c => ?_)
            · replace h := h.1 c
              refine r_goto C 1737 dL_law_964 (by decide) ?_
              refine r_iinc C 5 (lv' := [some (.ref a0), some (.ref a1), some (.ref a2), some (.ref a3), some (.int (x4 + 5)), some (.int r262), some (.int r264)]) dL_law_1737 rfl (by decide) rfl rfl ?_
              refine r_goto C 23 dL_law_1740 (by decide) ?_
              refine r_fg (lv' := [some (.ref a0), some (.ref a1), some (.ref a2), some (.ref a3), some (.int (x4 + 5)), none, none]) (show fgt _ _ from ⟨rfl, ⟨rfl, ⟨rfl, ⟨rfl, ⟨rfl, trivial⟩⟩⟩⟩⟩) ?_
              exact hk23 _ _ _ _ _ _ h
            · replace h := h.2 c
              refine r_iconst C 0 dL_law_962 (by decide) ?_
              exact hret _ _ _ _ h dL_law_963
        · replace h := h.2 c
          refine r_iconst C 0 dL_law_945 (by decide) ?_
          exact hret _ _ _ _ h dL_law_946
      · replace h := h.2.2.2.2.2.2.2.2.2.2.2.1 c
        refine r_tableIn C 967 dL_law_39 (by rw [c]; decide) (by rw [c]; decide) (by rw [c]; rfl) (by decide) ?_
        refine r_aloadR_n C 1 dL_law_967 rfl rfl ?_
        refine r_aloadR_n C 0 dL_law_968 rfl rfl ?_
        refine r_iload C dL_law_969 rfl ?_
        refine r_iconst C 1 dL_law_971 (by decide) ?_
        refine r_iadd C dL_law_972 ?_
        obtain ⟨hab, hi, h⟩ := h
        refine r_sldE C hSC hab hi dL_law_973 ?_
        refine r_aloadR_n C 3 dL_law_974 rfl rfl ?_
        refine r_callX C hL xw_RL_127 rfl rfl (Nat.le_of_ble_eq_true rfl) ⟨(Nat.le_of_ble_eq_true rfl), (Nat.le_of_ble_eq_true rfl)⟩ (mL_requests hfl h) rfl dL_law_975 (kI (fun r282 G283 h => ?_)) kN
        refine r_istore C (lv' := [some (.ref a0), some (.ref a1), some (.ref a2), some (.ref a3), some (.int x4), some (.int r282), none]) dL_law_978 (Nat.le_of_ble_eq_true rfl) rfl rfl ?_
        refine r_aloadR_n C 2 dL_law_980 rfl rfl ?_
        refine r_aloadR_n C 0 dL_law_981 rfl rfl ?_
        refine r_iload C dL_law_982 rfl ?_
        refine r_iconst C 1 dL_law_984 (by decide) ?_
        refine r_iadd C dL_law_985 ?_
        obtain ⟨hab, hi, h⟩ := h
        refine r_sldE C hSC hab hi dL_law_986 ?_
        obtain ⟨ht, h⟩ := h
        refine r_callV C (r := (RX10, TX10, 19)) hL yw_X10_requests vw_RL_130 rfl rfl ht rfl rfl (Nat.le_of_ble_eq_true rfl) ⟨(Nat.le_of_ble_eq_true rfl), (Nat.le_of_ble_eq_true rfl)⟩ (mX10_requests hfl h) rfl dL_law_987 (kI (fun r284 G285 h => ?_)) kN
        refine r_istore C (lv' := [some (.ref a0), some (.ref a1), some (.ref a2), some (.ref a3), some (.int x4), some (.int r282), some (.int r284)]) dL_law_990 (Nat.le_of_ble_eq_true rfl) rfl rfl ?_
        refine r_aloadR_n C 2 dL_law_992 rfl rfl ?_
        obtain ⟨ht, h⟩ := h
        refine r_callV C (r := (RX10, TX10, 19)) hL yw_X10_thrown vw_RL_93 rfl rfl ht rfl rfl (Nat.le_of_ble_eq_true rfl) ⟨(Nat.le_of_ble_eq_true rfl), (Nat.le_of_ble_eq_true rfl)⟩ (mX10_thrown hfl h) rfl dL_law_993 (kI (fun r286 G287 h => ?_)) kN
        refine r_iload C dL_law_996 rfl ?_
        refine r_icmp_eq C 1003 dL_law_998 (by decide) (fun c => ?_) (fun c => ?_)
        · replace h := h.1 c
          refine r_iload C dL_law_1003 rfl ?_
          refine r_if_ne C 1020 dL_law_1005 (by decide) (fun c => ?_) (fun c => ?_)
          · replace h := h.1 c
            refine r_goto C 1737 dL_law_1020 (by decide) ?_
            refine r_iinc C 5 (lv' := [some (.ref a0), some (.ref a1), some (.ref a2), some (.ref a3), some (.int (x4 + 5)), some (.int r282), some (.int r284)]) dL_law_1737 rfl (by decide) rfl rfl ?_
            refine r_goto C 23 dL_law_1740 (by decide) ?_
            refine r_fg (lv' := [some (.ref a0), some (.ref a1), some (.ref a2), some (.ref a3), some (.int (x4 + 5)), none, none]) (show fgt _ _ from ⟨rfl, ⟨rfl, ⟨rfl, ⟨rfl, ⟨rfl, trivial⟩⟩⟩⟩⟩) ?_
            exact hk23 _ _ _ _ _ _ h
          · replace h := h.2 c
            refine r_aloadR_n C 3 dL_law_1008 rfl rfl ?_
            refine r_iconst C 0 dL_law_1009 (by decide) ?_
            obtain ⟨ht, hi, h⟩ := h
            refine r_laldP C ht hi dL_law_1010 ?_
            refine r_iload C dL_law_1011 rfl ?_
            refine r_i2l C dL_law_1013 ?_
            refine r_lcmp C dL_law_1014 ?_
            refine r_if_eq C 1020 dL_law_1015 (by decide) (fun c => ?_) (fun c => ?_)
            · replace h := h.1 c
              refine r_goto C 1737 dL_law_1020 (by decide) ?_
              refine r_iinc C 5 (lv' := [some (.ref a0), some (.ref a1), some (.ref a2), some (.ref a3), some (.int (x4 + 5)), some (.int r282), some (.int r284)]) dL_law_1737 rfl (by decide) rfl rfl ?_
              refine r_goto C 23 dL_law_1740 (by decide) ?_
              refine r_fg (lv' := [some (.ref a0), some (.ref a1), some (.ref a2), some (.ref a3), some (.int (x4 + 5)), none, none]) (show fgt _ _ from ⟨rfl, ⟨rfl, ⟨rfl, ⟨rfl, ⟨rfl, trivial⟩⟩⟩⟩⟩) ?_
              exact hk23 _ _ _ _ _ _ h
            · replace h := h.2 c
              refine r_iconst C 0 dL_law_1018 (by decide) ?_
              exact hret _ _ _ _ h dL_law_1019
        · replace h := h.2 c
          refine r_iconst C 0 dL_law_1001 (by decide) ?_
          exact hret _ _ _ _ h dL_law_1002
      · replace h := h.2.2.2.2.2.2.2.2.2.2.2.2.1 c
        refine r_tableIn C 1023 dL_law_39 (by rw [c]; decide) (by rw [c]; decide) (by rw [c]; rfl) (by decide) ?_
        refine r_aloadR_n C 1 dL_law_1023 rfl rfl ?_
        refine r_aloadR_n C 0 dL_law_1024 rfl rfl ?_
        refine r_iload C dL_law_1025 rfl ?_
        refine r_iconst C 1 dL_law_1027 (by decide) ?_
        refine r_iadd C dL_law_1028 ?_
        obtain ⟨hab, hi, h⟩ := h
        refine r_sldE C hSC hab hi dL_law_1029 ?_
        refine r_aloadR_n C 0 dL_law_1030 rfl rfl ?_
        refine r_iload C dL_law_1031 rfl ?_
        refine r_iconst C 2 dL_law_1033 (by decide) ?_
        refine r_iadd C dL_law_1034 ?_
        obtain ⟨hab, hi, h⟩ := h
        refine r_sldE C hSC hab hi dL_law_1035 ?_
        refine r_aloadR_n C 3 dL_law_1036 rfl rfl ?_
        refine r_callX C hL xw_RL_131 rfl rfl (Nat.le_of_ble_eq_true rfl) ⟨(Nat.le_of_ble_eq_true rfl), (Nat.le_of_ble_eq_true rfl)⟩ (mL_requestsOf hfl h) rfl dL_law_1037 (kI (fun r302 G303 h => ?_)) kN
        refine r_istore C (lv' := [some (.ref a0), some (.ref a1), some (.ref a2), some (.ref a3), some (.int x4), some (.int r302), none]) dL_law_1040 (Nat.le_of_ble_eq_true rfl) rfl rfl ?_
        refine r_aloadR_n C 2 dL_law_1042 rfl rfl ?_
        refine r_aloadR_n C 0 dL_law_1043 rfl rfl ?_
        refine r_iload C dL_law_1044 rfl ?_
        refine r_iconst C 1 dL_law_1046 (by decide) ?_
        refine r_iadd C dL_law_1047 ?_
        obtain ⟨hab, hi, h⟩ := h
        refine r_sldE C hSC hab hi dL_law_1048 ?_
        refine r_aloadR_n C 0 dL_law_1049 rfl rfl ?_
        refine r_iload C dL_law_1050 rfl ?_
        refine r_iconst C 2 dL_law_1052 (by decide) ?_
        refine r_iadd C dL_law_1053 ?_
        obtain ⟨hab, hi, h⟩ := h
        refine r_sldE C hSC hab hi dL_law_1054 ?_
        obtain ⟨ht, h⟩ := h
        refine r_callV C (r := (RX10, TX10, 19)) hL yw_X10_requestsOf vw_RL_133 rfl rfl ht rfl rfl (Nat.le_of_ble_eq_true rfl) ⟨(Nat.le_of_ble_eq_true rfl), (Nat.le_of_ble_eq_true rfl)⟩ (mX10_requestsOf hfl h) rfl dL_law_1055 (kI (fun r304 G305 h => ?_)) kN
        refine r_istore C (lv' := [some (.ref a0), some (.ref a1), some (.ref a2), some (.ref a3), some (.int x4), some (.int r302), some (.int r304)]) dL_law_1058 (Nat.le_of_ble_eq_true rfl) rfl rfl ?_
        refine r_aloadR_n C 2 dL_law_1060 rfl rfl ?_
        obtain ⟨ht, h⟩ := h
        refine r_callV C (r := (RX10, TX10, 19)) hL yw_X10_thrown vw_RL_93 rfl rfl ht rfl rfl (Nat.le_of_ble_eq_true rfl) ⟨(Nat.le_of_ble_eq_true rfl), (Nat.le_of_ble_eq_true rfl)⟩ (mX10_thrown hfl h) rfl dL_law_1061 (kI (fun r306 G307 h => ?_)) kN
        refine r_iload C dL_law_1064 rfl ?_
        refine r_icmp_eq C 1071 dL_law_1066 (by decide) (fun c => ?_) (fun c => ?_)
        · replace h := h.1 c
          refine r_iload C dL_law_1071 rfl ?_
          refine r_if_ne C 1088 dL_law_1073 (by decide) (fun c => ?_) (fun c => ?_)
          · replace h := h.1 c
            refine r_goto C 1737 dL_law_1088 (by decide) ?_
            refine r_iinc C 5 (lv' := [some (.ref a0), some (.ref a1), some (.ref a2), some (.ref a3), some (.int (x4 + 5)), some (.int r302), some (.int r304)]) dL_law_1737 rfl (by decide) rfl rfl ?_
            refine r_goto C 23 dL_law_1740 (by decide) ?_
            refine r_fg (lv' := [some (.ref a0), some (.ref a1), some (.ref a2), some (.ref a3), some (.int (x4 + 5)), none, none]) (show fgt _ _ from ⟨rfl, ⟨rfl, ⟨rfl, ⟨rfl, ⟨rfl, trivial⟩⟩⟩⟩⟩) ?_
            exact hk23 _ _ _ _ _ _ h
          · replace h := h.2 c
            refine r_aloadR_n C 3 dL_law_1076 rfl rfl ?_
            refine r_iconst C 0 dL_law_1077 (by decide) ?_
            obtain ⟨ht, hi, h⟩ := h
            refine r_laldP C ht hi dL_law_1078 ?_
            refine r_iload C dL_law_1079 rfl ?_
            refine r_i2l C dL_law_1081 ?_
            refine r_lcmp C dL_law_1082 ?_
            refine r_if_eq C 1088 dL_law_1083 (by decide) (fun c => ?_) (fun c => ?_)
            · replace h := h.1 c
              refine r_goto C 1737 dL_law_1088 (by decide) ?_
              refine r_iinc C 5 (lv' := [some (.ref a0), some (.ref a1), some (.ref a2), some (.ref a3), some (.int (x4 + 5)), some (.int r302), some (.int r304)]) dL_law_1737 rfl (by decide) rfl rfl ?_
              refine r_goto C 23 dL_law_1740 (by decide) ?_
              refine r_fg (lv' := [some (.ref a0), some (.ref a1), some (.ref a2), some (.ref a3), some (.int (x4 + 5)), none, none]) (show fgt _ _ from ⟨rfl, ⟨rfl, ⟨rfl, ⟨rfl, ⟨rfl, trivial⟩⟩⟩⟩⟩) ?_
              exact hk23 _ _ _ _ _ _ h
            · replace h := h.2 c
              refine r_iconst C 0 dL_law_1086 (by decide) ?_
              exact hret _ _ _ _ h dL_law_1087
        · replace h := h.2 c
          refine r_iconst C 0 dL_law_1069 (by decide) ?_
          exact hret _ _ _ _ h dL_law_1070
      · replace h := h.2.2.2.2.2.2.2.2.2.2.2.2.2.1 c
        refine r_tableIn C 1091 dL_law_39 (by rw [c]; decide) (by rw [c]; decide) (by rw [c]; rfl) (by decide) ?_
        refine r_aloadR_n C 1 dL_law_1091 rfl rfl ?_
        obtain ⟨ht, h⟩ := h
        refine r_callV C (r := (RX9, TX9, 3)) hL yw_X9_step vw_RL_134 rfl rfl ht rfl rfl (Nat.le_of_ble_eq_true rfl) ⟨(Nat.le_of_ble_eq_true rfl), (Nat.le_of_ble_eq_true rfl)⟩ (mX9_step hfl h) rfl dL_law_1092 (kI (fun r322 G323 h => ?_)) kN
        refine r_aloadR_n C 2 dL_law_1095 rfl rfl ?_
        obtain ⟨ht, h⟩ := h
        refine r_callV C (r := (RX10, TX10, 19)) hL yw_X10_step vw_RL_137 rfl rfl ht rfl rfl (Nat.le_of_ble_eq_true rfl) ⟨(Nat.le_of_ble_eq_true rfl), (Nat.le_of_ble_eq_true rfl)⟩ (mX10_step hfl h) rfl dL_law_1096 (kI (fun r324 G325 h => ?_)) kN
        refine r_icmp_eq C 1737 dL_law_1099 (by decide) (fun c => ?_) (fun c => ?_)
        · replace h := h.1 c
          refine r_iinc C 5 (lv' := [some (.ref a0), some (.ref a1), some (.ref a2), some (.ref a3), some (.int (x4 + 5)), none, none]) dL_law_1737 rfl (by decide) rfl rfl ?_
          refine r_goto C 23 dL_law_1740 (by decide) ?_
          exact hk23 _ _ _ _ _ _ h
        · replace h := h.2 c
          refine r_iconst C 0 dL_law_1102 (by decide) ?_
          exact hret _ _ _ _ h dL_law_1103
      · replace h := h.2.2.2.2.2.2.2.2.2.2.2.2.2.2.1 c
        refine r_tableIn C 1104 dL_law_39 (by rw [c]; decide) (by rw [c]; decide) (by rw [c]; rfl) (by decide) ?_
        refine r_aloadR_n C 1 dL_law_1104 rfl rfl ?_
        obtain ⟨ht, h⟩ := h
        refine r_callV C (r := (RX9, TX9, 3)) hL yw_X9_finish vw_RL_138 rfl rfl ht rfl rfl (Nat.le_of_ble_eq_true rfl) ⟨(Nat.le_of_ble_eq_true rfl), (Nat.le_of_ble_eq_true rfl)⟩ (mX9_finish hfl h) rfl dL_law_1105 (kI (fun r342 G343 h => ?_)) kN
        refine r_aloadR_n C 2 dL_law_1108 rfl rfl ?_
        obtain ⟨ht, h⟩ := h
        refine r_callV C (r := (RX10, TX10, 19)) hL yw_X10_finish vw_RL_141 rfl rfl ht rfl rfl (Nat.le_of_ble_eq_true rfl) ⟨(Nat.le_of_ble_eq_true rfl), (Nat.le_of_ble_eq_true rfl)⟩ (mX10_finish hfl h) rfl dL_law_1109 (kI (fun r344 G345 h => ?_)) kN
        refine r_icmp_eq C 1737 dL_law_1112 (by decide) (fun c => ?_) (fun c => ?_)
        · replace h := h.1 c
          refine r_iinc C 5 (lv' := [some (.ref a0), some (.ref a1), some (.ref a2), some (.ref a3), some (.int (x4 + 5)), none, none]) dL_law_1737 rfl (by decide) rfl rfl ?_
          refine r_goto C 23 dL_law_1740 (by decide) ?_
          exact hk23 _ _ _ _ _ _ h
        · replace h := h.2 c
          refine r_iconst C 0 dL_law_1115 (by decide) ?_
          exact hret _ _ _ _ h dL_law_1116
      · replace h := h.2.2.2.2.2.2.2.2.2.2.2.2.2.2.2.1 c
        refine r_tableIn C 1117 dL_law_39 (by rw [c]; decide) (by rw [c]; decide) (by rw [c]; rfl) (by decide) ?_
        refine r_aloadR_n C 1 dL_law_1117 rfl rfl ?_
        refine r_aloadR_n C 0 dL_law_1118 rfl rfl ?_
        refine r_iload C dL_law_1119 rfl ?_
        refine r_iconst C 1 dL_law_1121 (by decide) ?_
        refine r_iadd C dL_law_1122 ?_
        obtain ⟨hab, hi, h⟩ := h
        refine r_sldE C hSC hab hi dL_law_1123 ?_
        refine r_aloadR_n C 3 dL_law_1124 rfl rfl ?_
        refine r_callX C hL xw_RL_142 rfl rfl (Nat.le_of_ble_eq_true rfl) ⟨(Nat.le_of_ble_eq_true rfl), (Nat.le_of_ble_eq_true rfl)⟩ (mL_pass hfl h) rfl dL_law_1125 (kI (fun r362 G363 h => ?_)) kN
        refine r_istore C (lv' := [some (.ref a0), some (.ref a1), some (.ref a2), some (.ref a3), some (.int x4), some (.int r362), none]) dL_law_1128 (Nat.le_of_ble_eq_true rfl) rfl rfl ?_
        refine r_aloadR_n C 2 dL_law_1130 rfl rfl ?_
        refine r_aloadR_n C 0 dL_law_1131 rfl rfl ?_
        refine r_iload C dL_law_1132 rfl ?_
        refine r_iconst C 1 dL_law_1134 (by decide) ?_
        refine r_iadd C dL_law_1135 ?_
        obtain ⟨hab, hi, h⟩ := h
        refine r_sldE C hSC hab hi dL_law_1136 ?_
        obtain ⟨ht, h⟩ := h
        refine r_callV C (r := (RX10, TX10, 19)) hL yw_X10_pass vw_RL_144 rfl rfl ht rfl rfl (Nat.le_of_ble_eq_true rfl) ⟨(Nat.le_of_ble_eq_true rfl), (Nat.le_of_ble_eq_true rfl)⟩ (mX10_pass hfl h) rfl dL_law_1137 (kI (fun r364 G365 h => ?_)) kN
        refine r_istore C (lv' := [some (.ref a0), some (.ref a1), some (.ref a2), some (.ref a3), some (.int x4), some (.int r362), some (.int r364)]) dL_law_1140 (Nat.le_of_ble_eq_true rfl) rfl rfl ?_
        refine r_aloadR_n C 2 dL_law_1142 rfl rfl ?_
        obtain ⟨ht, h⟩ := h
        refine r_callV C (r := (RX10, TX10, 19)) hL yw_X10_thrown vw_RL_93 rfl rfl ht rfl rfl (Nat.le_of_ble_eq_true rfl) ⟨(Nat.le_of_ble_eq_true rfl), (Nat.le_of_ble_eq_true rfl)⟩ (mX10_thrown hfl h) rfl dL_law_1143 (kI (fun r366 G367 h => ?_)) kN
        refine r_iload C dL_law_1146 rfl ?_
        refine r_icmp_eq C 1153 dL_law_1148 (by decide) (fun c => ?_) (fun c => ?_)
        · replace h := h.1 c
          refine r_iload C dL_law_1153 rfl ?_
          refine r_if_ne C 1170 dL_law_1155 (by decide) (fun c => ?_) (fun c => ?_)
          · replace h := h.1 c
            refine r_goto C 1737 dL_law_1170 (by decide) ?_
            refine r_iinc C 5 (lv' := [some (.ref a0), some (.ref a1), some (.ref a2), some (.ref a3), some (.int (x4 + 5)), some (.int r362), some (.int r364)]) dL_law_1737 rfl (by decide) rfl rfl ?_
            refine r_goto C 23 dL_law_1740 (by decide) ?_
            refine r_fg (lv' := [some (.ref a0), some (.ref a1), some (.ref a2), some (.ref a3), some (.int (x4 + 5)), none, none]) (show fgt _ _ from ⟨rfl, ⟨rfl, ⟨rfl, ⟨rfl, ⟨rfl, trivial⟩⟩⟩⟩⟩) ?_
            exact hk23 _ _ _ _ _ _ h
          · replace h := h.2 c
            refine r_aloadR_n C 3 dL_law_1158 rfl rfl ?_
            refine r_iconst C 0 dL_law_1159 (by decide) ?_
            obtain ⟨ht, hi, h⟩ := h
            refine r_laldP C ht hi dL_law_1160 ?_
            refine r_iload C dL_law_1161 rfl ?_
            refine r_i2l C dL_law_1163 ?_
            refine r_lcmp C dL_law_1164 ?_
            refine r_if_eq C 1170 dL_law_1165 (by decide) (fun c => ?_) (fun c => ?_)
            · replace h := h.1 c
              refine r_goto C 1737 dL_law_1170 (by decide) ?_
              refine r_iinc C 5 (lv' := [some (.ref a0), some (.ref a1), some (.ref a2), some (.ref a3), some (.int (x4 + 5)), some (.int r362), some (.int r364)]) dL_law_1737 rfl (by decide) rfl rfl ?_
              refine r_goto C 23 dL_law_1740 (by decide) ?_
              refine r_fg (lv' := [some (.ref a0), some (.ref a1), some (.ref a2), some (.ref a3), some (.int (x4 + 5)), none, none]) (show fgt _ _ from ⟨rfl, ⟨rfl, ⟨rfl, ⟨rfl, ⟨rfl, trivial⟩⟩⟩⟩⟩) ?_
              exact hk23 _ _ _ _ _ _ h
            · replace h := h.2 c
              refine r_iconst C 0 dL_law_1168 (by decide) ?_
              exact hret _ _ _ _ h dL_law_1169
        · replace h := h.2 c
          refine r_iconst C 0 dL_law_1151 (by decide) ?_
          exact hret _ _ _ _ h dL_law_1152
      · replace h := h.2.2.2.2.2.2.2.2.2.2.2.2.2.2.2.2.1 c
        refine r_tableIn C 1173 dL_law_39 (by rw [c]; decide) (by rw [c]; decide) (by rw [c]; rfl) (by decide) ?_
        refine r_aloadR_n C 1 dL_law_1173 rfl rfl ?_
        obtain ⟨ht, h⟩ := h
        refine r_callV C (r := (RX9, TX9, 3)) hL yw_X9_time vw_RL_145 rfl rfl ht rfl rfl (Nat.le_of_ble_eq_true rfl) ⟨(Nat.le_of_ble_eq_true rfl), (Nat.le_of_ble_eq_true rfl)⟩ (mX9_time hfl h) rfl dL_law_1174 (kI (fun r382 G383 h => ?_)) kN
        refine r_aloadR_n C 2 dL_law_1177 rfl rfl ?_
        obtain ⟨ht, h⟩ := h
        refine r_callV C (r := (RX10, TX10, 19)) hL yw_X10_time vw_RL_148 rfl rfl ht rfl rfl (Nat.le_of_ble_eq_true rfl) ⟨(Nat.le_of_ble_eq_true rfl), (Nat.le_of_ble_eq_true rfl)⟩ (mX10_time hfl h) rfl dL_law_1178 (kI (fun r384 G385 h => ?_)) kN
        refine r_icmp_eq C 1737 dL_law_1181 (by decide) (fun c => ?_) (fun c => ?_)
        · replace h := h.1 c
          refine r_iinc C 5 (lv' := [some (.ref a0), some (.ref a1), some (.ref a2), some (.ref a3), some (.int (x4 + 5)), none, none]) dL_law_1737 rfl (by decide) rfl rfl ?_
          refine r_goto C 23 dL_law_1740 (by decide) ?_
          exact hk23 _ _ _ _ _ _ h
        · replace h := h.2 c
          refine r_iconst C 0 dL_law_1184 (by decide) ?_
          exact hret _ _ _ _ h dL_law_1185
      · replace h := h.2.2.2.2.2.2.2.2.2.2.2.2.2.2.2.2.2.1 c
        refine r_tableIn C 1186 dL_law_39 (by rw [c]; decide) (by rw [c]; decide) (by rw [c]; rfl) (by decide) ?_
        refine r_aloadR_n C 1 dL_law_1186 rfl rfl ?_
        obtain ⟨ht, h⟩ := h
        refine r_callV C (r := (RX9, TX9, 3)) hL yw_X9_group vw_RL_149 rfl rfl ht rfl rfl (Nat.le_of_ble_eq_true rfl) ⟨(Nat.le_of_ble_eq_true rfl), (Nat.le_of_ble_eq_true rfl)⟩ (mX9_group hfl h) rfl dL_law_1187 (kJ (fun r402 G403 h => ?_)) kN
        refine r_aloadR_n C 2 dL_law_1190 rfl rfl ?_
        obtain ⟨ht, h⟩ := h
        refine r_callV C (r := (RX10, TX10, 19)) hL yw_X10_group vw_RL_153 rfl rfl ht rfl rfl (Nat.le_of_ble_eq_true rfl) ⟨(Nat.le_of_ble_eq_true rfl), (Nat.le_of_ble_eq_true rfl)⟩ (mX10_group hfl h) rfl dL_law_1191 (kJ (fun r404 G405 h => ?_)) kN
        refine r_lcmp C dL_law_1194 ?_
        refine r_if_eq C 1737 dL_law_1195 (by decide) (fun c => ?_) (fun c => ?_)
        · replace h := h.1 c
          refine r_iinc C 5 (lv' := [some (.ref a0), some (.ref a1), some (.ref a2), some (.ref a3), some (.int (x4 + 5)), none, none]) dL_law_1737 rfl (by decide) rfl rfl ?_
          refine r_goto C 23 dL_law_1740 (by decide) ?_
          exact hk23 _ _ _ _ _ _ h
        · replace h := h.2 c
          refine r_iconst C 0 dL_law_1198 (by decide) ?_
          exact hret _ _ _ _ h dL_law_1199
      · replace h := h.2.2.2.2.2.2.2.2.2.2.2.2.2.2.2.2.2.2.1 c
        refine r_tableIn C 1200 dL_law_39 (by rw [c]; decide) (by rw [c]; decide) (by rw [c]; rfl) (by decide) ?_
        refine r_aloadR_n C 1 dL_law_1200 rfl rfl ?_
        refine r_aloadR_n C 0 dL_law_1201 rfl rfl ?_
        refine r_iload C dL_law_1202 rfl ?_
        refine r_iconst C 1 dL_law_1204 (by decide) ?_
        refine r_iadd C dL_law_1205 ?_
        obtain ⟨hab, hi, h⟩ := h
        refine r_sldE C hSC hab hi dL_law_1206 ?_
        refine r_aloadR_n C 3 dL_law_1207 rfl rfl ?_
        refine r_callX C hL xw_RL_154 rfl rfl (Nat.le_of_ble_eq_true rfl) ⟨(Nat.le_of_ble_eq_true rfl), (Nat.le_of_ble_eq_true rfl)⟩ (mL_frameByte hfl h) rfl dL_law_1208 (kI (fun r422 G423 h => ?_)) kN
        refine r_istore C (lv' := [some (.ref a0), some (.ref a1), some (.ref a2), some (.ref a3), some (.int x4), some (.int r422), none]) dL_law_1211 (Nat.le_of_ble_eq_true rfl) rfl rfl ?_
        refine r_aloadR_n C 2 dL_law_1213 rfl rfl ?_
        refine r_aloadR_n C 0 dL_law_1214 rfl rfl ?_
        refine r_iload C dL_law_1215 rfl ?_
        refine r_iconst C 1 dL_law_1217 (by decide) ?_
        refine r_iadd C dL_law_1218 ?_
        obtain ⟨hab, hi, h⟩ := h
        refine r_sldE C hSC hab hi dL_law_1219 ?_
        obtain ⟨ht, h⟩ := h
        refine r_callV C (r := (RX10, TX10, 19)) hL yw_X10_frameByte vw_RL_156 rfl rfl ht rfl rfl (Nat.le_of_ble_eq_true rfl) ⟨(Nat.le_of_ble_eq_true rfl), (Nat.le_of_ble_eq_true rfl)⟩ (mX10_frameByte hfl h) rfl dL_law_1220 (kI (fun r424 G425 h => ?_)) kN
        refine r_istore C (lv' := [some (.ref a0), some (.ref a1), some (.ref a2), some (.ref a3), some (.int x4), some (.int r422), some (.int r424)]) dL_law_1223 (Nat.le_of_ble_eq_true rfl) rfl rfl ?_
        refine r_aloadR_n C 2 dL_law_1225 rfl rfl ?_
        obtain ⟨ht, h⟩ := h
        refine r_callV C (r := (RX10, TX10, 19)) hL yw_X10_thrown vw_RL_93 rfl rfl ht rfl rfl (Nat.le_of_ble_eq_true rfl) ⟨(Nat.le_of_ble_eq_true rfl), (Nat.le_of_ble_eq_true rfl)⟩ (mX10_thrown hfl h) rfl dL_law_1226 (kI (fun r426 G427 h => ?_)) kN
        refine r_iload C dL_law_1229 rfl ?_
        refine r_icmp_eq C 1236 dL_law_1231 (by decide) (fun c => ?_) (fun c => ?_)
        · replace h := h.1 c
          refine r_iload C dL_law_1236 rfl ?_
          refine r_if_ne C 1253 dL_law_1238 (by decide) (fun c => ?_) (fun c => ?_)
          · replace h := h.1 c
            refine r_goto C 1737 dL_law_1253 (by decide) ?_
            refine r_iinc C 5 (lv' := [some (.ref a0), some (.ref a1), some (.ref a2), some (.ref a3), some (.int (x4 + 5)), some (.int r422), some (.int r424)]) dL_law_1737 rfl (by decide) rfl rfl ?_
            refine r_goto C 23 dL_law_1740 (by decide) ?_
            refine r_fg (lv' := [some (.ref a0), some (.ref a1), some (.ref a2), some (.ref a3), some (.int (x4 + 5)), none, none]) (show fgt _ _ from ⟨rfl, ⟨rfl, ⟨rfl, ⟨rfl, ⟨rfl, trivial⟩⟩⟩⟩⟩) ?_
            exact hk23 _ _ _ _ _ _ h
          · replace h := h.2 c
            refine r_aloadR_n C 3 dL_law_1241 rfl rfl ?_
            refine r_iconst C 0 dL_law_1242 (by decide) ?_
            obtain ⟨ht, hi, h⟩ := h
            refine r_laldP C ht hi dL_law_1243 ?_
            refine r_iload C dL_law_1244 rfl ?_
            refine r_i2l C dL_law_1246 ?_
            refine r_lcmp C dL_law_1247 ?_
            refine r_if_eq C 1253 dL_law_1248 (by decide) (fun c => ?_) (fun c => ?_)
            · replace h := h.1 c
              refine r_goto C 1737 dL_law_1253 (by decide) ?_
              refine r_iinc C 5 (lv' := [some (.ref a0), some (.ref a1), some (.ref a2), some (.ref a3), some (.int (x4 + 5)), some (.int r422), some (.int r424)]) dL_law_1737 rfl (by decide) rfl rfl ?_
              refine r_goto C 23 dL_law_1740 (by decide) ?_
              refine r_fg (lv' := [some (.ref a0), some (.ref a1), some (.ref a2), some (.ref a3), some (.int (x4 + 5)), none, none]) (show fgt _ _ from ⟨rfl, ⟨rfl, ⟨rfl, ⟨rfl, ⟨rfl, trivial⟩⟩⟩⟩⟩) ?_
              exact hk23 _ _ _ _ _ _ h
            · replace h := h.2 c
              refine r_iconst C 0 dL_law_1251 (by decide) ?_
              exact hret _ _ _ _ h dL_law_1252
        · replace h := h.2 c
          refine r_iconst C 0 dL_law_1234 (by decide) ?_
          exact hret _ _ _ _ h dL_law_1235
      · replace h := h.2.2.2.2.2.2.2.2.2.2.2.2.2.2.2.2.2.2.2.1 c
        refine r_tableIn C 1256 dL_law_39 (by rw [c]; decide) (by rw [c]; decide) (by rw [c]; rfl) (by decide) ?_
        refine r_aloadR_n C 1 dL_law_1256 rfl rfl ?_
        refine r_aloadR_n C 0 dL_law_1257 rfl rfl ?_
        refine r_iload C dL_law_1258 rfl ?_
        refine r_iconst C 1 dL_law_1260 (by decide) ?_
        refine r_iadd C dL_law_1261 ?_
        obtain ⟨hab, hi, h⟩ := h
        refine r_sldE C hSC hab hi dL_law_1262 ?_
        refine r_aloadR_n C 0 dL_law_1263 rfl rfl ?_
        refine r_iload C dL_law_1264 rfl ?_
        refine r_iconst C 2 dL_law_1266 (by decide) ?_
        refine r_iadd C dL_law_1267 ?_
        obtain ⟨hab, hi, h⟩ := h
        refine r_sldE C hSC hab hi dL_law_1268 ?_
        refine r_aloadR_n C 3 dL_law_1269 rfl rfl ?_
        refine r_callX C hL xw_RL_157 rfl rfl (Nat.le_of_ble_eq_true rfl) ⟨(Nat.le_of_ble_eq_true rfl), (Nat.le_of_ble_eq_true rfl)⟩ (mL_cacheAge hfl h) rfl dL_law_1270 (kI (fun r442 G443 h => ?_)) kN
        refine r_istore C (lv' := [some (.ref a0), some (.ref a1), some (.ref a2), some (.ref a3), some (.int x4), some (.int r442), none]) dL_law_1273 (Nat.le_of_ble_eq_true rfl) rfl rfl ?_
        refine r_aloadR_n C 2 dL_law_1275 rfl rfl ?_
        refine r_aloadR_n C 0 dL_law_1276 rfl rfl ?_
        refine r_iload C dL_law_1277 rfl ?_
        refine r_iconst C 1 dL_law_1279 (by decide) ?_
        refine r_iadd C dL_law_1280 ?_
        obtain ⟨hab, hi, h⟩ := h
        refine r_sldE C hSC hab hi dL_law_1281 ?_
        refine r_aloadR_n C 0 dL_law_1282 rfl rfl ?_
        refine r_iload C dL_law_1283 rfl ?_
        refine r_iconst C 2 dL_law_1285 (by decide) ?_
        refine r_iadd C dL_law_1286 ?_
        obtain ⟨hab, hi, h⟩ := h
        refine r_sldE C hSC hab hi dL_law_1287 ?_
        obtain ⟨ht, h⟩ := h
        refine r_callV C (r := (RX10, TX10, 19)) hL yw_X10_cacheAge vw_RL_159 rfl rfl ht rfl rfl (Nat.le_of_ble_eq_true rfl) ⟨(Nat.le_of_ble_eq_true rfl), (Nat.le_of_ble_eq_true rfl)⟩ (mX10_cacheAge hfl h) rfl dL_law_1288 (kI (fun r444 G445 h => ?_)) kN
        refine r_istore C (lv' := [some (.ref a0), some (.ref a1), some (.ref a2), some (.ref a3), some (.int x4), some (.int r442), some (.int r444)]) dL_law_1291 (Nat.le_of_ble_eq_true rfl) rfl rfl ?_
        refine r_aloadR_n C 2 dL_law_1293 rfl rfl ?_
        obtain ⟨ht, h⟩ := h
        refine r_callV C (r := (RX10, TX10, 19)) hL yw_X10_thrown vw_RL_93 rfl rfl ht rfl rfl (Nat.le_of_ble_eq_true rfl) ⟨(Nat.le_of_ble_eq_true rfl), (Nat.le_of_ble_eq_true rfl)⟩ (mX10_thrown hfl h) rfl dL_law_1294 (kI (fun r446 G447 h => ?_)) kN
        refine r_iload C dL_law_1297 rfl ?_
        refine r_icmp_eq C 1304 dL_law_1299 (by decide) (fun c => ?_) (fun c => ?_)
        · replace h := h.1 c
          refine r_iload C dL_law_1304 rfl ?_
          refine r_if_ne C 1321 dL_law_1306 (by decide) (fun c => ?_) (fun c => ?_)
          · replace h := h.1 c
            refine r_goto C 1737 dL_law_1321 (by decide) ?_
            refine r_iinc C 5 (lv' := [some (.ref a0), some (.ref a1), some (.ref a2), some (.ref a3), some (.int (x4 + 5)), some (.int r442), some (.int r444)]) dL_law_1737 rfl (by decide) rfl rfl ?_
            refine r_goto C 23 dL_law_1740 (by decide) ?_
            refine r_fg (lv' := [some (.ref a0), some (.ref a1), some (.ref a2), some (.ref a3), some (.int (x4 + 5)), none, none]) (show fgt _ _ from ⟨rfl, ⟨rfl, ⟨rfl, ⟨rfl, ⟨rfl, trivial⟩⟩⟩⟩⟩) ?_
            exact hk23 _ _ _ _ _ _ h
          · replace h := h.2 c
            refine r_aloadR_n C 3 dL_law_1309 rfl rfl ?_
            refine r_iconst C 0 dL_law_1310 (by decide) ?_
            obtain ⟨ht, hi, h⟩ := h
            refine r_laldP C ht hi dL_law_1311 ?_
            refine r_iload C dL_law_1312 rfl ?_
            refine r_i2l C dL_law_1314 ?_
            refine r_lcmp C dL_law_1315 ?_
            refine r_if_eq C 1321 dL_law_1316 (by decide) (fun c => ?_) (fun c => ?_)
            · replace h := h.1 c
              refine r_goto C 1737 dL_law_1321 (by decide) ?_
              refine r_iinc C 5 (lv' := [some (.ref a0), some (.ref a1), some (.ref a2), some (.ref a3), some (.int (x4 + 5)), some (.int r442), some (.int r444)]) dL_law_1737 rfl (by decide) rfl rfl ?_
              refine r_goto C 23 dL_law_1740 (by decide) ?_
              refine r_fg (lv' := [some (.ref a0), some (.ref a1), some (.ref a2), some (.ref a3), some (.int (x4 + 5)), none, none]) (show fgt _ _ from ⟨rfl, ⟨rfl, ⟨rfl, ⟨rfl, ⟨rfl, trivial⟩⟩⟩⟩⟩) ?_
              exact hk23 _ _ _ _ _ _ h
            · replace h := h.2 c
              refine r_iconst C 0 dL_law_1319 (by decide) ?_
              exact hret _ _ _ _ h dL_law_1320
        · replace h := h.2 c
          refine r_iconst C 0 dL_law_1302 (by decide) ?_
          exact hret _ _ _ _ h dL_law_1303
      · replace h := h.2.2.2.2.2.2.2.2.2.2.2.2.2.2.2.2.2.2.2.2.1 c
        refine r_tableIn C 1324 dL_law_39 (by rw [c]; decide) (by rw [c]; decide) (by rw [c]; rfl) (by decide) ?_
        refine r_aloadR_n C 1 dL_law_1324 rfl rfl ?_
        refine r_aloadR_n C 0 dL_law_1325 rfl rfl ?_
        refine r_iload C dL_law_1326 rfl ?_
        refine r_iconst C 1 dL_law_1328 (by decide) ?_
        refine r_iadd C dL_law_1329 ?_
        obtain ⟨hab, hi, h⟩ := h
        refine r_sldE C hSC hab hi dL_law_1330 ?_
        refine r_aloadR_n C 0 dL_law_1331 rfl rfl ?_
        refine r_iload C dL_law_1332 rfl ?_
        refine r_iconst C 2 dL_law_1334 (by decide) ?_
        refine r_iadd C dL_law_1335 ?_
        obtain ⟨hab, hi, h⟩ := h
        refine r_sldE C hSC hab hi dL_law_1336 ?_
        refine r_aloadR_n C 3 dL_law_1337 rfl rfl ?_
        refine r_callX C hL xw_RL_160 rfl rfl (Nat.le_of_ble_eq_true rfl) ⟨(Nat.le_of_ble_eq_true rfl), (Nat.le_of_ble_eq_true rfl)⟩ (mL_cached hfl h) rfl dL_law_1338 (kI (fun r462 G463 h => ?_)) kN
        refine r_istore C (lv' := [some (.ref a0), some (.ref a1), some (.ref a2), some (.ref a3), some (.int x4), some (.int r462), none]) dL_law_1341 (Nat.le_of_ble_eq_true rfl) rfl rfl ?_
        refine r_aloadR_n C 2 dL_law_1343 rfl rfl ?_
        refine r_aloadR_n C 0 dL_law_1344 rfl rfl ?_
        refine r_iload C dL_law_1345 rfl ?_
        refine r_iconst C 1 dL_law_1347 (by decide) ?_
        refine r_iadd C dL_law_1348 ?_
        obtain ⟨hab, hi, h⟩ := h
        refine r_sldE C hSC hab hi dL_law_1349 ?_
        refine r_aloadR_n C 0 dL_law_1350 rfl rfl ?_
        refine r_iload C dL_law_1351 rfl ?_
        refine r_iconst C 2 dL_law_1353 (by decide) ?_
        refine r_iadd C dL_law_1354 ?_
        obtain ⟨hab, hi, h⟩ := h
        refine r_sldE C hSC hab hi dL_law_1355 ?_
        obtain ⟨ht, h⟩ := h
        refine r_callV C (r := (RX10, TX10, 19)) hL yw_X10_cached vw_RL_162 rfl rfl ht rfl rfl (Nat.le_of_ble_eq_true rfl) ⟨(Nat.le_of_ble_eq_true rfl), (Nat.le_of_ble_eq_true rfl)⟩ (mX10_cached hfl h) rfl dL_law_1356 (kI (fun r464 G465 h => ?_)) kN
        refine r_istore C (lv' := [some (.ref a0), some (.ref a1), some (.ref a2), some (.ref a3), some (.int x4), some (.int r462), some (.int r464)]) dL_law_1359 (Nat.le_of_ble_eq_true rfl) rfl rfl ?_
        refine r_aloadR_n C 2 dL_law_1361 rfl rfl ?_
        obtain ⟨ht, h⟩ := h
        refine r_callV C (r := (RX10, TX10, 19)) hL yw_X10_thrown vw_RL_93 rfl rfl ht rfl rfl (Nat.le_of_ble_eq_true rfl) ⟨(Nat.le_of_ble_eq_true rfl), (Nat.le_of_ble_eq_true rfl)⟩ (mX10_thrown hfl h) rfl dL_law_1362 (kI (fun r466 G467 h => ?_)) kN
        refine r_iload C dL_law_1365 rfl ?_
        refine r_icmp_eq C 1372 dL_law_1367 (by decide) (fun c => ?_) (fun c => ?_)
        · replace h := h.1 c
          refine r_iload C dL_law_1372 rfl ?_
          refine r_if_ne C 1389 dL_law_1374 (by decide) (fun c => ?_) (fun c => ?_)
          · replace h := h.1 c
            refine r_goto C 1737 dL_law_1389 (by decide) ?_
            refine r_iinc C 5 (lv' := [some (.ref a0), some (.ref a1), some (.ref a2), some (.ref a3), some (.int (x4 + 5)), some (.int r462), some (.int r464)]) dL_law_1737 rfl (by decide) rfl rfl ?_
            refine r_goto C 23 dL_law_1740 (by decide) ?_
            refine r_fg (lv' := [some (.ref a0), some (.ref a1), some (.ref a2), some (.ref a3), some (.int (x4 + 5)), none, none]) (show fgt _ _ from ⟨rfl, ⟨rfl, ⟨rfl, ⟨rfl, ⟨rfl, trivial⟩⟩⟩⟩⟩) ?_
            exact hk23 _ _ _ _ _ _ h
          · replace h := h.2 c
            refine r_aloadR_n C 3 dL_law_1377 rfl rfl ?_
            refine r_iconst C 0 dL_law_1378 (by decide) ?_
            obtain ⟨ht, hi, h⟩ := h
            refine r_laldP C ht hi dL_law_1379 ?_
            refine r_iload C dL_law_1380 rfl ?_
            refine r_i2l C dL_law_1382 ?_
            refine r_lcmp C dL_law_1383 ?_
            refine r_if_eq C 1389 dL_law_1384 (by decide) (fun c => ?_) (fun c => ?_)
            · replace h := h.1 c
              refine r_goto C 1737 dL_law_1389 (by decide) ?_
              refine r_iinc C 5 (lv' := [some (.ref a0), some (.ref a1), some (.ref a2), some (.ref a3), some (.int (x4 + 5)), some (.int r462), some (.int r464)]) dL_law_1737 rfl (by decide) rfl rfl ?_
              refine r_goto C 23 dL_law_1740 (by decide) ?_
              refine r_fg (lv' := [some (.ref a0), some (.ref a1), some (.ref a2), some (.ref a3), some (.int (x4 + 5)), none, none]) (show fgt _ _ from ⟨rfl, ⟨rfl, ⟨rfl, ⟨rfl, ⟨rfl, trivial⟩⟩⟩⟩⟩) ?_
              exact hk23 _ _ _ _ _ _ h
            · replace h := h.2 c
              refine r_iconst C 0 dL_law_1387 (by decide) ?_
              exact hret _ _ _ _ h dL_law_1388
        · replace h := h.2 c
          refine r_iconst C 0 dL_law_1370 (by decide) ?_
          exact hret _ _ _ _ h dL_law_1371
      · replace h := h.2.2.2.2.2.2.2.2.2.2.2.2.2.2.2.2.2.2.2.2.2.1 c
        refine r_tableIn C 1392 dL_law_39 (by rw [c]; decide) (by rw [c]; decide) (by rw [c]; rfl) (by decide) ?_
        refine r_aloadR_n C 1 dL_law_1392 rfl rfl ?_
        obtain ⟨ht, h⟩ := h
        refine r_callV C (r := (RX9, TX9, 3)) hL yw_X9_clearCache vw_RL_163 rfl rfl ht rfl rfl (Nat.le_of_ble_eq_true rfl) ⟨(Nat.le_of_ble_eq_true rfl), (Nat.le_of_ble_eq_true rfl)⟩ (mX9_clearCache hfl h) rfl dL_law_1393 (kI (fun r482 G483 h => ?_)) kN
        refine r_aloadR_n C 2 dL_law_1396 rfl rfl ?_
        obtain ⟨ht, h⟩ := h
        refine r_callV C (r := (RX10, TX10, 19)) hL yw_X10_clearCache vw_RL_166 rfl rfl ht rfl rfl (Nat.le_of_ble_eq_true rfl) ⟨(Nat.le_of_ble_eq_true rfl), (Nat.le_of_ble_eq_true rfl)⟩ (mX10_clearCache hfl h) rfl dL_law_1397 (kI (fun r484 G485 h => ?_)) kN
        refine r_icmp_eq C 1737 dL_law_1400 (by decide) (fun c => ?_) (fun c => ?_)
        · replace h := h.1 c
          refine r_iinc C 5 (lv' := [some (.ref a0), some (.ref a1), some (.ref a2), some (.ref a3), some (.int (x4 + 5)), none, none]) dL_law_1737 rfl (by decide) rfl rfl ?_
          refine r_goto C 23 dL_law_1740 (by decide) ?_
          exact hk23 _ _ _ _ _ _ h
        · replace h := h.2 c
          refine r_iconst C 0 dL_law_1403 (by decide) ?_
          exact hret _ _ _ _ h dL_law_1404
      · replace h := h.2.2.2.2.2.2.2.2.2.2.2.2.2.2.2.2.2.2.2.2.2.2.1 c
        refine r_tableIn C 1405 dL_law_39 (by rw [c]; decide) (by rw [c]; decide) (by rw [c]; rfl) (by decide) ?_
        refine r_aloadR_n C 1 dL_law_1405 rfl rfl ?_
        refine r_aloadR_n C 0 dL_law_1406 rfl rfl ?_
        refine r_iload C dL_law_1407 rfl ?_
        refine r_iconst C 1 dL_law_1409 (by decide) ?_
        refine r_iadd C dL_law_1410 ?_
        obtain ⟨hab, hi, h⟩ := h
        refine r_sldE C hSC hab hi dL_law_1411 ?_
        refine r_aloadR_n C 3 dL_law_1412 rfl rfl ?_
        refine r_callX C hL xw_RL_167 rfl rfl (Nat.le_of_ble_eq_true rfl) ⟨(Nat.le_of_ble_eq_true rfl), (Nat.le_of_ble_eq_true rfl)⟩ (mL_count hfl h) rfl dL_law_1413 (kI (fun r502 G503 h => ?_)) kN
        refine r_istore C (lv' := [some (.ref a0), some (.ref a1), some (.ref a2), some (.ref a3), some (.int x4), some (.int r502), none]) dL_law_1416 (Nat.le_of_ble_eq_true rfl) rfl rfl ?_
        refine r_aloadR_n C 2 dL_law_1418 rfl rfl ?_
        refine r_aloadR_n C 0 dL_law_1419 rfl rfl ?_
        refine r_iload C dL_law_1420 rfl ?_
        refine r_iconst C 1 dL_law_1422 (by decide) ?_
        refine r_iadd C dL_law_1423 ?_
        obtain ⟨hab, hi, h⟩ := h
        refine r_sldE C hSC hab hi dL_law_1424 ?_
        obtain ⟨ht, h⟩ := h
        refine r_callV C (r := (RX10, TX10, 19)) hL yw_X10_count vw_RL_169 rfl rfl ht rfl rfl (Nat.le_of_ble_eq_true rfl) ⟨(Nat.le_of_ble_eq_true rfl), (Nat.le_of_ble_eq_true rfl)⟩ (mX10_count hfl h) rfl dL_law_1425 (kI (fun r504 G505 h => ?_)) kN
        refine r_istore C (lv' := [some (.ref a0), some (.ref a1), some (.ref a2), some (.ref a3), some (.int x4), some (.int r502), some (.int r504)]) dL_law_1428 (Nat.le_of_ble_eq_true rfl) rfl rfl ?_
        refine r_aloadR_n C 2 dL_law_1430 rfl rfl ?_
        obtain ⟨ht, h⟩ := h
        refine r_callV C (r := (RX10, TX10, 19)) hL yw_X10_thrown vw_RL_93 rfl rfl ht rfl rfl (Nat.le_of_ble_eq_true rfl) ⟨(Nat.le_of_ble_eq_true rfl), (Nat.le_of_ble_eq_true rfl)⟩ (mX10_thrown hfl h) rfl dL_law_1431 (kI (fun r506 G507 h => ?_)) kN
        refine r_iload C dL_law_1434 rfl ?_
        refine r_icmp_eq C 1441 dL_law_1436 (by decide) (fun c => ?_) (fun c => ?_)
        · replace h := h.1 c
          refine r_iload C dL_law_1441 rfl ?_
          refine r_if_ne C 1458 dL_law_1443 (by decide) (fun c => ?_) (fun c => ?_)
          · replace h := h.1 c
            refine r_goto C 1737 dL_law_1458 (by decide) ?_
            refine r_iinc C 5 (lv' := [some (.ref a0), some (.ref a1), some (.ref a2), some (.ref a3), some (.int (x4 + 5)), some (.int r502), some (.int r504)]) dL_law_1737 rfl (by decide) rfl rfl ?_
            refine r_goto C 23 dL_law_1740 (by decide) ?_
            refine r_fg (lv' := [some (.ref a0), some (.ref a1), some (.ref a2), some (.ref a3), some (.int (x4 + 5)), none, none]) (show fgt _ _ from ⟨rfl, ⟨rfl, ⟨rfl, ⟨rfl, ⟨rfl, trivial⟩⟩⟩⟩⟩) ?_
            exact hk23 _ _ _ _ _ _ h
          · replace h := h.2 c
            refine r_aloadR_n C 3 dL_law_1446 rfl rfl ?_
            refine r_iconst C 0 dL_law_1447 (by decide) ?_
            obtain ⟨ht, hi, h⟩ := h
            refine r_laldP C ht hi dL_law_1448 ?_
            refine r_iload C dL_law_1449 rfl ?_
            refine r_i2l C dL_law_1451 ?_
            refine r_lcmp C dL_law_1452 ?_
            refine r_if_eq C 1458 dL_law_1453 (by decide) (fun c => ?_) (fun c => ?_)
            · replace h := h.1 c
              refine r_goto C 1737 dL_law_1458 (by decide) ?_
              refine r_iinc C 5 (lv' := [some (.ref a0), some (.ref a1), some (.ref a2), some (.ref a3), some (.int (x4 + 5)), some (.int r502), some (.int r504)]) dL_law_1737 rfl (by decide) rfl rfl ?_
              refine r_goto C 23 dL_law_1740 (by decide) ?_
              refine r_fg (lv' := [some (.ref a0), some (.ref a1), some (.ref a2), some (.ref a3), some (.int (x4 + 5)), none, none]) (show fgt _ _ from ⟨rfl, ⟨rfl, ⟨rfl, ⟨rfl, ⟨rfl, trivial⟩⟩⟩⟩⟩) ?_
              exact hk23 _ _ _ _ _ _ h
            · replace h := h.2 c
              refine r_iconst C 0 dL_law_1456 (by decide) ?_
              exact hret _ _ _ _ h dL_law_1457
        · replace h := h.2 c
          refine r_iconst C 0 dL_law_1439 (by decide) ?_
          exact hret _ _ _ _ h dL_law_1440
      · replace h := h.2.2.2.2.2.2.2.2.2.2.2.2.2.2.2.2.2.2.2.2.2.2.2.1 c
        refine r_tableIn C 1461 dL_law_39 (by rw [c]; decide) (by rw [c]; decide) (by rw [c]; rfl) (by decide) ?_
        refine r_aloadR_n C 1 dL_law_1461 rfl rfl ?_
        refine r_aloadR_n C 0 dL_law_1462 rfl rfl ?_
        refine r_iload C dL_law_1463 rfl ?_
        refine r_iconst C 1 dL_law_1465 (by decide) ?_
        refine r_iadd C dL_law_1466 ?_
        obtain ⟨hab, hi, h⟩ := h
        refine r_sldE C hSC hab hi dL_law_1467 ?_
        refine r_aloadR_n C 3 dL_law_1468 rfl rfl ?_
        refine r_callX C hL xw_RL_170 rfl rfl (Nat.le_of_ble_eq_true rfl) ⟨(Nat.le_of_ble_eq_true rfl), (Nat.le_of_ble_eq_true rfl)⟩ (mL_leastDrain hfl h) rfl dL_law_1469 (kI (fun r522 G523 h => ?_)) kN
        refine r_istore C (lv' := [some (.ref a0), some (.ref a1), some (.ref a2), some (.ref a3), some (.int x4), some (.int r522), none]) dL_law_1472 (Nat.le_of_ble_eq_true rfl) rfl rfl ?_
        refine r_aloadR_n C 2 dL_law_1474 rfl rfl ?_
        refine r_aloadR_n C 0 dL_law_1475 rfl rfl ?_
        refine r_iload C dL_law_1476 rfl ?_
        refine r_iconst C 1 dL_law_1478 (by decide) ?_
        refine r_iadd C dL_law_1479 ?_
        obtain ⟨hab, hi, h⟩ := h
        refine r_sldE C hSC hab hi dL_law_1480 ?_
        obtain ⟨ht, h⟩ := h
        refine r_callV C (r := (RX10, TX10, 19)) hL yw_X10_leastDrain vw_RL_172 rfl rfl ht rfl rfl (Nat.le_of_ble_eq_true rfl) ⟨(Nat.le_of_ble_eq_true rfl), (Nat.le_of_ble_eq_true rfl)⟩ (mX10_leastDrain hfl h) rfl dL_law_1481 (kI (fun r524 G525 h => ?_)) kN
        refine r_istore C (lv' := [some (.ref a0), some (.ref a1), some (.ref a2), some (.ref a3), some (.int x4), some (.int r522), some (.int r524)]) dL_law_1484 (Nat.le_of_ble_eq_true rfl) rfl rfl ?_
        refine r_aloadR_n C 2 dL_law_1486 rfl rfl ?_
        obtain ⟨ht, h⟩ := h
        refine r_callV C (r := (RX10, TX10, 19)) hL yw_X10_thrown vw_RL_93 rfl rfl ht rfl rfl (Nat.le_of_ble_eq_true rfl) ⟨(Nat.le_of_ble_eq_true rfl), (Nat.le_of_ble_eq_true rfl)⟩ (mX10_thrown hfl h) rfl dL_law_1487 (kI (fun r526 G527 h => ?_)) kN
        refine r_iload C dL_law_1490 rfl ?_
        refine r_icmp_eq C 1497 dL_law_1492 (by decide) (fun c => ?_) (fun c => ?_)
        · replace h := h.1 c
          refine r_iload C dL_law_1497 rfl ?_
          refine r_if_ne C 1514 dL_law_1499 (by decide) (fun c => ?_) (fun c => ?_)
          · replace h := h.1 c
            refine r_goto C 1737 dL_law_1514 (by decide) ?_
            refine r_iinc C 5 (lv' := [some (.ref a0), some (.ref a1), some (.ref a2), some (.ref a3), some (.int (x4 + 5)), some (.int r522), some (.int r524)]) dL_law_1737 rfl (by decide) rfl rfl ?_
            refine r_goto C 23 dL_law_1740 (by decide) ?_
            refine r_fg (lv' := [some (.ref a0), some (.ref a1), some (.ref a2), some (.ref a3), some (.int (x4 + 5)), none, none]) (show fgt _ _ from ⟨rfl, ⟨rfl, ⟨rfl, ⟨rfl, ⟨rfl, trivial⟩⟩⟩⟩⟩) ?_
            exact hk23 _ _ _ _ _ _ h
          · replace h := h.2 c
            refine r_aloadR_n C 3 dL_law_1502 rfl rfl ?_
            refine r_iconst C 0 dL_law_1503 (by decide) ?_
            obtain ⟨ht, hi, h⟩ := h
            refine r_laldP C ht hi dL_law_1504 ?_
            refine r_iload C dL_law_1505 rfl ?_
            refine r_i2l C dL_law_1507 ?_
            refine r_lcmp C dL_law_1508 ?_
            refine r_if_eq C 1514 dL_law_1509 (by decide) (fun c => ?_) (fun c => ?_)
            · replace h := h.1 c
              refine r_goto C 1737 dL_law_1514 (by decide) ?_
              refine r_iinc C 5 (lv' := [some (.ref a0), some (.ref a1), some (.ref a2), some (.ref a3), some (.int (x4 + 5)), some (.int r522), some (.int r524)]) dL_law_1737 rfl (by decide) rfl rfl ?_
              refine r_goto C 23 dL_law_1740 (by decide) ?_
              refine r_fg (lv' := [some (.ref a0), some (.ref a1), some (.ref a2), some (.ref a3), some (.int (x4 + 5)), none, none]) (show fgt _ _ from ⟨rfl, ⟨rfl, ⟨rfl, ⟨rfl, ⟨rfl, trivial⟩⟩⟩⟩⟩) ?_
              exact hk23 _ _ _ _ _ _ h
            · replace h := h.2 c
              refine r_iconst C 0 dL_law_1512 (by decide) ?_
              exact hret _ _ _ _ h dL_law_1513
        · replace h := h.2 c
          refine r_iconst C 0 dL_law_1495 (by decide) ?_
          exact hret _ _ _ _ h dL_law_1496
      · replace h := h.2.2.2.2.2.2.2.2.2.2.2.2.2.2.2.2.2.2.2.2.2.2.2.2.1 c
        refine r_tableIn C 1517 dL_law_39 (by rw [c]; decide) (by rw [c]; decide) (by rw [c]; rfl) (by decide) ?_
        refine r_aloadR_n C 1 dL_law_1517 rfl rfl ?_
        refine r_aloadR_n C 0 dL_law_1518 rfl rfl ?_
        refine r_iload C dL_law_1519 rfl ?_
        refine r_iconst C 1 dL_law_1521 (by decide) ?_
        refine r_iadd C dL_law_1522 ?_
        obtain ⟨hab, hi, h⟩ := h
        refine r_sldE C hSC hab hi dL_law_1523 ?_
        refine r_aloadR_n C 0 dL_law_1524 rfl rfl ?_
        refine r_iload C dL_law_1525 rfl ?_
        refine r_iconst C 2 dL_law_1527 (by decide) ?_
        refine r_iadd C dL_law_1528 ?_
        obtain ⟨hab, hi, h⟩ := h
        refine r_sldE C hSC hab hi dL_law_1529 ?_
        refine r_aloadR_n C 3 dL_law_1530 rfl rfl ?_
        refine r_callX C hL xw_RL_173 rfl rfl (Nat.le_of_ble_eq_true rfl) ⟨(Nat.le_of_ble_eq_true rfl), (Nat.le_of_ble_eq_true rfl)⟩ (mL_feed hfl h) rfl dL_law_1531 (kI (fun r542 G543 h => ?_)) kN
        refine r_istore C (lv' := [some (.ref a0), some (.ref a1), some (.ref a2), some (.ref a3), some (.int x4), some (.int r542), none]) dL_law_1534 (Nat.le_of_ble_eq_true rfl) rfl rfl ?_
        refine r_aloadR_n C 2 dL_law_1536 rfl rfl ?_
        refine r_aloadR_n C 0 dL_law_1537 rfl rfl ?_
        refine r_iload C dL_law_1538 rfl ?_
        refine r_iconst C 1 dL_law_1540 (by decide) ?_
        refine r_iadd C dL_law_1541 ?_
        obtain ⟨hab, hi, h⟩ := h
        refine r_sldE C hSC hab hi dL_law_1542 ?_
        refine r_aloadR_n C 0 dL_law_1543 rfl rfl ?_
        refine r_iload C dL_law_1544 rfl ?_
        refine r_iconst C 2 dL_law_1546 (by decide) ?_
        refine r_iadd C dL_law_1547 ?_
        obtain ⟨hab, hi, h⟩ := h
        refine r_sldE C hSC hab hi dL_law_1548 ?_
        obtain ⟨ht, h⟩ := h
        refine r_callV C (r := (RX10, TX10, 19)) hL yw_X10_feed vw_RL_175 rfl rfl ht rfl rfl (Nat.le_of_ble_eq_true rfl) ⟨(Nat.le_of_ble_eq_true rfl), (Nat.le_of_ble_eq_true rfl)⟩ (mX10_feed hfl h) rfl dL_law_1549 (kI (fun r544 G545 h => ?_)) kN
        refine r_istore C (lv' := [some (.ref a0), some (.ref a1), some (.ref a2), some (.ref a3), some (.int x4), some (.int r542), some (.int r544)]) dL_law_1552 (Nat.le_of_ble_eq_true rfl) rfl rfl ?_
        refine r_aloadR_n C 2 dL_law_1554 rfl rfl ?_
        obtain ⟨ht, h⟩ := h
        refine r_callV C (r := (RX10, TX10, 19)) hL yw_X10_thrown vw_RL_93 rfl rfl ht rfl rfl (Nat.le_of_ble_eq_true rfl) ⟨(Nat.le_of_ble_eq_true rfl), (Nat.le_of_ble_eq_true rfl)⟩ (mX10_thrown hfl h) rfl dL_law_1555 (kI (fun r546 G547 h => ?_)) kN
        refine r_iload C dL_law_1558 rfl ?_
        refine r_icmp_eq C 1565 dL_law_1560 (by decide) (fun c => ?_) (fun c => ?_)
        · replace h := h.1 c
          refine r_iload C dL_law_1565 rfl ?_
          refine r_if_ne C 1582 dL_law_1567 (by decide) (fun c => ?_) (fun c => ?_)
          · replace h := h.1 c
            refine r_goto C 1737 dL_law_1582 (by decide) ?_
            refine r_iinc C 5 (lv' := [some (.ref a0), some (.ref a1), some (.ref a2), some (.ref a3), some (.int (x4 + 5)), some (.int r542), some (.int r544)]) dL_law_1737 rfl (by decide) rfl rfl ?_
            refine r_goto C 23 dL_law_1740 (by decide) ?_
            refine r_fg (lv' := [some (.ref a0), some (.ref a1), some (.ref a2), some (.ref a3), some (.int (x4 + 5)), none, none]) (show fgt _ _ from ⟨rfl, ⟨rfl, ⟨rfl, ⟨rfl, ⟨rfl, trivial⟩⟩⟩⟩⟩) ?_
            exact hk23 _ _ _ _ _ _ h
          · replace h := h.2 c
            refine r_aloadR_n C 3 dL_law_1570 rfl rfl ?_
            refine r_iconst C 0 dL_law_1571 (by decide) ?_
            obtain ⟨ht, hi, h⟩ := h
            refine r_laldP C ht hi dL_law_1572 ?_
            refine r_iload C dL_law_1573 rfl ?_
            refine r_i2l C dL_law_1575 ?_
            refine r_lcmp C dL_law_1576 ?_
            refine r_if_eq C 1582 dL_law_1577 (by decide) (fun c => ?_) (fun c => ?_)
            · replace h := h.1 c
              refine r_goto C 1737 dL_law_1582 (by decide) ?_
              refine r_iinc C 5 (lv' := [some (.ref a0), some (.ref a1), some (.ref a2), some (.ref a3), some (.int (x4 + 5)), some (.int r542), some (.int r544)]) dL_law_1737 rfl (by decide) rfl rfl ?_
              refine r_goto C 23 dL_law_1740 (by decide) ?_
              refine r_fg (lv' := [some (.ref a0), some (.ref a1), some (.ref a2), some (.ref a3), some (.int (x4 + 5)), none, none]) (show fgt _ _ from ⟨rfl, ⟨rfl, ⟨rfl, ⟨rfl, ⟨rfl, trivial⟩⟩⟩⟩⟩) ?_
              exact hk23 _ _ _ _ _ _ h
            · replace h := h.2 c
              refine r_iconst C 0 dL_law_1580 (by decide) ?_
              exact hret _ _ _ _ h dL_law_1581
        · replace h := h.2 c
          refine r_iconst C 0 dL_law_1563 (by decide) ?_
          exact hret _ _ _ _ h dL_law_1564
      · replace h := h.2.2.2.2.2.2.2.2.2.2.2.2.2.2.2.2.2.2.2.2.2.2.2.2.2.1 c
        refine r_tableIn C 1585 dL_law_39 (by rw [c]; decide) (by rw [c]; decide) (by rw [c]; rfl) (by decide) ?_
        refine r_aloadR_n C 1 dL_law_1585 rfl rfl ?_
        obtain ⟨ht, h⟩ := h
        refine r_callV C (r := (RX9, TX9, 3)) hL yw_X9_endFrame vw_RL_176 rfl rfl ht rfl rfl (Nat.le_of_ble_eq_true rfl) ⟨(Nat.le_of_ble_eq_true rfl), (Nat.le_of_ble_eq_true rfl)⟩ (mX9_endFrame hfl h) rfl dL_law_1586 (kI (fun r562 G563 h => ?_)) kN
        refine r_aloadR_n C 2 dL_law_1589 rfl rfl ?_
        obtain ⟨ht, h⟩ := h
        refine r_callV C (r := (RX10, TX10, 19)) hL yw_X10_endFrame vw_RL_179 rfl rfl ht rfl rfl (Nat.le_of_ble_eq_true rfl) ⟨(Nat.le_of_ble_eq_true rfl), (Nat.le_of_ble_eq_true rfl)⟩ (mX10_endFrame hfl h) rfl dL_law_1590 (kI (fun r564 G565 h => ?_)) kN
        refine r_icmp_eq C 1737 dL_law_1593 (by decide) (fun c => ?_) (fun c => ?_)
        · replace h := h.1 c
          refine r_iinc C 5 (lv' := [some (.ref a0), some (.ref a1), some (.ref a2), some (.ref a3), some (.int (x4 + 5)), none, none]) dL_law_1737 rfl (by decide) rfl rfl ?_
          refine r_goto C 23 dL_law_1740 (by decide) ?_
          exact hk23 _ _ _ _ _ _ h
        · replace h := h.2 c
          refine r_iconst C 0 dL_law_1596 (by decide) ?_
          exact hret _ _ _ _ h dL_law_1597
      · replace h := h.2.2.2.2.2.2.2.2.2.2.2.2.2.2.2.2.2.2.2.2.2.2.2.2.2.2.1 c
        refine r_tableIn C 1598 dL_law_39 (by rw [c]; decide) (by rw [c]; decide) (by rw [c]; rfl) (by decide) ?_
        refine r_aloadR_n C 1 dL_law_1598 rfl rfl ?_
        refine r_aloadR_n C 0 dL_law_1599 rfl rfl ?_
        refine r_iload C dL_law_1600 rfl ?_
        refine r_iconst C 1 dL_law_1602 (by decide) ?_
        refine r_iadd C dL_law_1603 ?_
        obtain ⟨hab, hi, h⟩ := h
        refine r_sldE C hSC hab hi dL_law_1604 ?_
        refine r_aloadR_n C 3 dL_law_1605 rfl rfl ?_
        refine r_callX C hL xw_RL_180 rfl rfl (Nat.le_of_ble_eq_true rfl) ⟨(Nat.le_of_ble_eq_true rfl), (Nat.le_of_ble_eq_true rfl)⟩ (mL_verdict hfl h) rfl dL_law_1606 (kI (fun r582 G583 h => ?_)) kN
        refine r_istore C (lv' := [some (.ref a0), some (.ref a1), some (.ref a2), some (.ref a3), some (.int x4), some (.int r582), none]) dL_law_1609 (Nat.le_of_ble_eq_true rfl) rfl rfl ?_
        refine r_aloadR_n C 2 dL_law_1611 rfl rfl ?_
        refine r_aloadR_n C 0 dL_law_1612 rfl rfl ?_
        refine r_iload C dL_law_1613 rfl ?_
        refine r_iconst C 1 dL_law_1615 (by decide) ?_
        refine r_iadd C dL_law_1616 ?_
        obtain ⟨hab, hi, h⟩ := h
        refine r_sldE C hSC hab hi dL_law_1617 ?_
        obtain ⟨ht, h⟩ := h
        refine r_callV C (r := (RX10, TX10, 19)) hL yw_X10_verdict vw_RL_182 rfl rfl ht rfl rfl (Nat.le_of_ble_eq_true rfl) ⟨(Nat.le_of_ble_eq_true rfl), (Nat.le_of_ble_eq_true rfl)⟩ (mX10_verdict hfl h) rfl dL_law_1618 (kI (fun r584 G585 h => ?_)) kN
        refine r_istore C (lv' := [some (.ref a0), some (.ref a1), some (.ref a2), some (.ref a3), some (.int x4), some (.int r582), some (.int r584)]) dL_law_1621 (Nat.le_of_ble_eq_true rfl) rfl rfl ?_
        refine r_aloadR_n C 2 dL_law_1623 rfl rfl ?_
        obtain ⟨ht, h⟩ := h
        refine r_callV C (r := (RX10, TX10, 19)) hL yw_X10_thrown vw_RL_93 rfl rfl ht rfl rfl (Nat.le_of_ble_eq_true rfl) ⟨(Nat.le_of_ble_eq_true rfl), (Nat.le_of_ble_eq_true rfl)⟩ (mX10_thrown hfl h) rfl dL_law_1624 (kI (fun r586 G587 h => ?_)) kN
        refine r_iload C dL_law_1627 rfl ?_
        refine r_icmp_eq C 1634 dL_law_1629 (by decide) (fun c => ?_) (fun c => ?_)
        · replace h := h.1 c
          refine r_iload C dL_law_1634 rfl ?_
          refine r_if_ne C 1651 dL_law_1636 (by decide) (fun c => ?_) (fun c => ?_)
          · replace h := h.1 c
            refine r_goto C 1737 dL_law_1651 (by decide) ?_
            refine r_iinc C 5 (lv' := [some (.ref a0), some (.ref a1), some (.ref a2), some (.ref a3), some (.int (x4 + 5)), some (.int r582), some (.int r584)]) dL_law_1737 rfl (by decide) rfl rfl ?_
            refine r_goto C 23 dL_law_1740 (by decide) ?_
            refine r_fg (lv' := [some (.ref a0), some (.ref a1), some (.ref a2), some (.ref a3), some (.int (x4 + 5)), none, none]) (show fgt _ _ from ⟨rfl, ⟨rfl, ⟨rfl, ⟨rfl, ⟨rfl, trivial⟩⟩⟩⟩⟩) ?_
            exact hk23 _ _ _ _ _ _ h
          · replace h := h.2 c
            refine r_aloadR_n C 3 dL_law_1639 rfl rfl ?_
            refine r_iconst C 0 dL_law_1640 (by decide) ?_
            obtain ⟨ht, hi, h⟩ := h
            refine r_laldP C ht hi dL_law_1641 ?_
            refine r_iload C dL_law_1642 rfl ?_
            refine r_i2l C dL_law_1644 ?_
            refine r_lcmp C dL_law_1645 ?_
            refine r_if_eq C 1651 dL_law_1646 (by decide) (fun c => ?_) (fun c => ?_)
            · replace h := h.1 c
              refine r_goto C 1737 dL_law_1651 (by decide) ?_
              refine r_iinc C 5 (lv' := [some (.ref a0), some (.ref a1), some (.ref a2), some (.ref a3), some (.int (x4 + 5)), some (.int r582), some (.int r584)]) dL_law_1737 rfl (by decide) rfl rfl ?_
              refine r_goto C 23 dL_law_1740 (by decide) ?_
              refine r_fg (lv' := [some (.ref a0), some (.ref a1), some (.ref a2), some (.ref a3), some (.int (x4 + 5)), none, none]) (show fgt _ _ from ⟨rfl, ⟨rfl, ⟨rfl, ⟨rfl, ⟨rfl, trivial⟩⟩⟩⟩⟩) ?_
              exact hk23 _ _ _ _ _ _ h
            · replace h := h.2 c
              refine r_iconst C 0 dL_law_1649 (by decide) ?_
              exact hret _ _ _ _ h dL_law_1650
        · replace h := h.2 c
          refine r_iconst C 0 dL_law_1632 (by decide) ?_
          exact hret _ _ _ _ h dL_law_1633
      · replace h := h.2.2.2.2.2.2.2.2.2.2.2.2.2.2.2.2.2.2.2.2.2.2.2.2.2.2.2.1 c
        refine r_tableIn C 1654 dL_law_39 (by rw [c]; decide) (by rw [c]; decide) (by rw [c]; rfl) (by decide) ?_
        refine r_aloadR_n C 1 dL_law_1654 rfl rfl ?_
        refine r_aloadR_n C 0 dL_law_1655 rfl rfl ?_
        refine r_iload C dL_law_1656 rfl ?_
        refine r_iconst C 1 dL_law_1658 (by decide) ?_
        refine r_iadd C dL_law_1659 ?_
        obtain ⟨hab, hi, h⟩ := h
        refine r_sldE C hSC hab hi dL_law_1660 ?_
        refine r_aloadR_n C 3 dL_law_1661 rfl rfl ?_
        refine r_callX C hL xw_RL_183 rfl rfl (Nat.le_of_ble_eq_true rfl) ⟨(Nat.le_of_ble_eq_true rfl), (Nat.le_of_ble_eq_true rfl)⟩ (mL_length hfl h) rfl dL_law_1662 (kI (fun r602 G603 h => ?_)) kN
        refine r_istore C (lv' := [some (.ref a0), some (.ref a1), some (.ref a2), some (.ref a3), some (.int x4), some (.int r602), none]) dL_law_1665 (Nat.le_of_ble_eq_true rfl) rfl rfl ?_
        refine r_aloadR_n C 2 dL_law_1667 rfl rfl ?_
        refine r_aloadR_n C 0 dL_law_1668 rfl rfl ?_
        refine r_iload C dL_law_1669 rfl ?_
        refine r_iconst C 1 dL_law_1671 (by decide) ?_
        refine r_iadd C dL_law_1672 ?_
        obtain ⟨hab, hi, h⟩ := h
        refine r_sldE C hSC hab hi dL_law_1673 ?_
        obtain ⟨ht, h⟩ := h
        refine r_callV C (r := (RX10, TX10, 19)) hL yw_X10_length vw_RL_185 rfl rfl ht rfl rfl (Nat.le_of_ble_eq_true rfl) ⟨(Nat.le_of_ble_eq_true rfl), (Nat.le_of_ble_eq_true rfl)⟩ (mX10_length hfl h) rfl dL_law_1674 (kI (fun r604 G605 h => ?_)) kN
        refine r_istore C (lv' := [some (.ref a0), some (.ref a1), some (.ref a2), some (.ref a3), some (.int x4), some (.int r602), some (.int r604)]) dL_law_1677 (Nat.le_of_ble_eq_true rfl) rfl rfl ?_
        refine r_aloadR_n C 2 dL_law_1679 rfl rfl ?_
        obtain ⟨ht, h⟩ := h
        refine r_callV C (r := (RX10, TX10, 19)) hL yw_X10_thrown vw_RL_93 rfl rfl ht rfl rfl (Nat.le_of_ble_eq_true rfl) ⟨(Nat.le_of_ble_eq_true rfl), (Nat.le_of_ble_eq_true rfl)⟩ (mX10_thrown hfl h) rfl dL_law_1680 (kI (fun r606 G607 h => ?_)) kN
        refine r_iload C dL_law_1683 rfl ?_
        refine r_icmp_eq C 1690 dL_law_1685 (by decide) (fun c => ?_) (fun c => ?_)
        · replace h := h.1 c
          refine r_iload C dL_law_1690 rfl ?_
          refine r_if_ne C 1707 dL_law_1692 (by decide) (fun c => ?_) (fun c => ?_)
          · replace h := h.1 c
            refine r_goto C 1737 dL_law_1707 (by decide) ?_
            refine r_iinc C 5 (lv' := [some (.ref a0), some (.ref a1), some (.ref a2), some (.ref a3), some (.int (x4 + 5)), some (.int r602), some (.int r604)]) dL_law_1737 rfl (by decide) rfl rfl ?_
            refine r_goto C 23 dL_law_1740 (by decide) ?_
            refine r_fg (lv' := [some (.ref a0), some (.ref a1), some (.ref a2), some (.ref a3), some (.int (x4 + 5)), none, none]) (show fgt _ _ from ⟨rfl, ⟨rfl, ⟨rfl, ⟨rfl, ⟨rfl, trivial⟩⟩⟩⟩⟩) ?_
            exact hk23 _ _ _ _ _ _ h
          · replace h := h.2 c
            refine r_aloadR_n C 3 dL_law_1695 rfl rfl ?_
            refine r_iconst C 0 dL_law_1696 (by decide) ?_
            obtain ⟨ht, hi, h⟩ := h
            refine r_laldP C ht hi dL_law_1697 ?_
            refine r_iload C dL_law_1698 rfl ?_
            refine r_i2l C dL_law_1700 ?_
            refine r_lcmp C dL_law_1701 ?_
            refine r_if_eq C 1707 dL_law_1702 (by decide) (fun c => ?_) (fun c => ?_)
            · replace h := h.1 c
              refine r_goto C 1737 dL_law_1707 (by decide) ?_
              refine r_iinc C 5 (lv' := [some (.ref a0), some (.ref a1), some (.ref a2), some (.ref a3), some (.int (x4 + 5)), some (.int r602), some (.int r604)]) dL_law_1737 rfl (by decide) rfl rfl ?_
              refine r_goto C 23 dL_law_1740 (by decide) ?_
              refine r_fg (lv' := [some (.ref a0), some (.ref a1), some (.ref a2), some (.ref a3), some (.int (x4 + 5)), none, none]) (show fgt _ _ from ⟨rfl, ⟨rfl, ⟨rfl, ⟨rfl, ⟨rfl, trivial⟩⟩⟩⟩⟩) ?_
              exact hk23 _ _ _ _ _ _ h
            · replace h := h.2 c
              refine r_iconst C 0 dL_law_1705 (by decide) ?_
              exact hret _ _ _ _ h dL_law_1706
        · replace h := h.2 c
          refine r_iconst C 0 dL_law_1688 (by decide) ?_
          exact hret _ _ _ _ h dL_law_1689
      · replace h := h.2.2.2.2.2.2.2.2.2.2.2.2.2.2.2.2.2.2.2.2.2.2.2.2.2.2.2.2.1 c
        refine r_tableIn C 1710 dL_law_39 (by rw [c]; decide) (by rw [c]; decide) (by rw [c]; rfl) (by decide) ?_
        refine r_aloadR_n C 1 dL_law_1710 rfl rfl ?_
        obtain ⟨ht, h⟩ := h
        refine r_callV C (r := (RX9, TX9, 3)) hL yw_X9_checksum vw_RL_186 rfl rfl ht rfl rfl (Nat.le_of_ble_eq_true rfl) ⟨(Nat.le_of_ble_eq_true rfl), (Nat.le_of_ble_eq_true rfl)⟩ (mX9_checksum hfl h) rfl dL_law_1711 (kI (fun r622 G623 h => ?_)) kN
        refine r_aloadR_n C 2 dL_law_1714 rfl rfl ?_
        obtain ⟨ht, h⟩ := h
        refine r_callV C (r := (RX10, TX10, 19)) hL yw_X10_checksum vw_RL_189 rfl rfl ht rfl rfl (Nat.le_of_ble_eq_true rfl) ⟨(Nat.le_of_ble_eq_true rfl), (Nat.le_of_ble_eq_true rfl)⟩ (mX10_checksum hfl h) rfl dL_law_1715 (kI (fun r624 G625 h => ?_)) kN
        refine r_icmp_eq C 1737 dL_law_1718 (by decide) (fun c => ?_) (fun c => ?_)
        · replace h := h.1 c
          refine r_iinc C 5 (lv' := [some (.ref a0), some (.ref a1), some (.ref a2), some (.ref a3), some (.int (x4 + 5)), none, none]) dL_law_1737 rfl (by decide) rfl rfl ?_
          refine r_goto C 23 dL_law_1740 (by decide) ?_
          exact hk23 _ _ _ _ _ _ h
        · replace h := h.2 c
          refine r_iconst C 0 dL_law_1721 (by decide) ?_
          exact hret _ _ _ _ h dL_law_1722
      · replace h := h.2.2.2.2.2.2.2.2.2.2.2.2.2.2.2.2.2.2.2.2.2.2.2.2.2.2.2.2.2 c
        refine r_tableIn C 1723 dL_law_39 (by rw [c]; decide) (by rw [c]; decide) (by rw [c]; rfl) (by decide) ?_
        refine r_aloadR_n C 1 dL_law_1723 rfl rfl ?_
        obtain ⟨ht, h⟩ := h
        refine r_callV C (r := (RX9, TX9, 3)) hL yw_X9_fingerprint vw_RL_190 rfl rfl ht rfl rfl (Nat.le_of_ble_eq_true rfl) ⟨(Nat.le_of_ble_eq_true rfl), (Nat.le_of_ble_eq_true rfl)⟩ (mX9_fingerprint hfl h) rfl dL_law_1724 (kJ (fun r642 G643 h => ?_)) kN
        refine r_aloadR_n C 2 dL_law_1727 rfl rfl ?_
        obtain ⟨ht, h⟩ := h
        refine r_callV C (r := (RX10, TX10, 19)) hL yw_X10_fingerprint vw_RL_193 rfl rfl ht rfl rfl (Nat.le_of_ble_eq_true rfl) ⟨(Nat.le_of_ble_eq_true rfl), (Nat.le_of_ble_eq_true rfl)⟩ (mX10_fingerprint hfl h) rfl dL_law_1728 (kJ (fun r644 G645 h => ?_)) kN
        refine r_lcmp C dL_law_1731 ?_
        refine r_if_eq C 1737 dL_law_1732 (by decide) (fun c => ?_) (fun c => ?_)
        · replace h := h.1 c
          refine r_iinc C 5 (lv' := [some (.ref a0), some (.ref a1), some (.ref a2), some (.ref a3), some (.int (x4 + 5)), none, none]) dL_law_1737 rfl (by decide) rfl rfl ?_
          refine r_goto C 23 dL_law_1740 (by decide) ?_
          exact hk23 _ _ _ _ _ _ h
        · replace h := h.2 c
          refine r_iconst C 0 dL_law_1735 (by decide) ?_
          exact hret _ _ _ _ h dL_law_1736
theorem lL_law_23 {X : Xt} {K : Kt} {l : Launch} {b0 : Nat} {xs : Nat → Int32} {L : Nat} {Q : State → Prop} {Pr : Int32 → Gt → Prop} (B : BL X K l b0 L xs Pr Q) (I : Gt → Nat → Nat → Nat → Nat → Int32 → Prop) (μ : Gt → Nat → Nat → Nat → Nat → Int32 → Nat) (hS : ∀ (G : Gt) (a0 : Nat) (a1 : Nat) (a2 : Nat) (a3 : Nat) (x4 : Int32), I G a0 a1 a2 a3 x4 → wL_law_23 X b0 xs L Pr (fun G' a0' a1' a2' a3' x4' => I G' a0' a1' a2' a3' x4' ∧ μ G' a0' a1' a2' a3' x4' < μ G a0 a1 a2 a3 x4) G a0 a1 a2 a3 x4) : ∀ (n : Nat) (G : Gt) (a0 : Nat) (a1 : Nat) (a2 : Nat) (a3 : Nat) (x4 : Int32), μ G a0 a1 a2 a3 x4 < n → I G a0 a1 a2 a3 x4 → WM X K Q G 23 [some (.ref a0), some (.ref a1), some (.ref a2), some (.ref a3), some (.int x4), none, none] [] := by
  intro n
  induction n with
  | zero => intro G a0 a1 a2 a3 x4 hm; exact absurd hm (Nat.not_lt_zero _)
  | succ n ih =>
    intro G a0 a1 a2 a3 x4 hm hi
    exact bL_law_23 B (fun G' a0' a1' a2' a3' x4' hk => ih G' a0' a1' a2' a3' x4' (Nat.lt_of_lt_of_le hk.2 (Nat.le_of_lt_succ hm)) hk.1) (hS G a0 a1 a2 a3 x4 hi)
def wL_law (X : Xt) (b0 : Nat) (xs : Nat → Int32) (L : Nat) (Pr : Int32 → Gt → Prop) (G : Gt) (a0 : Nat) : Prop := gH G + 1 ≤ xC X ∧ gU G + 3 ≤ xS X ∧ ∀ G1, G1 = nO G 10 3 → wX9_init X G1 (gH G) (fun G2 => gH G2 + 1 ≤ xC X ∧ gU G2 + 19 ≤ xS X ∧ ∀ G3, G3 = nO G2 11 19 → wX10_init X G3 (gH G2) (fun G4 => gH G4 + 1 ≤ xC X ∧ gU G4 + 1 ≤ xS X ∧ ∀ G5, G5 = nE G4 1 → ∃ (I : Gt → Nat → Nat → Nat → Nat → Int32 → Prop) (μ : Gt → Nat → Nat → Nat → Nat → Int32 → Nat), I G5 a0 (gH G) (gH G2) (gH G4) (0 : Int32) ∧ ∀ (G : Gt) (a0 : Nat) (a1 : Nat) (a2 : Nat) (a3 : Nat) (x4 : Int32), I G a0 a1 a2 a3 x4 → wL_law_23 X b0 xs L Pr (fun G' a0' a1' a2' a3' x4' => I G' a0' a1' a2' a3' x4' ∧ μ G' a0' a1' a2' a3' x4' < μ G a0 a1 a2 a3 x4) G a0 a1 a2 a3 x4))
set_option maxRecDepth 20000 in
theorem mL_law {X : Xt} {K : Kt} {l : Launch} {b0 : Nat} {xs : Nat → Int32} {L : Nat} {Q : State → Prop} {Pr : Int32 → Gt → Prop} (B : BL X K l b0 L xs Pr Q) {G : Gt} {a0 : Nat} (h : wL_law X b0 xs L Pr G a0) : WM X K Q G 0 [some (.ref a0), none, none, none, none, none, none] [] := by
  obtain ⟨hL, C, hSC, hfl, hret⟩ := id B
  unfold wL_law at h
  obtain ⟨hr1, hr2, h⟩ := h
  refine r_new C cw_10 (T := TX9) (N := 3) rfl cl_RL_8 hr1 hr2 dL_law_0 ?_
  refine r_nm (fun G1 hG1 => ?_)
  replace h := h G1 hG1
  refine r_dup C dL_law_3 rfl ?_
  refine r_callI C hL yw_X9_init iw_RL_83 rfl rfl (Nat.le_of_ble_eq_true rfl) ⟨(Nat.le_of_ble_eq_true rfl), (Nat.le_of_ble_eq_true rfl)⟩ (mX9_init hfl h) rfl dL_law_4 (kV' (fun G2 h => ?_)) kN
  refine r_astoreR_n C 1 (lv' := [some (.ref a0), some (.ref (gH G)), none, none, none, none, none]) dL_law_7 rfl (Nat.le_of_ble_eq_true rfl) rfl rfl ?_
  obtain ⟨hr1, hr2, h⟩ := h
  refine r_new C cw_11 (T := TX10) (N := 19) rfl cl_RL_84 hr1 hr2 dL_law_8 ?_
  refine r_nm (fun G3 hG3 => ?_)
  replace h := h G3 hG3
  refine r_dup C dL_law_11 rfl ?_
  refine r_callI C hL yw_X10_init iw_RL_86 rfl rfl (Nat.le_of_ble_eq_true rfl) ⟨(Nat.le_of_ble_eq_true rfl), (Nat.le_of_ble_eq_true rfl)⟩ (mX10_init hfl h) rfl dL_law_12 (kV' (fun G4 h => ?_)) kN
  refine r_astoreR_n C 2 (lv' := [some (.ref a0), some (.ref (gH G)), some (.ref (gH G2)), none, none, none, none]) dL_law_15 rfl (Nat.le_of_ble_eq_true rfl) rfl rfl ?_
  refine r_iconst C 1 dL_law_16 (by decide) ?_
  obtain ⟨hr1, hr2, h⟩ := h
  refine r_newE C 1 (by decide) (by decide) (by decide) ac_long hr1 hr2 dL_law_17 ?_
  refine r_nm (fun G5 hG5 => ?_)
  replace h := h G5 hG5
  refine r_astoreR_n C 3 (lv' := [some (.ref a0), some (.ref (gH G)), some (.ref (gH G2)), some (.ref (gH G4)), none, none, none]) dL_law_19 rfl (Nat.le_of_ble_eq_true rfl) rfl rfl ?_
  refine r_iconst C 0 dL_law_20 (by decide) ?_
  refine r_istore C (lv' := [some (.ref a0), some (.ref (gH G)), some (.ref (gH G2)), some (.ref (gH G4)), some (.int 0), none, none]) dL_law_21 (Nat.le_of_ble_eq_true rfl) rfl rfl ?_
  obtain ⟨I, μ, hI, hS⟩ := h
  exact lL_law_23 B I μ hS _ _ _ _ _ _ _ (Nat.lt_succ_self _) hI
