/-! ===== the reference: frames ===== -/
/-- the bytes in the reference's frame -/
def MF (t : Tt) (l : List Nat) : Prop := tS t 362 = nI l.length ∧ l.length ≤ 42 ∧ (∀ k, k < l.length → tA t 9 k = nI (l.getD k 0)) ∧ ∀ b ∈ l, b < 256
/-- only the frame changes -/
def kF (t t' : Tt) : Prop := (∀ j, j ≠ 9 → tA t' j = tA t j) ∧ (∀ f, f ≠ 362 → tS t' f = tS t f) ∧ tJ t' = tJ t
theorem kF.rf {t : Tt} : kF t t := ⟨fun _ _ => rfl, fun _ _ => rfl, rfl⟩
theorem kF.tr {t t' t'' : Tt} (h : kF t t') (h' : kF t' t'') : kF t t'' := ⟨fun j hj => (h'.1 j hj).trans (h.1 j hj), fun f hf => (h'.2.1 f hf).trans (h.2.1 f hf), h'.2.2.trans h.2.2⟩
/-- frame and written values change -/
def kWr (t t' : Tt) : Prop := (∀ j, j ≠ 9 → j ≠ 11 → tA t' j = tA t j) ∧ (∀ f, f ≠ 362 → tS t' f = tS t f) ∧ tJ t' = tJ t
theorem kWr.tr {t t' t'' : Tt} (h : kWr t t') (h' : kWr t' t'') : kWr t t'' := ⟨fun j hj hk => (h'.1 j hj hk).trans (h.1 j hj hk), fun f hf => (h'.2.1 f hf).trans (h.2.1 f hf), h'.2.2.trans h.2.2⟩
theorem kWr.rf {t : Tt} : kWr t t := ⟨fun _ _ _ => rfl, fun _ _ => rfl, rfl⟩
theorem kF.w {t t' : Tt} (h : kF t t') : kWr t t' := ⟨fun j hj _ => h.1 j hj, h.2.1, h.2.2⟩
theorem kWr.sm {t t' : Tt} (h : kWr t t') : smL t t' := ⟨h.1 1 (by decide) (by decide), h.1 16 (by decide) (by decide), h.1 17 (by decide) (by decide), fun f hf => h.2.1 f (by omega)⟩
theorem MG.w {t t' : Tt} {M q dv iw lo hi : Nat} (h : MG t M q dv iw lo hi) (k : kWr t t') : MG t' M q dv iw lo hi := by
  unfold MG
  rw [k.2.2, k.2.1 _ (by decide), k.2.1 _ (by decide), k.2.1 _ (by decide), k.2.1 _ (by decide), k.2.1 _ (by decide)]
  exact h
section MFRAME
variable {X : Xt} {G : Gt} {m : Nat} {ℓ : Nat → Nat} {t : Tt} {S : St} {l : List Nat}
theorem m_R9 (h : ML G m ℓ) : gR (mk G m ℓ t) 361 m = some (ℓ 9) := h.2.1.2.2.1
theorem m_F (h : ML G m ℓ) : gT (mk G m ℓ t) (ℓ 9) = (2, 42) := h.2.2.1.2.2.1
theorem m_RW (h : ML G m ℓ) : gR (mk G m ℓ t) 363 m = some (ℓ 11) := h.2.1.2.2.2.1
theorem m_W (h : ML G m ℓ) : gT (mk G m ℓ t) (ℓ 11) = (2, 16) := h.2.2.1.2.2.2.1
theorem sm_puts {x : Nat} {Pr : Gt → Prop} (h : ML G m ℓ) (hf : MF t l) (hl : l.length < 42) (hx : x < 256) (k : ∀ t', MF t' (l ++ [x]) → kF t t' → Pr (mk G m ℓ t')) : wX10_puts X (mk G m ℓ t) m (nI x) Pr := by
  obtain ⟨f1, f2, f3, f4⟩ := hf
  unfold wX10_puts
  rw [ml_gI, f1]
  refine ⟨m_T h, ℓ 9, m_R9 h, m_T h, by rw [m_F h], by rw [m_F h]; exact n_in (show l.length < 42 from hl) (by decide), ?_⟩
  rw [n_cl (by omega), ml_gA9 h]
  intro G2 e2
  rw [ml_sA9 h] at e2
  subst e2
  refine ⟨m_T h, m_T h, ?_⟩
  rw [ml_gI, tS_uA, f1, nI_1]
  intro G3 e3
  rw [ml_sI] at e3
  subst e3
  refine k _ ⟨?_, by simp; omega, fun j hj => ?_, fun b hb => ?_⟩ ⟨fun j hj => ?_, fun f hf => ?_, rfl⟩
  · rw [tS_uS, if_pos rfl, List.length_append]; rfl
  · rw [tA_uS, tA_uA, if_pos rfl]
    have hj' : j < l.length + 1 := by simpa using hj
    by_cases e : j = l.length
    · subst e; rw [pk_us, gd_eq]
    · rw [pk_un e, gd_lt (by omega)]; exact f3 j (by omega)
  · rcases List.mem_append.mp hb with z | z
    · exact f4 b z
    · rw [List.mem_singleton.mp z]; exact hx
  · rw [tA_uS, tA_uA, if_neg hj]
  · rw [tS_uS, if_neg hf, tS_uA]
theorem sm_putsWord {x : Nat} {Pr : Gt → Prop} (h : ML G m ℓ) (hf : MF t l) (hl : l.length + 2 ≤ 42) (hx : x < 65536) (k : ∀ t', MF t' (l ++ [x / 256, x % 256]) → kF t t' → Pr (mk G m ℓ t')) : wX10_putsWord X (mk G m ℓ t) m (nI x) Pr := by
  unfold wX10_putsWord
  rw [n_shr8 (by omega), n_mod256 (by omega)]
  refine ⟨m_T h, sm_puts h hf (by omega) (by omega) (fun t1 f1 c1 => ⟨m_T h, sm_puts h f1 (by simp; omega) (by omega) (fun t2 f2 c2 => k t2 ?_ (c1.tr c2))⟩)⟩
  simpa using f2
theorem sm_seals {Pr : Gt → Prop} (h : ML G m ℓ) (hf : MF t l) (hl : l.length + 2 ≤ 42) (k : ∀ t', MF t' (seald l) → kF t t' → Pr (mk G m ℓ t')) : wX10_seals X (mk G m ℓ t) m Pr := by
  obtain ⟨f1, f2, f3, f4⟩ := id hf
  have hc : crcN 65535 l < 65536 := crcN_lt _ _ (by decide) f4
  refine ⟨fun g a0 x1 x2 => g = mk G m ℓ t ∧ a0 = m ∧ ∃ k, k ≤ l.length ∧ x2 = nI k ∧ x1 = nI (crcN 65535 (l.take k)), fun _ _ _ x2 => l.length - x2.toNatClampNeg, ⟨rfl, rfl, 0, by omega, rfl, rfl⟩, ?_⟩
  rintro g a0 x1 x2 ⟨rfl, rfl, i, hi, rfl, rfl⟩
  unfold wX10_seals_5
  rw [ml_gI, f1]
  have hci : crcN 65535 (l.take i) < 65536 := crcN_lt _ _ (by decide) (fun b hb => f4 b (List.mem_of_mem_take hb))
  refine ⟨m_T h, fun z => ⟨m_T h, ?_⟩, fun z => ⟨m_T h, ℓ 9, m_R9 h, by rw [m_F h], ?_, ?_⟩⟩
  · have z' : l.length ≤ i := (n_le (by omega) (by omega)).mp z
    rw [List.take_of_length_le z', n_mod256 (by omega), n_shr8 (by omega)]
    refine sm_puts h hf (by omega) (by omega) (fun t1 g1 c1 => ⟨m_T h, sm_puts h g1 (by simp; omega) (by omega) (fun t2 g2 c2 => k t2 ?_ (c1.tr c2))⟩)
    unfold seald
    simpa using g2
  · have z' : i < l.length := Nat.lt_of_not_le (fun e => z ((n_le (by omega) (by omega)).mpr e))
    rw [m_F h]; exact n_in (show i < 42 by omega) (by decide)
  · have z' : i < l.length := Nat.lt_of_not_le (fun e => z ((n_le (by omega) (by omega)).mpr e))
    have hb := gd_b f4 i
    rw [ml_gA9 h, n_cl (by omega), f3 i z']
    refine sp_stirred ⟨⟨rfl, rfl, i + 1, by omega, nI_1 i, ?_⟩, dec_up z' (by omega)⟩
    rw [n_xor, c8_n (x_lt hci (by omega)), tk_s z', crcN_app]
theorem sm_function {M q dv iw lo hi : Nat} {Pr : Int32 → Gt → Prop} (h : ML G m ℓ) (hg : MG t M q dv iw lo hi) (hiw : iw ≤ 1) (hl : lo ≤ hi) (hh : hi ≤ 2000) (hp : Pr (nI (fnc (iw == 1) (hi - lo))) (mk G m ℓ t)) : wX10_function X (mk G m ℓ t) m Pr := by
  obtain ⟨g1, g2, g3, g4, g5, g6⟩ := hg
  unfold wX10_function
  rw [ml_gI, ml_gI, ml_gI, g4, g5, g6, n_sub hl]
  unfold fnc at hp
  refine ⟨m_T h, fun z => ⟨m_T h, m_T h, fun z2 => ?_, fun z2 => ?_⟩, fun z => ?_⟩
  · have e : iw = 1 := by
      rcases (show iw = 0 ∨ iw = 1 by omega) with e | e
      · exact absurd (by rw [e]; rfl) z
      · exact e
    have e2 : hi - lo ≠ 1 := fun e => z2 (by rw [e]; rfl)
    rw [if_pos (by simp [e]), if_neg e2] at hp
    exact hp
  · have e : iw = 1 := by
      rcases (show iw = 0 ∨ iw = 1 by omega) with e | e
      · exact absurd (by rw [e]; rfl) z
      · exact e
    have e2 : hi - lo = 1 := n_inj (b := 1) (by omega) (by decide) z2
    rw [if_pos (by simp [e]), if_pos e2] at hp
    exact hp
  · have e : iw = 0 := n_inj (b := 0) (by omega) (by decide) z
    rw [if_neg (by simp [e])] at hp
    exact hp
/-- a group that the state may have -/
def GO (S : St) (g : Gp) : Prop := gM g < 2 ^ 40 ∧ glo g < ghi g ∧ ghi g ≤ 1016 ∧ ghi g - glo g ≤ (if zrq S (gq g) 4 = 1 then 8 else 16) ∧ mb (gM g) (gq g) = true ∧ (∀ i, mb (gM g) i = true → gq g ≤ i ∧ i < zn S 6 ∧ zrq S i 5 = 0 ∧ zrq S i 1 = zrq S (gq g) 1 ∧ zrq S i 4 = zrq S (gq g) 4 ∧ glo g ≤ zrq S i 2 ∧ zrq S i 2 + zrq S i 3 ≤ ghi g) ∧ (zrq S (gq g) 4 = 1 → ∀ r, glo g ≤ r → r < ghi g → ∃ i, mb (gM g) i = true ∧ zrq S i 2 = r) ∧ zrq S (gq g) 5 = 0 ∧ gq g < zn S 6
/-- the reference has gathered it -/
def MGs (t : Tt) (S : St) (g : Gp) : Prop := MG t (gM g) (gq g) (gdv S g) (zrq S (gq g) 4) (glo g) (ghi g)
/-- the written values are there -/
def MWs (t : Tt) (S : St) (g : Gp) : Prop := gw S g = true → ∀ j, j < gwd g → tA t 11 j = nI (gwr S g j)
theorem gw_iff {g : Gp} : gw S g = true ↔ zrq S (gq g) 4 = 1 := by
  show (zrq S (gq g) 4 == 1) = true ↔ _
  simp
theorem sm_fr113 {g : Gp} {Pr : Gt → Prop} (h : ML G m ℓ) (hw : WF S) (ho : GO S g) (hg : MGs t S g) (hmw : MWs t S g) (k : ∀ t', MF t' (gfb S g) → kF t t' → Pr (mk G m ℓ t')) : wX10_frames_113 X Pr (mk G m ℓ t) m := by
  obtain ⟨o1, o2, o3, o4, o5, o6, o7, o8, o9⟩ := id ho
  obtain ⟨q40, w0, w1, w2, w3, w4, w5, w6, w7, w8, _⟩ := wf_rq hw o9
  have hw16 : gwd g ≤ 16 := by unfold gwd; split at o4 <;> omega
  have hw1 : 1 ≤ gwd g := by unfold gwd; omega
  have hwr : ∀ j, gwr S g j < 65536 := fun j => wvk_lt hw.2.2.1.1 _ (by omega)
  have mg : ∀ {t' : Tt}, kF t t' → MGs t' S g := fun c => hg.w c.w
  have fv := fnc_v (gw S g) (gwd g)
  have fn : ∀ {t' : Tt} {P : Int32 → Gt → Prop}, kF t t' → P (nI (fnc (gw S g) (gwd g))) (mk G m ℓ t') → wX10_function X (mk G m ℓ t') m P := fun c p => sm_function h (mg c) w6 (by omega) (by omega) p
  refine ⟨m_T h, ?_⟩
  intro G1 e1
  rw [ml_sI] at e1
  subst e1
  have c0 : kF t (uS t 362 0) := ⟨fun _ _ => rfl, fun f hf => by rw [tS_uS, if_neg hf], rfl⟩
  have f0 : MF (uS t 362 0) [] := ⟨by rw [tS_uS, if_pos rfl]; rfl, by simp, fun k hk => by simp at hk, fun b hb => by simp at hb⟩
  have hdv : gdv S g < 256 := by show zrq S (gq g) 1 < 256; omega
  refine ⟨m_T h, m_T h, ?_⟩
  rw [ml_gI, (mg c0).2.2.1]
  refine sm_puts h f0 (by simp) hdv (fun t1 f1 c1 => ⟨m_T h, fn (c0.tr c1) ⟨m_T h, sm_puts h f1 (by simp) (by omega) (fun t2 f2 c2 => ⟨m_T h, m_T h, ?_⟩)⟩⟩)
  have c02 := (c0.tr c1).tr c2
  rw [ml_gI, (mg c02).2.2.2.2.1]
  refine sm_putsWord h f2 (by simp) (by omega) (fun t3 f3 c3 => ⟨m_T h, ?_⟩)
  have c03 := c02.tr c3
  refine fn c03 ?_
  -- behind the second word
  have l177 : ∀ (t4 : Tt) (x : Nat), x = (if gw S g && gwd g == 1 then gwr S g 0 else gwd g) → MF t4 ([gdv S g, fnc (gw S g) (gwd g), glo g / 256, glo g % 256] ++ [x / 256, x % 256]) → kF t t4 → wX10_frames_177 X Pr (mk G m ℓ t4) m := by
    intro t4 x hx f4 c4
    refine ⟨m_T h, fn c4 ⟨fun z => ⟨m_T h, ?_⟩, fun z => ⟨m_T h, m_T h, m_T h, ?_⟩⟩⟩
    · have n16 : fnc (gw S g) (gwd g) ≠ 16 := fun e => z (by rw [e]; rfl)
      refine sm_seals h f4 (by simp) (fun t5 f5 c5 => k t5 ?_ (c4.tr c5))
      have eb : [gdv S g, fnc (gw S g) (gwd g), glo g / 256, glo g % 256] ++ [x / 256, x % 256] = fbody (gdv S g) (glo g) (gwd g) (gw S g) (gwr S g) := by
        unfold fbody fnc at *
        cases hb : gw S g with
        | false => rw [hb] at hx; simp at hx; simp [hx]
        | true =>
          rw [hb] at hx n16
          rw [if_pos rfl] at n16
          by_cases e : gwd g = 1
          · simp [e] at hx
            simp [e, hx]
          · rw [if_neg e] at n16
            exact absurd rfl n16
      rw [eb] at f5
      exact f5
    · have e16 : fnc (gw S g) (gwd g) = 16 := n_inj (b := 16) (by omega) (by decide) z
      have hb : gw S g = true := by
        cases hb : gw S g with
        | true => rfl
        | false => rw [hb] at e16; exact absurd (show (3 : Nat) = 16 from e16) (by decide)
      have hn1 : gwd g ≠ 1 := fun e => by
        unfold fnc at e16
        rw [if_pos hb, if_pos e] at e16
        exact absurd e16 (by decide)
      have w8' : gwd g ≤ 8 := by rw [if_pos (gw_iff.mp hb)] at o4; exact o4
      have hx' : x = gwd g := by rw [hx, if_neg (by simp [hn1])]
      rw [ml_gI, ml_gI, (mg c4).2.2.2.2.1, (mg c4).2.2.2.2.2, n_sub (by omega), show (2 : Int32) * nI (ghi g - glo g) = nI (2 * (ghi g - glo g)) from pk_mul 2 _]
      refine sm_puts h f4 (by simp) (by show 2 * gwd g < 256; omega) (fun t5 f5 c5 => ⟨m_T h, ?_⟩)
      have c05 := c4.tr c5
      rw [ml_gI, (mg c05).2.2.2.2.1]
      refine ⟨fun g' a0 x1 => a0 = m ∧ ∃ i T, g' = mk G m ℓ T ∧ x1 = nI (glo g + i) ∧ i ≤ gwd g ∧ kF t T ∧ MF T ([gdv S g, fnc (gw S g) (gwd g), glo g / 256, glo g % 256] ++ [x / 256, x % 256] ++ [2 * (ghi g - glo g)] ++ wrds (gwr S g) i), fun _ _ x1 => ghi g - x1.toNatClampNeg, ⟨rfl, 0, t5, rfl, rfl, by omega, c05, by simpa [wrds] using f5⟩, ?_⟩
      rintro g' a0 x1 ⟨rfl, i, T, rfl, rfl, hi, cT, fT⟩
      have hgh : ghi g = glo g + gwd g := by unfold gwd; omega
      unfold wX10_frames_206
      rw [ml_gI, ml_gI, (mg cT).2.2.2.2.1, (mg cT).2.2.2.2.2, n_le (by omega) (by omega), n_sub (show glo g ≤ glo g + i by omega), show glo g + i - glo g = i by omega]
      refine ⟨m_T h, fun z => ⟨m_T h, ?_⟩, fun z => ⟨m_T h, ℓ 11, m_RW h, m_T h, by rw [m_W h], by rw [m_W h]; exact n_in (show i < 16 by omega) (by decide), m_T h, ?_⟩⟩
      · have ei : i = gwd g := by omega
        subst ei
        refine sm_seals h fT (by simp [wrds_len]; omega) (fun t6 f6 c6 => k t6 ?_ (cT.tr c6))
        have eb : [gdv S g, fnc (gw S g) (gwd g), glo g / 256, glo g % 256] ++ [x / 256, x % 256] ++ [2 * (ghi g - glo g)] ++ wrds (gwr S g) (gwd g) = fbody (gdv S g) (glo g) (gwd g) (gw S g) (gwr S g) := by
          unfold fbody
          rw [if_pos hb, if_neg hn1, e16, hx']
          show _ = [gdv S g, 16, glo g / 256, glo g % 256, gwd g / 256, gwd g % 256, 2 * gwd g] ++ wrds (gwr S g) (gwd g)
          simp [gwd]
        rw [eb] at f6
        exact f6
      · rw [ml_gA11 h, n_cl (by omega), cT.1 11 (by decide), hmw hb i (by omega)]
        refine sm_putsWord h fT (by simp [wrds_len]; omega) (hwr i) (fun t6 f6 c6 => ⟨⟨rfl, i + 1, t6, rfl, nI_1 _, by omega, cT.tr c6, ?_⟩, dec_up (by omega) (by omega)⟩)
        rw [List.append_assoc] at f6
        exact f6
  refine ⟨fun z => ⟨m_T h, m_T h, m_T h, ?_⟩, fun z => ⟨m_T h, ℓ 11, m_RW h, by rw [m_W h], by rw [m_W h]; exact n_in (i := 0) (by decide) (by decide), m_T h, ?_⟩⟩
  · have n6 : fnc (gw S g) (gwd g) ≠ 6 := fun e => z (by rw [e]; rfl)
    rw [ml_gI, ml_gI, (mg c03).2.2.2.2.1, (mg c03).2.2.2.2.2, n_sub (by omega)]
    refine sm_putsWord h f3 (by simp) (by show gwd g < 65536; omega) (fun t4 f4 c4 => l177 t4 (gwd g) ?_ (by simpa [gwd] using f4) (c03.tr c4))
    cases hb : gw S g with
    | false => simp
    | true =>
      have : gwd g ≠ 1 := fun e => n6 (by unfold fnc; rw [if_pos hb, if_pos e])
      simp [this]
  · have e6 : fnc (gw S g) (gwd g) = 6 := n_inj (b := 6) (by omega) (by decide) z
    have hb : gw S g = true := by
      cases hb : gw S g with
      | true => rfl
      | false => rw [hb] at e6; exact absurd (show (3 : Nat) = 6 from e6) (by decide)
    have e1 : gwd g = 1 := by
      unfold fnc at e6
      rw [if_pos hb] at e6
      by_cases e : gwd g = 1
      · exact e
      · rw [if_neg e] at e6; exact absurd e6 (by decide)
    rw [ml_gA11 h, show (0 : Int32).toNatClampNeg = 0 from rfl, c03.1 11 (by decide), hmw hb 0 (by omega)]
    refine sm_putsWord h f3 (by simp) (hwr 0) (fun t4 f4 c4 => l177 t4 (gwr S g 0) (by rw [hb, e1]; rfl) (by simpa using f4) (c03.tr c4))
end MFRAME
