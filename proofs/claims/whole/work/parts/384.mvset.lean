/-! ===== the reference: one cell of its array is set (written by wip/whole/mkmv.py) ===== -/
def urg (S : St) (f : Nat → Nat → Nat) : St := mkS (zn S) f (zro S) (ztp S) (zdl S) (zfl S) (zrq S) (zW S) (zV S) (zcf S) (zcv S) (zct S) (zL S)
def uro (S : St) (f : Nat → Nat → Nat) : St := mkS (zn S) (zrg S) f (ztp S) (zdl S) (zfl S) (zrq S) (zW S) (zV S) (zcf S) (zcv S) (zct S) (zL S)
def utp (S : St) (f : Nat → Nat) : St := mkS (zn S) (zrg S) (zro S) f (zdl S) (zfl S) (zrq S) (zW S) (zV S) (zcf S) (zcv S) (zct S) (zL S)
def udl (S : St) (f : Nat → Nat) : St := mkS (zn S) (zrg S) (zro S) (ztp S) f (zfl S) (zrq S) (zW S) (zV S) (zcf S) (zcv S) (zct S) (zL S)
def ufl (S : St) (f : Nat → Fl) : St := mkS (zn S) (zrg S) (zro S) (ztp S) (zdl S) f (zrq S) (zW S) (zV S) (zcf S) (zcv S) (zct S) (zL S)
def urq (S : St) (f : Nat → Nat → Nat) : St := mkS (zn S) (zrg S) (zro S) (ztp S) (zdl S) (zfl S) f (zW S) (zV S) (zcf S) (zcv S) (zct S) (zL S)
def uWh (S : St) (f : Nat → Int32) : St := mkS (zn S) (zrg S) (zro S) (ztp S) (zdl S) (zfl S) (zrq S) f (zV S) (zcf S) (zcv S) (zct S) (zL S)
def uVl (S : St) (f : Nat → Nat → Nat) : St := mkS (zn S) (zrg S) (zro S) (ztp S) (zdl S) (zfl S) (zrq S) (zW S) f (zcf S) (zcv S) (zct S) (zL S)
def ucf (S : St) (f : Nat → Nat) : St := mkS (zn S) (zrg S) (zro S) (ztp S) (zdl S) (zfl S) (zrq S) (zW S) (zV S) f (zcv S) (zct S) (zL S)
def ucv (S : St) (f : Nat → Nat) : St := mkS (zn S) (zrg S) (zro S) (ztp S) (zdl S) (zfl S) (zrq S) (zW S) (zV S) (zcf S) f (zct S) (zL S)
def uct (S : St) (f : Nat → Nat) : St := mkS (zn S) (zrg S) (zro S) (ztp S) (zdl S) (zfl S) (zrq S) (zW S) (zV S) (zcf S) (zcv S) f (zL S)
def uL (S : St) (L : List Rp) : St := mkS (zn S) (zrg S) (zro S) (ztp S) (zdl S) (zfl S) (zrq S) (zW S) (zV S) (zcf S) (zcv S) (zct S) L
section MVSET
variable {v : Nat → Int32} {S : St}
theorem MV.rg (h : MV v S) (h6 : ∀ d, (zfl S d).length ≤ 6) {d r x : Nat} (hd : 1 ≤ d ∧ d ≤ 3) (hr : r < 32) : MV (upd v (20 + plc d r) (nI x)) (urg S (va_up (zrg S) d (va_up (zrg S d) r x))) := by
  obtain ⟨a1, a2, a3, a4, a5, a6, a7⟩ := h
  have hp := plc_lt hd hr
  refine ⟨fun i hi hi9 => ?_, ?_, fun d' r' h1 h2 h3 => ?_, fun d' h1 h2 => ?_, fun i' hi' => ?_, fun p' hp' => ?_, fun k' hk' => ?_⟩
  · rw [pk_un (by omega)]; exact a1 i hi hi9
  · rw [pk_un (by omega)]; exact a2
  · have hp' := plc_lt ⟨h1, h2⟩ h3
    have ij : plc d' r' = plc d r → d' = d ∧ r' = r := fun e => by unfold plc at e; omega
    rw [pk_un (j := 120 + plc d' r') (by omega)]
    show _ = nI (va_up (zrg S) d (va_up (zrg S d) r x) d' r') ∧ _
    by_cases e : d' = d
    · subst e
      rw [va_up_self]
      by_cases e2 : r' = r
      · subst e2; rw [pk_us, va_up_self]; exact ⟨rfl, (a3 d' r' h1 h2 h3).2⟩
      · rw [pk_un (fun q => e2 (ij (by omega)).2), va_up_ne _ _ e2]; exact a3 d' r' h1 h2 h3
    · rw [pk_un (fun q => e (ij (by omega)).1), va_up_ne _ _ e]; exact a3 d' r' h1 h2 h3
  · obtain ⟨b1, b2, b3, b4⟩ := a4 d' h1 h2
    refine ⟨by rw [pk_un (by omega)]; exact b1, by rw [pk_un (by omega)]; exact b2, by rw [pk_un (by omega)]; exact b3, fun k hk => ?_⟩
    have hk6 : k < 6 := Nat.lt_of_lt_of_le hk (h6 d')
    rw [pk_un (by omega), pk_un (by omega)]; exact b4 k hk
  · obtain ⟨b1, b2, b3⟩ := a5 i' hi'
    refine ⟨fun k q1 q2 => by rw [pk_un (by omega)]; exact b1 k q1 q2, by rw [pk_un (by omega)]; exact b2, fun k hk => by rw [pk_un (by omega)]; exact b3 k hk⟩
  · rw [pk_un (by omega), pk_un (by omega), pk_un (by omega)]; exact a6 p' hp'
  · obtain ⟨b1, b2, b3, b4⟩ := a7 k' hk'
    refine ⟨by rw [pk_un (by omega)]; exact b1, by rw [pk_un (by omega)]; exact b2, by rw [pk_un (by omega)]; exact b3, fun j hj => by rw [pk_un (by omega)]; exact b4 j hj⟩
theorem MV.ro (h : MV v S) (h6 : ∀ d, (zfl S d).length ≤ 6) {d r x : Nat} (hd : 1 ≤ d ∧ d ≤ 3) (hr : r < 32) : MV (upd v (120 + plc d r) (nI x)) (uro S (va_up (zro S) d (va_up (zro S d) r x))) := by
  obtain ⟨a1, a2, a3, a4, a5, a6, a7⟩ := h
  have hp := plc_lt hd hr
  refine ⟨fun i hi hi9 => ?_, ?_, fun d' r' h1 h2 h3 => ?_, fun d' h1 h2 => ?_, fun i' hi' => ?_, fun p' hp' => ?_, fun k' hk' => ?_⟩
  · rw [pk_un (by omega)]; exact a1 i hi hi9
  · rw [pk_un (by omega)]; exact a2
  · have hp' := plc_lt ⟨h1, h2⟩ h3
    have ij : plc d' r' = plc d r → d' = d ∧ r' = r := fun e => by unfold plc at e; omega
    rw [pk_un (j := 20 + plc d' r') (by omega)]
    show _ ∧ _ = nI (va_up (zro S) d (va_up (zro S d) r x) d' r')
    by_cases e : d' = d
    · subst e
      rw [va_up_self]
      by_cases e2 : r' = r
      · subst e2; rw [pk_us, va_up_self]; exact ⟨(a3 d' r' h1 h2 h3).1, rfl⟩
      · rw [pk_un (fun q => e2 (ij (by omega)).2), va_up_ne _ _ e2]; exact a3 d' r' h1 h2 h3
    · rw [pk_un (fun q => e (ij (by omega)).1), va_up_ne _ _ e]; exact a3 d' r' h1 h2 h3
  · obtain ⟨b1, b2, b3, b4⟩ := a4 d' h1 h2
    refine ⟨by rw [pk_un (by omega)]; exact b1, by rw [pk_un (by omega)]; exact b2, by rw [pk_un (by omega)]; exact b3, fun k hk => ?_⟩
    have hk6 : k < 6 := Nat.lt_of_lt_of_le hk (h6 d')
    rw [pk_un (by omega), pk_un (by omega)]; exact b4 k hk
  · obtain ⟨b1, b2, b3⟩ := a5 i' hi'
    refine ⟨fun k q1 q2 => by rw [pk_un (by omega)]; exact b1 k q1 q2, by rw [pk_un (by omega)]; exact b2, fun k hk => by rw [pk_un (by omega)]; exact b3 k hk⟩
  · rw [pk_un (by omega), pk_un (by omega), pk_un (by omega)]; exact a6 p' hp'
  · obtain ⟨b1, b2, b3, b4⟩ := a7 k' hk'
    refine ⟨by rw [pk_un (by omega)]; exact b1, by rw [pk_un (by omega)]; exact b2, by rw [pk_un (by omega)]; exact b3, fun j hj => by rw [pk_un (by omega)]; exact b4 j hj⟩
theorem MV.tp (h : MV v S) (h6 : ∀ d, (zfl S d).length ≤ 6) {d x : Nat} (hd : 1 ≤ d ∧ d ≤ 3) : MV (upd v (219 + d) (nI x)) (utp S (va_up (ztp S) d x)) := by
  obtain ⟨a1, a2, a3, a4, a5, a6, a7⟩ := h
  refine ⟨fun i hi hi9 => ?_, ?_, fun d' r' h1 h2 h3 => ?_, fun d' h1 h2 => ?_, fun i' hi' => ?_, fun p' hp' => ?_, fun k' hk' => ?_⟩
  · rw [pk_un (by omega)]; exact a1 i hi hi9
  · rw [pk_un (by omega)]; exact a2
  · have hp' := plc_lt ⟨h1, h2⟩ h3
    rw [pk_un (by omega), pk_un (by omega)]; exact a3 d' r' h1 h2 h3
  · obtain ⟨b1, b2, b3, b4⟩ := a4 d' h1 h2
    have b4' : ∀ k, k < (zfl S d').length → upd v (219 + d) (nI x) (217 + 13 * d' + 1 + 2 * k) = nI ((zfl S d').getD k (0, 0)).1 ∧ upd v (219 + d) (nI x) (217 + 13 * d' + 2 + 2 * k) = nI ((zfl S d').getD k (0, 0)).2 := fun k hk => by
      have hk6 : k < 6 := Nat.lt_of_lt_of_le hk (h6 d')
      rw [pk_un (by omega), pk_un (by omega)]; exact b4 k hk
    by_cases e : d' = d
    · subst e
      exact ⟨by rw [pk_us]; show _ = nI (va_up (ztp S) d' x d'); rw [va_up_self], by rw [pk_un (by omega)]; exact b2, by rw [pk_un (by omega)]; exact b3, b4'⟩
    · exact ⟨by rw [pk_un (by omega)]; show _ = nI (va_up (ztp S) d x d'); rw [va_up_ne _ _ e]; exact b1, by rw [pk_un (by omega)]; exact b2, by rw [pk_un (by omega)]; exact b3, b4'⟩
  · obtain ⟨b1, b2, b3⟩ := a5 i' hi'
    refine ⟨fun k q1 q2 => by rw [pk_un (by omega)]; exact b1 k q1 q2, by rw [pk_un (by omega)]; exact b2, fun k hk => by rw [pk_un (by omega)]; exact b3 k hk⟩
  · rw [pk_un (by omega), pk_un (by omega), pk_un (by omega)]; exact a6 p' hp'
  · obtain ⟨b1, b2, b3, b4⟩ := a7 k' hk'
    refine ⟨by rw [pk_un (by omega)]; exact b1, by rw [pk_un (by omega)]; exact b2, by rw [pk_un (by omega)]; exact b3, fun j hj => by rw [pk_un (by omega)]; exact b4 j hj⟩
theorem MV.dl (h : MV v S) (h6 : ∀ d, (zfl S d).length ≤ 6) {d x : Nat} (hd : 1 ≤ d ∧ d ≤ 3) : MV (upd v (223 + d) (nI x)) (udl S (va_up (zdl S) d x)) := by
  obtain ⟨a1, a2, a3, a4, a5, a6, a7⟩ := h
  refine ⟨fun i hi hi9 => ?_, ?_, fun d' r' h1 h2 h3 => ?_, fun d' h1 h2 => ?_, fun i' hi' => ?_, fun p' hp' => ?_, fun k' hk' => ?_⟩
  · rw [pk_un (by omega)]; exact a1 i hi hi9
  · rw [pk_un (by omega)]; exact a2
  · have hp' := plc_lt ⟨h1, h2⟩ h3
    rw [pk_un (by omega), pk_un (by omega)]; exact a3 d' r' h1 h2 h3
  · obtain ⟨b1, b2, b3, b4⟩ := a4 d' h1 h2
    have b4' : ∀ k, k < (zfl S d').length → upd v (223 + d) (nI x) (217 + 13 * d' + 1 + 2 * k) = nI ((zfl S d').getD k (0, 0)).1 ∧ upd v (223 + d) (nI x) (217 + 13 * d' + 2 + 2 * k) = nI ((zfl S d').getD k (0, 0)).2 := fun k hk => by
      have hk6 : k < 6 := Nat.lt_of_lt_of_le hk (h6 d')
      rw [pk_un (by omega), pk_un (by omega)]; exact b4 k hk
    by_cases e : d' = d
    · subst e
      exact ⟨by rw [pk_un (by omega)]; exact b1, by rw [pk_us]; show _ = nI (va_up (zdl S) d' x d'); rw [va_up_self], by rw [pk_un (by omega)]; exact b3, b4'⟩
    · exact ⟨by rw [pk_un (by omega)]; exact b1, by rw [pk_un (by omega)]; show _ = nI (va_up (zdl S) d x d'); rw [va_up_ne _ _ e]; exact b2, by rw [pk_un (by omega)]; exact b3, b4'⟩
  · obtain ⟨b1, b2, b3⟩ := a5 i' hi'
    refine ⟨fun k q1 q2 => by rw [pk_un (by omega)]; exact b1 k q1 q2, by rw [pk_un (by omega)]; exact b2, fun k hk => by rw [pk_un (by omega)]; exact b3 k hk⟩
  · rw [pk_un (by omega), pk_un (by omega), pk_un (by omega)]; exact a6 p' hp'
  · obtain ⟨b1, b2, b3, b4⟩ := a7 k' hk'
    refine ⟨by rw [pk_un (by omega)]; exact b1, by rw [pk_un (by omega)]; exact b2, by rw [pk_un (by omega)]; exact b3, fun j hj => by rw [pk_un (by omega)]; exact b4 j hj⟩
theorem MV.rq (h : MV v S) (h6 : ∀ d, (zfl S d).length ≤ 6) {n f x : Nat} (hn : n < 40) (hf : f < 10) (hf7 : f ≠ 7) : MV (upd v (280 + 12 * n + f) (nI x)) (urq S (va_up (zrq S) n (va_up (zrq S n) f x))) := by
  obtain ⟨a1, a2, a3, a4, a5, a6, a7⟩ := h
  refine ⟨fun i hi hi9 => ?_, ?_, fun d' r' h1 h2 h3 => ?_, fun d' h1 h2 => ?_, fun i' hi' => ?_, fun p' hp' => ?_, fun k' hk' => ?_⟩
  · rw [pk_un (by omega)]; exact a1 i hi hi9
  · rw [pk_un (by omega)]; exact a2
  · have hp' := plc_lt ⟨h1, h2⟩ h3
    rw [pk_un (by omega), pk_un (by omega)]; exact a3 d' r' h1 h2 h3
  · obtain ⟨b1, b2, b3, b4⟩ := a4 d' h1 h2
    refine ⟨by rw [pk_un (by omega)]; exact b1, by rw [pk_un (by omega)]; exact b2, by rw [pk_un (by omega)]; exact b3, fun k hk => ?_⟩
    have hk6 : k < 6 := Nat.lt_of_lt_of_le hk (h6 d')
    rw [pk_un (by omega), pk_un (by omega)]; exact b4 k hk
  · obtain ⟨b1, b2, b3⟩ := a5 i' hi'
    refine ⟨fun k q1 q2 => ?_, by rw [pk_un (by omega)]; exact b2, fun k hk => by rw [pk_un (by omega)]; exact b3 k hk⟩
    show _ = nI (va_up (zrq S) n (va_up (zrq S n) f x) i' k)
    by_cases e : i' = n
    · subst e
      rw [va_up_self]
      by_cases e2 : k = f
      · subst e2; rw [pk_us, va_up_self]
      · rw [pk_un (by omega), va_up_ne _ _ e2]; exact b1 k q1 q2
    · rw [pk_un (by omega), va_up_ne _ _ e]; exact b1 k q1 q2
  · rw [pk_un (by omega), pk_un (by omega), pk_un (by omega)]; exact a6 p' hp'
  · obtain ⟨b1, b2, b3, b4⟩ := a7 k' hk'
    refine ⟨by rw [pk_un (by omega)]; exact b1, by rw [pk_un (by omega)]; exact b2, by rw [pk_un (by omega)]; exact b3, fun j hj => by rw [pk_un (by omega)]; exact b4 j hj⟩
theorem MV.Wh (h : MV v S) (h6 : ∀ d, (zfl S d).length ≤ 6) {n : Nat} {x : Int32} (hn : n < 40) : MV (upd v (280 + 12 * n + 7) (x)) (uWh S (va_up (zW S) n x)) := by
  obtain ⟨a1, a2, a3, a4, a5, a6, a7⟩ := h
  refine ⟨fun i hi hi9 => ?_, ?_, fun d' r' h1 h2 h3 => ?_, fun d' h1 h2 => ?_, fun i' hi' => ?_, fun p' hp' => ?_, fun k' hk' => ?_⟩
  · rw [pk_un (by omega)]; exact a1 i hi hi9
  · rw [pk_un (by omega)]; exact a2
  · have hp' := plc_lt ⟨h1, h2⟩ h3
    rw [pk_un (by omega), pk_un (by omega)]; exact a3 d' r' h1 h2 h3
  · obtain ⟨b1, b2, b3, b4⟩ := a4 d' h1 h2
    refine ⟨by rw [pk_un (by omega)]; exact b1, by rw [pk_un (by omega)]; exact b2, by rw [pk_un (by omega)]; exact b3, fun k hk => ?_⟩
    have hk6 : k < 6 := Nat.lt_of_lt_of_le hk (h6 d')
    rw [pk_un (by omega), pk_un (by omega)]; exact b4 k hk
  · obtain ⟨b1, b2, b3⟩ := a5 i' hi'
    refine ⟨fun k q1 q2 => by rw [pk_un (by omega)]; exact b1 k q1 q2, ?_, fun k hk => by rw [pk_un (by omega)]; exact b3 k hk⟩
    show _ = va_up (zW S) n x i'
    by_cases e : i' = n
    · subst e; rw [pk_us, va_up_self]
    · rw [pk_un (by omega), va_up_ne _ _ e]; exact b2
  · rw [pk_un (by omega), pk_un (by omega), pk_un (by omega)]; exact a6 p' hp'
  · obtain ⟨b1, b2, b3, b4⟩ := a7 k' hk'
    refine ⟨by rw [pk_un (by omega)]; exact b1, by rw [pk_un (by omega)]; exact b2, by rw [pk_un (by omega)]; exact b3, fun j hj => by rw [pk_un (by omega)]; exact b4 j hj⟩
theorem MV.Vl (h : MV v S) (h6 : ∀ d, (zfl S d).length ≤ 6) {n f x : Nat} (hn : n < 40) (hf : f < 16) : MV (upd v (760 + 16 * n + f) (nI x)) (uVl S (va_up (zV S) n (va_up (zV S n) f x))) := by
  obtain ⟨a1, a2, a3, a4, a5, a6, a7⟩ := h
  refine ⟨fun i hi hi9 => ?_, ?_, fun d' r' h1 h2 h3 => ?_, fun d' h1 h2 => ?_, fun i' hi' => ?_, fun p' hp' => ?_, fun k' hk' => ?_⟩
  · rw [pk_un (by omega)]; exact a1 i hi hi9
  · rw [pk_un (by omega)]; exact a2
  · have hp' := plc_lt ⟨h1, h2⟩ h3
    rw [pk_un (by omega), pk_un (by omega)]; exact a3 d' r' h1 h2 h3
  · obtain ⟨b1, b2, b3, b4⟩ := a4 d' h1 h2
    refine ⟨by rw [pk_un (by omega)]; exact b1, by rw [pk_un (by omega)]; exact b2, by rw [pk_un (by omega)]; exact b3, fun k hk => ?_⟩
    have hk6 : k < 6 := Nat.lt_of_lt_of_le hk (h6 d')
    rw [pk_un (by omega), pk_un (by omega)]; exact b4 k hk
  · obtain ⟨b1, b2, b3⟩ := a5 i' hi'
    refine ⟨fun k q1 q2 => by rw [pk_un (by omega)]; exact b1 k q1 q2, by rw [pk_un (by omega)]; exact b2, fun k hk => ?_⟩
    show _ = nI (va_up (zV S) n (va_up (zV S n) f x) i' k)
    by_cases e : i' = n
    · subst e
      rw [va_up_self]
      by_cases e2 : k = f
      · subst e2; rw [pk_us, va_up_self]
      · rw [pk_un (by omega), va_up_ne _ _ e2]; exact b3 k hk
    · rw [pk_un (by omega), va_up_ne _ _ e]; exact b3 k hk
  · rw [pk_un (by omega), pk_un (by omega), pk_un (by omega)]; exact a6 p' hp'
  · obtain ⟨b1, b2, b3, b4⟩ := a7 k' hk'
    refine ⟨by rw [pk_un (by omega)]; exact b1, by rw [pk_un (by omega)]; exact b2, by rw [pk_un (by omega)]; exact b3, fun j hj => by rw [pk_un (by omega)]; exact b4 j hj⟩
theorem MV.cf (h : MV v S) (h6 : ∀ d, (zfl S d).length ≤ 6) {p x : Nat} (hp : p < 96) : MV (upd v (1400 + 3 * p) (nI x)) (ucf S (va_up (zcf S) p x)) := by
  obtain ⟨a1, a2, a3, a4, a5, a6, a7⟩ := h
  refine ⟨fun i hi hi9 => ?_, ?_, fun d' r' h1 h2 h3 => ?_, fun d' h1 h2 => ?_, fun i' hi' => ?_, fun p' hp' => ?_, fun k' hk' => ?_⟩
  · rw [pk_un (by omega)]; exact a1 i hi hi9
  · rw [pk_un (by omega)]; exact a2
  · have hp' := plc_lt ⟨h1, h2⟩ h3
    rw [pk_un (by omega), pk_un (by omega)]; exact a3 d' r' h1 h2 h3
  · obtain ⟨b1, b2, b3, b4⟩ := a4 d' h1 h2
    refine ⟨by rw [pk_un (by omega)]; exact b1, by rw [pk_un (by omega)]; exact b2, by rw [pk_un (by omega)]; exact b3, fun k hk => ?_⟩
    have hk6 : k < 6 := Nat.lt_of_lt_of_le hk (h6 d')
    rw [pk_un (by omega), pk_un (by omega)]; exact b4 k hk
  · obtain ⟨b1, b2, b3⟩ := a5 i' hi'
    refine ⟨fun k q1 q2 => by rw [pk_un (by omega)]; exact b1 k q1 q2, by rw [pk_un (by omega)]; exact b2, fun k hk => by rw [pk_un (by omega)]; exact b3 k hk⟩
  · refine ⟨?_, by rw [pk_un (by omega)]; exact (a6 p' hp').2.1, by rw [pk_un (by omega)]; exact (a6 p' hp').2.2⟩
    show _ = nI (va_up (zcf S) p x p')
    by_cases e : p' = p
    · subst e; rw [pk_us, va_up_self]
    · rw [pk_un (by omega), va_up_ne _ _ e]; exact (a6 p' hp').1
  · obtain ⟨b1, b2, b3, b4⟩ := a7 k' hk'
    refine ⟨by rw [pk_un (by omega)]; exact b1, by rw [pk_un (by omega)]; exact b2, by rw [pk_un (by omega)]; exact b3, fun j hj => by rw [pk_un (by omega)]; exact b4 j hj⟩
theorem MV.cv (h : MV v S) (h6 : ∀ d, (zfl S d).length ≤ 6) {p x : Nat} (hp : p < 96) : MV (upd v (1400 + 3 * p + 1) (nI x)) (ucv S (va_up (zcv S) p x)) := by
  obtain ⟨a1, a2, a3, a4, a5, a6, a7⟩ := h
  refine ⟨fun i hi hi9 => ?_, ?_, fun d' r' h1 h2 h3 => ?_, fun d' h1 h2 => ?_, fun i' hi' => ?_, fun p' hp' => ?_, fun k' hk' => ?_⟩
  · rw [pk_un (by omega)]; exact a1 i hi hi9
  · rw [pk_un (by omega)]; exact a2
  · have hp' := plc_lt ⟨h1, h2⟩ h3
    rw [pk_un (by omega), pk_un (by omega)]; exact a3 d' r' h1 h2 h3
  · obtain ⟨b1, b2, b3, b4⟩ := a4 d' h1 h2
    refine ⟨by rw [pk_un (by omega)]; exact b1, by rw [pk_un (by omega)]; exact b2, by rw [pk_un (by omega)]; exact b3, fun k hk => ?_⟩
    have hk6 : k < 6 := Nat.lt_of_lt_of_le hk (h6 d')
    rw [pk_un (by omega), pk_un (by omega)]; exact b4 k hk
  · obtain ⟨b1, b2, b3⟩ := a5 i' hi'
    refine ⟨fun k q1 q2 => by rw [pk_un (by omega)]; exact b1 k q1 q2, by rw [pk_un (by omega)]; exact b2, fun k hk => by rw [pk_un (by omega)]; exact b3 k hk⟩
  · refine ⟨by rw [pk_un (by omega)]; exact (a6 p' hp').1, ?_, by rw [pk_un (by omega)]; exact (a6 p' hp').2.2⟩
    show _ = nI (va_up (zcv S) p x p')
    by_cases e : p' = p
    · subst e; rw [pk_us, va_up_self]
    · rw [pk_un (by omega), va_up_ne _ _ e]; exact (a6 p' hp').2.1
  · obtain ⟨b1, b2, b3, b4⟩ := a7 k' hk'
    refine ⟨by rw [pk_un (by omega)]; exact b1, by rw [pk_un (by omega)]; exact b2, by rw [pk_un (by omega)]; exact b3, fun j hj => by rw [pk_un (by omega)]; exact b4 j hj⟩
theorem MV.ct (h : MV v S) (h6 : ∀ d, (zfl S d).length ≤ 6) {p x : Nat} (hp : p < 96) : MV (upd v (1400 + 3 * p + 2) (nI x)) (uct S (va_up (zct S) p x)) := by
  obtain ⟨a1, a2, a3, a4, a5, a6, a7⟩ := h
  refine ⟨fun i hi hi9 => ?_, ?_, fun d' r' h1 h2 h3 => ?_, fun d' h1 h2 => ?_, fun i' hi' => ?_, fun p' hp' => ?_, fun k' hk' => ?_⟩
  · rw [pk_un (by omega)]; exact a1 i hi hi9
  · rw [pk_un (by omega)]; exact a2
  · have hp' := plc_lt ⟨h1, h2⟩ h3
    rw [pk_un (by omega), pk_un (by omega)]; exact a3 d' r' h1 h2 h3
  · obtain ⟨b1, b2, b3, b4⟩ := a4 d' h1 h2
    refine ⟨by rw [pk_un (by omega)]; exact b1, by rw [pk_un (by omega)]; exact b2, by rw [pk_un (by omega)]; exact b3, fun k hk => ?_⟩
    have hk6 : k < 6 := Nat.lt_of_lt_of_le hk (h6 d')
    rw [pk_un (by omega), pk_un (by omega)]; exact b4 k hk
  · obtain ⟨b1, b2, b3⟩ := a5 i' hi'
    refine ⟨fun k q1 q2 => by rw [pk_un (by omega)]; exact b1 k q1 q2, by rw [pk_un (by omega)]; exact b2, fun k hk => by rw [pk_un (by omega)]; exact b3 k hk⟩
  · refine ⟨by rw [pk_un (by omega)]; exact (a6 p' hp').1, by rw [pk_un (by omega)]; exact (a6 p' hp').2.1, ?_⟩
    show _ = nI (va_up (zct S) p x p')
    by_cases e : p' = p
    · subst e; rw [pk_us, va_up_self]
    · rw [pk_un (by omega), va_up_ne _ _ e]; exact (a6 p' hp').2.2
  · obtain ⟨b1, b2, b3, b4⟩ := a7 k' hk'
    refine ⟨by rw [pk_un (by omega)]; exact b1, by rw [pk_un (by omega)]; exact b2, by rw [pk_un (by omega)]; exact b3, fun j hj => by rw [pk_un (by omega)]; exact b4 j hj⟩
end MVSET
