/-! ===== the facade: set, setDevice, poke, peek, protect, fault (the b_ rows began as kit/laws/BITS.to-paste) ===== -/
def bt (x : Int32) (i : Nat) : Bool := x.toBitVec.getLsbD i
theorem b_ext {x y : Int32} (h : ∀ i, i < 32 → bt x i = bt y i) : x = y := Int32.toBitVec_inj.mp (BitVec.eq_of_getLsbD_eq (fun i hi => h i hi))
theorem b_or (x y : Int32) (i : Nat) : bt (x ||| y) i = (bt x i || bt y i) := by unfold bt; rw [Int32.toBitVec_or, BitVec.getLsbD_or]
theorem b_and (x y : Int32) (i : Nat) : bt (x &&& y) i = (bt x i && bt y i) := by unfold bt; rw [Int32.toBitVec_and, BitVec.getLsbD_and]
theorem b_xor (x y : Int32) (i : Nat) : bt (x ^^^ y) i = (bt x i ^^ bt y i) := by unfold bt; rw [Int32.toBitVec_xor, BitVec.getLsbD_xor]
theorem b_m1 : ∀ i, i < 32 → bt (-1) i = true := by decide +kernel
theorem b_1 : ∀ i, i < 32 → bt 1 i = decide (i = 0) := by decide +kernel
theorem s_l : ∀ n, n < 32 → ((nI n &&& 31).toBitVec.smod 32).toNat = n := by decide +kernel
theorem s_u : ∀ n, n < 32 → (((nI n).toUInt32 &&& Int32.toUInt32 31).toBitVec % 32).toNat = n := by decide +kernel
theorem b_shl (n : Nat) (hn : n < 32) (x : Int32) {i : Nat} (hi : i < 32) : bt (x <<< (nI n &&& 31)) i = (decide (n ≤ i) && bt x (i - n)) := by
  unfold bt
  rw [Int32.toBitVec_shiftLeft]
  show (x.toBitVec <<< ((nI n &&& 31).toBitVec.smod 32).toNat).getLsbD i = _
  rw [s_l n hn, BitVec.getLsbD_shiftLeft]
  rcases Nat.lt_or_ge i n with h | h
  · simp [h, Nat.not_le.mpr h]
  · simp [hi, h, Nat.not_lt.mpr h]
theorem b_ushr (n : Nat) (hn : n < 32) (x : Int32) (i : Nat) : bt ((x.toUInt32 >>> ((nI n).toUInt32 &&& Int32.toUInt32 31)).toInt32) i = bt x (n + i) := by
  show (x.toUInt32 >>> ((nI n).toUInt32 &&& Int32.toUInt32 31)).toBitVec.getLsbD i = x.toUInt32.toBitVec.getLsbD (n + i)
  rw [UInt32.toBitVec_shiftRight]
  show (x.toUInt32.toBitVec >>> (((nI n).toUInt32 &&& Int32.toUInt32 31).toBitVec % 32).toNat).getLsbD i = _
  rw [s_u n hn, BitVec.getLsbD_ushiftRight]
theorem ro_bit {x : Int32} {r : Nat} (hr : r < 32) : ((x.toUInt32 >>> ((nI r).toUInt32 &&& Int32.toUInt32 31)).toInt32 &&& 1) = 1 ↔ bt x r = true := by
  constructor
  · intro h
    have := congrArg (fun y => bt y 0) h
    simp only [b_and, b_ushr r hr, b_1 0 (by decide), decide_true, Bool.and_true, Nat.add_zero] at this
    exact this
  · intro h
    apply b_ext
    intro i hi
    rw [b_and, b_ushr r hr, b_1 i hi]
    by_cases e : i = 0
    · subst e; simp [h]
    · simp [e]
theorem b_bit {r i : Nat} (hr : r < 32) (hi : i < 32) : bt ((1 : Int32) <<< (nI r &&& 31)) i = decide (i = r) := by
  rw [b_shl r hr 1 hi, b_1 _ (by omega)]
  by_cases e : i = r
  · subst e; simp
  · by_cases e2 : r ≤ i
    · simp [e, e2]; omega
    · simp [e, e2]
theorem RO.on {x : Int32} {ro : Nat → Nat} {r : Nat} (h : RO x ro) (hr : r < 32) : RO (x ||| ((1 : Int32) <<< (nI r &&& 31))) (va_up ro r 1) := by
  intro i hi
  rw [ro_bit hi, b_or, b_bit hr hi]
  by_cases e : i = r
  · subst e; rw [va_up_self]; simp
  · rw [va_up_ne _ _ e, ← h i hi, ro_bit hi]; simp [e]
theorem RO.off {x : Int32} {ro : Nat → Nat} {r : Nat} (h : RO x ro) (hr : r < 32) : RO (x &&& (((1 : Int32) <<< (nI r &&& 31)) ^^^ (-1))) (va_up ro r 0) := by
  intro i hi
  rw [ro_bit hi, b_and, b_xor, b_bit hr hi, b_m1 i hi]
  by_cases e : i = r
  · subst e; rw [va_up_self]; simp
  · rw [va_up_ne _ _ e, ← h i hi, ro_bit hi]; simp [e]
section FSET
variable {X : Xt} {sd : Nat → Nat} {G G' : Gt} {g c a z : Nat} {S S' : St} {L : Hr} {Pr : Int32 → Gt → Prop} {Px : String → Gt → Prop}
theorem KN.st {n : Nat → Nat} {i v : Nat} (h : KN G c n) (hi : i < 5) : KN (sA G (c + 1) (upd (gA G (c + 1)) i (nI v))) c (va_up n (1 + i) v) := by
  obtain ⟨h1, h2, h3, h4, h5⟩ := h
  refine ⟨?_, ?_, ?_, fun j hj => ?_, fun j hj => ?_⟩
  · rw [va_up_ne _ _ (by omega)]; exact h1
  · rw [va_up_ne _ _ (by omega)]; exact h2
  · rw [va_up_ne _ _ (by omega)]; exact h3
  · show (if c + 1 = c + 1 then upd (gA G (c + 1)) i (nI v) else _) j = _
    rw [if_pos rfl]
    by_cases e : j = i
    · subst e; rw [pk_us, va_up_self]
    · rw [pk_un e, va_up_ne _ _ (by omega)]; exact h4 j hj
  · show (if c + 2 = c + 1 then _ else gA G (c + 2)) j = _
    rw [if_neg (by omega), va_up_ne _ _ (by omega)]; exact h5 j hj
theorem fx_set {x1 x2 : Int32} (h : FX X sd G g c a S L z) (hr : rX X G z)
    (k1 : ¬ (0 ≤ x1 ∧ x1 ≤ 4) → ∀ G', FO X sd G g c a z S L G' → Px "java/lang/IndexOutOfBoundsException" G')
    (k2 : ∀ i, x1 = nI i → i ≤ 4 → ¬ (nI (loS i) ≤ x2 ∧ x2 ≤ nI (hiS i)) → ∀ G', FO X sd G g c a z S L G' → Px "java/lang/IllegalArgumentException" G')
    (k3 : ∀ i v G', x1 = nI i → i ≤ 4 → x2 = nI v → loS i ≤ v → v ≤ hiS i → FO X sd G g c a z (u1 S (1 + i) v) L G' → Pr (nI (zn S (1 + i))) G') : wX9_set X G g x1 x2 Pr Px := by
  obtain ⟨hk, hs, hn, hd, hc⟩ := h.k
  obtain ⟨⟨g1, g2, _⟩, _⟩ := id h
  refine ⟨fun q => fx_ex h hr (k1 (fun e => absurd e.1 (Int32.not_le.mpr q))), fun q => ⟨fun q2 => ?_, fun q2 => fx_ex h hr (k1 (fun e => q2 ((i_lt (n := 4) (by decide)).mpr e.2)))⟩⟩
  obtain ⟨i, rfl, _, hi⟩ := i_nat (lo := 0) (hi := 4) (by decide) (by decide) (Int32.not_lt.mp q) ((i_lt (n := 4) (by decide)).mp q2)
  refine ⟨n_in (by omega) (by decide), n_in (by omega) (by decide), ?_⟩
  rw [n_cl (by omega)]
  have e0 : lst0 i = nI (loS i) := by
    rcases (show i = 0 ∨ i = 1 ∨ i = 2 ∨ i = 3 ∨ i = 4 by omega) with e | e | e | e | e <;> subst e <;> rfl
  have e1 : lst1 i = nI (hiS i) := by
    rcases (show i = 0 ∨ i = 1 ∨ i = 2 ∨ i = 3 ∨ i = 4 by omega) with e | e | e | e | e <;> subst e <;> rfl
  rw [e0, e1]
  have lh : loS i < 2 ^ 31 ∧ hiS i < 2 ^ 31 := by unfold loS hiS; refine ⟨?_, ?_⟩ <;> (repeat' split) <;> decide
  refine fx_rng h hr (k2 i rfl hi) (fun v1 v2 => ?_)
  obtain ⟨v, rfl, v3, v4⟩ := i_nat lh.1 lh.2 v1 v2
  obtain ⟨t0, t1, ⟨r1, r2, r3, r4, r5, r6, r7⟩, ⟨t2, t3, t4, b0, b1, b2⟩, _⟩ := id hk
  refine ⟨g1, c, g2, t1, c + 1, r1, by rw [t2], by rw [t2]; exact n_in (by omega) (by decide), g1, c, g2, t1, c + 1, r1, by rw [t2], by rw [t2]; exact n_in (by omega) (by decide), ?_⟩
  rw [hn.2.2.2.1 i (by omega)]
  rintro G1 rfl
  obtain ⟨f1, f2⟩ := h.gen (G' := sA G (c + 1) (upd (gA G (c + 1)) i (nI v))) (S' := u1 S (1 + i) v) (P := fun x => x = c + 1) (cg.sA rfl) (fun x e => by omega) (hn.st (by omega)) (hd.keep (fun x q1 q2 => eqAt.sA (by omega))) (by
    rw [zn_u1n (by omega)]
    exact hc.keep (eqAt.sA (by omega)) (eqAt.sA (by omega))) rfl rfl rfl rfl (zn_u1n (by omega))
  exact k3 i v _ rfl hi rfl v3 v4 (f1.fc f2)
/-- a change of one device -/
theorem FX.dev {d : Nat} (h : FX X sd G g c a S L z) (hd : 1 ≤ d ∧ d ≤ 3) (p : cg G G' (fun x => c + 4 * d ≤ x ∧ x ≤ c + 4 * d + 3)) (hdc : DC G' (c + 4 * d) (zrg S' d) (zro S' d) (ztp S' d) (zdl S' d) (zfl S' d)) (ho : ∀ e, e ≠ d → zrg S' e = zrg S e ∧ zro S' e = zro S e ∧ ztp S' e = ztp S e ∧ zdl S' e = zdl S e ∧ zfl S' e = zfl S e) (e0 : zn S' = zn S) (e1 : zrq S' = zrq S) (e2 : zW S' = zW S) (e3 : zV S' = zV S) (e4 : zL S' = zL S) (e5 : zcf S' = zcf S) (e6 : zcv S' = zcv S) (e7 : zct S' = zct S) : FO X sd G g c a z S' L G' := by
  obtain ⟨hk, hs, hn, hdd, hc⟩ := h.k
  have e : ∀ x, ¬ (c + 4 * d ≤ x ∧ x ≤ c + 4 * d + 3) → eqAt G G' x := p.2.2.2.2.2
  obtain ⟨f1, f2⟩ := h.gen (S' := S') p (fun x hx => by omega) (by rw [e0]; exact hn.keep (e _ (by omega)) (e _ (by omega)) (e _ (by omega))) (fun d' h1 h2 => by
    by_cases ed : d' = d
    · rw [ed]; exact hdc
    · obtain ⟨o1, o2, o3, o4, o5⟩ := ho d' ed
      rw [o1, o2, o3, o4, o5]
      exact (hdd d' h1 h2).keep (e _ (by omega)) (e _ (by omega)) (e _ (by omega)) (e _ (by omega))) (by
    rw [e0, e5, e6, e7]
    exact hc.keep (e _ (by omega)) (e _ (by omega))) e1 e2 e3 e4 (by rw [e0])
  exact f1.fc f2
theorem FX.d {d : Nat} (h : FX X sd G g c a S L z) (h1 : 1 ≤ d) (h2 : d ≤ 3) : gT G g = (1, 10) ∧ gR G 320 g = some c ∧ gT G c = (1, 2) ∧ gR G 66 c = some (c + 3) ∧ gT G (c + 3) = (4, 3) ∧ vp_in (nI d - 1) (gT G (c + 3)).2 ∧ gB G (c + 3) (nI d - 1).toNatClampNeg = some (c + 4 * d) ∧ DT G (c + 4 * d) ∧ DC G (c + 4 * d) (zrg S d) (zro S d) (ztp S d) (zdl S d) (zfl S d) := by
  obtain ⟨hk, hs, hn, hd, hc⟩ := h.k
  obtain ⟨⟨g1, g2, _⟩, _⟩ := id h
  obtain ⟨t0, t1, ⟨r1, r2, r3, r4, r5, r6, r7⟩, ⟨t2, t3, t4, b0, b1, b2⟩, _⟩ := id hk
  have e : nI d - 1 = nI (d - 1) := n_sub (b := 1) h1
  refine ⟨g1, g2, t1, r3, t4, by rw [t4, e]; exact n_in (by omega) (by decide), ?_, (hk.d h1 h2).1, hd d h1 h2⟩
  rw [e, n_cl (by omega)]
  exact (hk.d h1 h2).2
theorem fx_setDevice {x1 x2 x3 : Int32} (h : FX X sd G g c a S L z) (hr : rX X G z)
    (k1 : ¬ ((1 ≤ x1 ∧ x1 ≤ 3) ∧ 0 ≤ x2 ∧ x2 ≤ 1) → ∀ G', FO X sd G g c a z S L G' → Px "java/lang/IndexOutOfBoundsException" G')
    (k2 : ∀ d w, x1 = nI d → 1 ≤ d → d ≤ 3 → x2 = nI w → w ≤ 1 → ¬ (0 ≤ x3 ∧ x3 ≤ nI (if w = 0 then 1000 else 65535)) → ∀ G', FO X sd G g c a z S L G' → Px "java/lang/IllegalArgumentException" G')
    (k3 : ∀ d v G', x1 = nI d → 1 ≤ d → d ≤ 3 → x2 = 0 → x3 = nI v → v ≤ 1000 → FO X sd G g c a z (udl S (va_up (zdl S) d v)) L G' → Pr (nI (zdl S d)) G')
    (k4 : ∀ d v G', x1 = nI d → 1 ≤ d → d ≤ 3 → x2 = 1 → x3 = nI v → v ≤ 65535 → FO X sd G g c a z (utp S (va_up (ztp S) d v)) L G' → Pr (nI (ztp S d)) G') : wX9_setDevice X G g x1 x2 x3 Pr Px := by
  refine fx_dev h hr (fun q => k1 (fun e => q e.1)) (fun d e1 d1 d2 => ⟨fun q => fx_ex h hr (k1 (fun e => absurd e.2.1 (Int32.not_le.mpr q))), fun q => ⟨fun q2 => ?_, fun q2 => fx_ex h hr (k1 (fun e => q2 e.2.2))⟩⟩)
  subst e1
  obtain ⟨w, rfl, _, hw⟩ := i_nat (lo := 0) (hi := 1) (by decide) (by decide) (Int32.not_lt.mp q) q2
  obtain ⟨g1, g2, t1, r3, t4, vi, gb, dt, dc⟩ := h.d d1 d2
  obtain ⟨q1, q2', q3, q4, q5, q6, q7, q8, q9, q10⟩ := id dc
  refine ⟨fun zw => ?_, fun zw => ?_⟩
  · have ew : w = 1 := by
      rcases (show w = 0 ∨ w = 1 by omega) with e | e
      · exact absurd (by rw [e]; rfl) zw
      · exact e
    subst ew
    refine fx_rng h hr (k2 d 1 rfl d1 d2 rfl hw) (fun v1 v2 => ?_)
    obtain ⟨v, rfl, _, v3⟩ := i_nat (lo := 0) (hi := 65535) (by decide) (by decide) v1 v2
    refine ⟨g1, c, g2, t1, c + 3, r3, by rw [t4], vi, c + 4 * d, gb, fun _ => ⟨dt.1, fun _ => ⟨dt.1, ?_⟩, fun z => absurd z (by decide)⟩, fun z => absurd z (by decide)⟩
    rintro G1 rfl
    rw [q7]
    refine k4 d v _ rfl d1 d2 rfl rfl v3 (h.dev ⟨d1, d2⟩ (cg.sI (by omega)) ?_ (fun e he => ⟨rfl, rfl, va_up_ne _ _ he, rfl, rfl⟩) rfl rfl rfl rfl rfl rfl rfl rfl)
    show DC _ _ (zrg S d) (zro S d) (va_up (ztp S) d v d) (zdl S d) (zfl S d)
    rw [va_up_self]
    refine ⟨q1, by rw [gI_sI, if_neg (fun z => absurd z.1 (by decide))]; exact q2', q3, q4, q5, by rw [gI_sI, if_neg (fun z => absurd z.1 (by decide))]; exact q6, by rw [gI_sI, if_pos ⟨rfl, rfl⟩], by omega, by rw [gI_sI, if_neg (fun z => absurd z.1 (by decide))]; exact q9, q10⟩
  · have ew : w = 0 := n_inj (b := 0) (by omega) (by decide) zw
    subst ew
    refine fx_rng h hr (k2 d 0 rfl d1 d2 rfl hw) (fun v1 v2 => ?_)
    obtain ⟨v, rfl, _, v3⟩ := i_nat (lo := 0) (hi := 1000) (by decide) (by decide) v1 v2
    refine ⟨g1, c, g2, t1, c + 3, r3, by rw [t4], vi, c + 4 * d, gb, fun z => absurd rfl z, fun _ => ⟨dt.1, fun z => absurd rfl z, fun _ => ⟨dt.1, ?_⟩⟩⟩
    rintro G1 rfl
    rw [q9]
    refine k3 d v _ rfl d1 d2 rfl rfl v3 (h.dev ⟨d1, d2⟩ (cg.sI (by omega)) ?_ (fun e he => ⟨rfl, rfl, rfl, va_up_ne _ _ he, rfl⟩) rfl rfl rfl rfl rfl rfl rfl rfl)
    show DC _ _ (zrg S d) (zro S d) (ztp S d) (va_up (zdl S) d v d) (zfl S d)
    rw [va_up_self]
    refine ⟨q1, by rw [gI_sI, if_neg (fun z => absurd z.1 (by decide))]; exact q2', q3, q4, q5, by rw [gI_sI, if_neg (fun z => absurd z.1 (by decide))]; exact q6, by rw [gI_sI, if_neg (fun z => absurd z.1 (by decide))]; exact q7, q8, by rw [gI_sI, if_pos ⟨rfl, rfl⟩], v3⟩
theorem fx_poke {x1 x2 x3 : Int32} (h : FX X sd G g c a S L z) (hr : rX X G z)
    (k1 : ¬ ((1 ≤ x1 ∧ x1 ≤ 3) ∧ 0 ≤ x2 ∧ x2 ≤ 31) → ∀ G', FO X sd G g c a z S L G' → Px "java/lang/IndexOutOfBoundsException" G')
    (k2 : ∀ d r, x1 = nI d → 1 ≤ d → d ≤ 3 → x2 = nI r → r < 32 → ¬ (0 ≤ x3 ∧ x3 ≤ 65535) → ∀ G', FO X sd G g c a z S L G' → Px "java/lang/IllegalArgumentException" G')
    (k3 : ∀ d r v G', x1 = nI d → 1 ≤ d → d ≤ 3 → x2 = nI r → r < 32 → x3 = nI v → v < 65536 → FO X sd G g c a z (urg S (va_up (zrg S) d (va_up (zrg S d) r v))) L G' → Pr (nI (zrg S d r)) G') : wX9_poke X G g x1 x2 x3 Pr Px := by
  refine fx_reg h hr k1 (fun d r e1 d1 d2 e2 hr2 => fx_rng h hr (k2 d r e1 d1 d2 e2 hr2) (fun v1 v2 => ?_))
  subst e1 e2
  obtain ⟨v, rfl, _, v3⟩ := i_nat (lo := 0) (hi := 65535) (by decide) (by decide) v1 v2
  obtain ⟨g1, g2, t1, r3, t4, vi, gb, dt, dc⟩ := h.d d1 d2
  obtain ⟨q1, q2', q3, q4, q5, q6, q7, q8, q9, q10⟩ := id dc
  obtain ⟨u1', u2, u3, u4, u5, u6, u7⟩ := id dt
  refine ⟨g1, c, g2, t1, c + 3, r3, by rw [t4], vi, c + 4 * d, gb, u1', c + 4 * d + 1, u2, by rw [u5], by rw [u5]; exact n_in hr2 (by decide), by rw [u5], by rw [u5]; exact n_in hr2 (by decide), ?_⟩
  rw [n_cl (by omega), (q1 r hr2).1]
  rintro G1 rfl
  refine k3 d r v _ rfl d1 d2 rfl hr2 rfl (by omega) (h.dev ⟨d1, d2⟩ (cg.sA (by omega)) ?_ (fun e he => ⟨va_up_ne _ _ he, rfl, rfl, rfl, rfl⟩) rfl rfl rfl rfl rfl rfl rfl rfl)
  show DC _ _ (va_up (zrg S) d (va_up (zrg S d) r v) d) (zro S d) (ztp S d) (zdl S d) (zfl S d)
  rw [va_up_self]
  refine ⟨fun j hj => ?_, q2', q3, fun k hk => ?_, q5, q6, q7, q8, q9, q10⟩
  · show (if c + 4 * d + 1 = c + 4 * d + 1 then upd (gA G (c + 4 * d + 1)) r (nI v) else _) j = _ ∧ _
    rw [if_pos rfl]
    by_cases e : j = r
    · subst e; rw [pk_us, va_up_self]; exact ⟨rfl, by omega⟩
    · rw [pk_un e, va_up_ne _ _ e]; exact q1 j hj
  · show (if c + 4 * d + 2 = c + 4 * d + 1 then _ else gA G (c + 4 * d + 2)) k = _ ∧ (if c + 4 * d + 3 = c + 4 * d + 1 then _ else gA G (c + 4 * d + 3)) k = _
    rw [if_neg (by omega), if_neg (by omega)]
    exact q4 k hk
theorem fx_peek {x1 x2 : Int32} (h : FX X sd G g c a S L z) (hr : rX X G z)
    (k1 : ¬ ((1 ≤ x1 ∧ x1 ≤ 3) ∧ 0 ≤ x2 ∧ x2 ≤ 31) → ∀ G', FO X sd G g c a z S L G' → Px "java/lang/IndexOutOfBoundsException" G')
    (k3 : ∀ d r, x1 = nI d → 1 ≤ d → d ≤ 3 → x2 = nI r → r < 32 → FO X sd G g c a z S L G → Pr (nI (zrg S d r)) G) : wX9_peek X G g x1 x2 Pr Px := by
  refine fx_reg h hr k1 (fun d r e1 d1 d2 e2 hr2 => ?_)
  subst e1 e2
  obtain ⟨g1, g2, t1, r3, t4, vi, gb, dt, dc⟩ := h.d d1 d2
  obtain ⟨u1', u2, u3, u4, u5, u6, u7⟩ := id dt
  refine ⟨g1, c, g2, t1, c + 3, r3, by rw [t4], vi, c + 4 * d, gb, u1', c + 4 * d + 1, u2, by rw [u5], by rw [u5]; exact n_in hr2 (by decide), ?_⟩
  rw [n_cl (by omega), (dc.1 r hr2).1]
  exact k3 d r rfl d1 d2 rfl hr2 h.f0
theorem fx_protect {x1 x2 x3 : Int32} (h : FX X sd G g c a S L z) (hr : rX X G z) (hw : WF S)
    (k1 : ¬ ((1 ≤ x1 ∧ x1 ≤ 3) ∧ 0 ≤ x2 ∧ x2 ≤ 31) → ∀ G', FO X sd G g c a z S L G' → Px "java/lang/IndexOutOfBoundsException" G')
    (k3 : ∀ d r v G', x1 = nI d → 1 ≤ d → d ≤ 3 → x2 = nI r → r < 32 → v = (if x3 = 0 then 0 else 1) → FO X sd G g c a z (uro S (va_up (zro S) d (va_up (zro S d) r v))) L G' → Pr (nI (zro S d r)) G') : wX9_protect X G g x1 x2 x3 Pr Px := by
  refine fx_reg h hr k1 (fun d r e1 d1 d2 e2 hr2 => ?_)
  subst e1 e2
  obtain ⟨g1, g2, t1, r3, t4, vi, gb, dt, dc⟩ := h.d d1 d2
  obtain ⟨q1, q2', q3, q4, q5, q6, q7, q8, q9, q10⟩ := id dc
  have ro1 : zro S d r ≤ 1 := (hw.2.1 d).2.1 r
  have fin : ∀ v b, v = (if x3 = 0 then 0 else 1) → RO b (va_up (zro S d) r v) → FO X sd G g c a z (uro S (va_up (zro S) d (va_up (zro S d) r v))) L (sI G 100 (c + 4 * d) b) := fun v b hv hb => by
    refine h.dev ⟨d1, d2⟩ (cg.sI (by omega)) ?_ (fun e he => ⟨rfl, va_up_ne _ _ he, rfl, rfl, rfl⟩) rfl rfl rfl rfl rfl rfl rfl rfl
    show DC _ _ (zrg S d) (va_up (zro S) d (va_up (zro S d) r v) d) (ztp S d) (zdl S d) (zfl S d)
    rw [va_up_self]
    refine ⟨q1, by rw [gI_sI, if_neg (fun z => absurd z.1 (by decide))]; exact q2', q3, q4, q5, by rw [gI_sI, if_pos ⟨rfl, rfl⟩]; exact hb, by rw [gI_sI, if_neg (fun z => absurd z.1 (by decide))]; exact q7, q8, by rw [gI_sI, if_neg (fun z => absurd z.1 (by decide))]; exact q9, q10⟩
  have both : ∀ r5 : Int32, (r5 = 0 ∨ r5 = 1) → r5 = nI (zro S d r) → (x3 = 0 → gT G (c + 4 * d) = (1, 3) ∧ gT G (c + 4 * d) = (1, 3) ∧ ∀ G27, G27 = sI G 100 (c + 4 * d) ((gI G 100 (c + 4 * d)) &&& ((1 <<< (nI r &&& 31)) ^^^ (-1))) → (r5 = 0 ∨ r5 = 1) ∧ Pr r5 G27) ∧ (¬ (x3 = 0) → gT G (c + 4 * d) = (1, 3) ∧ gT G (c + 4 * d) = (1, 3) ∧ ∀ G47, G47 = sI G 100 (c + 4 * d) ((gI G 100 (c + 4 * d)) ||| (1 <<< (nI r &&& 31))) → (r5 = 0 ∨ r5 = 1) ∧ Pr r5 G47) := fun r5 h5 e5 => by
    refine ⟨fun z => ⟨dt.1, dt.1, ?_⟩, fun z => ⟨dt.1, dt.1, ?_⟩⟩
    · rintro G1 rfl
      refine ⟨h5, ?_⟩
      rw [e5]
      exact k3 d r 0 _ rfl d1 d2 rfl hr2 (by rw [if_pos z]) (fin 0 _ (by rw [if_pos z]) (q6.off hr2))
    · rintro G1 rfl
      refine ⟨h5, ?_⟩
      rw [e5]
      exact k3 d r 1 _ rfl d1 d2 rfl hr2 (by rw [if_neg z]) (fin 1 _ (by rw [if_neg z]) (q6.on hr2))
  refine ⟨g1, c, g2, t1, c + 3, r3, by rw [t4], vi, c + 4 * d, gb, dt.1, sp_isReadOnly dt dc hr2 (fun e => ?_) (fun e => ?_)⟩
  · exact both 1 (Or.inr rfl) (by rw [e]; rfl)
  · exact both 0 (Or.inl rfl) (by rw [show zro S d r = 0 by omega]; rfl)
theorem fx_fault {x1 x2 x3 : Int32} (h : FX X sd G g c a S L z) (hr : rX X G z)
    (k1 : ¬ (1 ≤ x1 ∧ x1 ≤ 3) → ∀ G', FO X sd G g c a z S L G' → Px "java/lang/IndexOutOfBoundsException" G')
    (k2 : ∀ d, x1 = nI d → 1 ≤ d → d ≤ 3 → ¬ ((1 ≤ x2 ∧ x2 ≤ 4) ∧ 0 ≤ x3 ∧ x3 ≤ 2000) → ∀ G', FO X sd G g c a z S L G' → Px "java/lang/IllegalArgumentException" G')
    (k3 : ∀ d u b, x1 = nI d → 1 ≤ d → d ≤ 3 → x2 = nI u → 1 ≤ u → u ≤ 4 → x3 = nI b → b ≤ 2000 → (zfl S d).length = 6 → ∀ G', FO X sd G g c a z S L G' → Px "java/lang/IllegalStateException" G')
    (k4 : ∀ d u b G', x1 = nI d → 1 ≤ d → d ≤ 3 → x2 = nI u → 1 ≤ u → u ≤ 4 → x3 = nI b → b ≤ 2000 → (zfl S d).length < 6 → FO X sd G g c a z (ufl S (va_up (zfl S) d (zfl S d ++ [(u, b)]))) L G' → Pr (nI ((zfl S d).length + 1)) G') : wX9_fault X G g x1 x2 x3 Pr Px := by
  refine fx_dev h hr k1 (fun d e1 d1 d2 => fx_rng h hr (fun q => k2 d e1 d1 d2 (fun e => q e.1)) (fun u1' u2 => fx_rng h hr (fun q => k2 d e1 d1 d2 (fun e => q e.2)) (fun v1 v2 => ?_)))
  subst e1
  obtain ⟨u, rfl, w1, w2⟩ := i_nat (lo := 1) (hi := 4) (by decide) (by decide) u1' u2
  obtain ⟨b, rfl, _, v3⟩ := i_nat (lo := 0) (hi := 2000) (by decide) (by decide) v1 v2
  obtain ⟨g1, g2, t1, r3, t4, vi, gb, dt, dc⟩ := h.d d1 d2
  obtain ⟨q1, q2', q3, q4, q5, q6, q7, q8, q9, q10⟩ := id dc
  refine ⟨g1, c, g2, t1, c + 3, r3, by rw [t4], vi, c + 4 * d, gb, dt.1, ?_⟩
  rw [q2', show nI (zfl S d).length < 6 ↔ (zfl S d).length < 6 from n_lt (b := 6) (by omega) (by decide)]
  refine ⟨fun zl => ⟨dt.1, sp_appendFault dt dc zl ⟨w1, w2⟩ v3 (fun G1 dc1 c1 => ⟨(c1.2.2.1 _).trans dt.1, ?_⟩)⟩, fun zl => fx_ex h hr (k3 d u b rfl d1 d2 rfl w1 w2 rfl v3 (by omega))⟩
  rw [dc1.2.1, List.length_append]
  refine k4 d u b G1 rfl d1 d2 rfl w1 w2 rfl v3 zl (h.dev ⟨d1, d2⟩ (c1.mono (fun x hx => by omega)) ?_ (fun e he => ⟨rfl, rfl, rfl, rfl, va_up_ne _ _ he⟩) rfl rfl rfl rfl rfl rfl rfl rfl)
  show DC _ _ (zrg S d) (zro S d) (ztp S d) (zdl S d) (va_up (zfl S) d (zfl S d ++ [(u, b)]) d)
  rw [va_up_self]
  exact dc1
end FSET
