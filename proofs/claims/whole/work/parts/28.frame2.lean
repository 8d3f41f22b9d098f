/-! ===== Frame: what stands where, whether a reply fits, copies ===== -/
theorem n_add {a b : Nat} : nI a + nI b = nI (a + b) := nI_add a b
theorem xor_pos {a b : Nat} (ha : a < 2 ^ 31) (hb : b < 2 ^ 31) : (0 : Int32) ≤ nI a ^^^ nI b := by
  rw [n_xor]
  exact (n_le (a := 0) (by decide) (Nat.xor_lt_two_pow ha hb)).mpr (Nat.zero_le _)
theorem sp_floorMod {X : Xt} {G : Gt} {a b : Nat} {Pr : Int32 → Gt → Prop} (ha : a < 2 ^ 31) (h0 : 0 < b) (hb : b < 2 ^ 31) (hp : Pr (nI (a % b)) G) : wJ9_floorMod_7cf53 X G (nI a) (nI b) Pr := by
  unfold wJ9_floorMod_7cf53
  refine ⟨fun z => ?_, fun _ => ?_, fun z => absurd (xor_pos ha hb) z⟩
  · have := n_inj (a := b) (b := 0) hb (by decide) z
    omega
  · rw [pk_rem ha h0 hb]; exact hp
section FR2
variable {X : Xt} {G : Gt} {f bb : Nat} {l : List Nat}
theorem sp_startRegister {Pr : Int32 → Gt → Prop} (h : FR G f bb l) (hp : Pr (nI (wd l 2)) G) : wX3_startRegister X G f Pr := ⟨h.1, sp_wordAt (k := 2) h (by decide) hp⟩
/-- how many registers the frame speaks of -/
def rgc (l : List Nat) : Nat := if l.getD 1 0 = 6 then 1 else wd l 4
def wrv (l : List Nat) (k : Nat) : Nat := if l.getD 1 0 = 6 then wd l 4 else wd l (7 + 2 * k)
theorem eq6 {l : List Nat} (h : ∀ b ∈ l, b < 256) (k c : Nat) (hc : c < 2 ^ 31) : nI (l.getD k 0) = nI c ↔ l.getD k 0 = c := by
  have := gd_b h k
  exact nI_eq (by omega) hc
theorem sp_registerCount {Pr : Int32 → Gt → Prop} (h : FR G f bb l) (hp : Pr (nI (rgc l)) G) : wX3_registerCount X G f Pr := by
  refine ⟨h.1, sp_byteAt (k := 1) h (by decide) ⟨fun z => ⟨h.1, sp_wordAt (k := 4) h (by decide) ?_⟩, fun z => ?_⟩⟩
  · unfold rgc at hp
    rw [if_neg (fun q => z ((eq6 h.2.2.2.2.2.2 1 6 (by decide)).mpr q))] at hp
    exact hp
  · unfold rgc at hp
    rw [if_pos ((eq6 h.2.2.2.2.2.2 1 6 (by decide)).mp z)] at hp
    exact hp
theorem sp_writtenValue {k : Nat} {Pr : Int32 → Gt → Prop} (h : FR G f bb l) (hk : k < 1000) (hp : Pr (nI (wrv l k)) G) : wX3_writtenValue X G f (nI k) Pr := by
  refine ⟨h.1, sp_byteAt (k := 1) h (by decide) ⟨fun z => ⟨h.1, ?_⟩, fun z => ⟨h.1, ?_⟩⟩⟩
  · rw [show (7 : Int32) + 2 * nI k = nI (7 + 2 * k) by rw [show (2 : Int32) = nI 2 from rfl, pk_mul, show (7 : Int32) = nI 7 from rfl, n_add]]
    refine sp_wordAt h (by omega) ?_
    unfold wrv at hp
    rw [if_neg (fun q => z ((eq6 h.2.2.2.2.2.2 1 6 (by decide)).mpr q))] at hp
    exact hp
  · refine sp_wordAt (k := 4) h (by decide) ?_
    unfold wrv at hp
    rw [if_pos ((eq6 h.2.2.2.2.2.2 1 6 (by decide)).mp z)] at hp
    exact hp
theorem sp_readValue {k : Nat} {Pr : Int32 → Gt → Prop} (h : FR G f bb l) (hk : k < 1000) (hp : Pr (nI (wd l (3 + 2 * k))) G) : wX3_readValue X G f (nI k) Pr := by
  refine ⟨h.1, ?_⟩
  rw [show (3 : Int32) + 2 * nI k = nI (3 + 2 * k) by rw [show (2 : Int32) = nI 2 from rfl, pk_mul, show (3 : Int32) = nI 3 from rfl, n_add]]
  exact sp_wordAt h (by omega) hp
theorem sp_isException {Pr : Int32 → Gt → Prop} (h : FR G f bb l) (hp : Pr (bI (128 ≤ l.getD 1 0)) G) : wX3_isException X G f Pr := by
  have hb := gd_b h.2.2.2.2.2.2 1
  refine ⟨h.1, sp_byteAt (k := 1) h (by decide) ⟨fun z => ?_, fun z => ?_⟩⟩
  · have z' := (n_lt (b := 128) (by omega) (by decide)).mp z
    unfold bI at hp
    rw [if_neg (by omega)] at hp; exact hp
  · have z' : ¬ l.getD 1 0 < 128 := fun q => z ((n_lt (b := 128) (by omega) (by decide)).mpr q)
    unfold bI at hp
    rw [if_pos (by omega)] at hp; exact hp
/-- the last two bytes are the checksum of those ahead -/
theorem sum_iff (l : List Nat) (h : ∀ b ∈ l, b < 256) (hl : 2 ≤ l.length) : crcN 65535 (l.take (l.length - 2)) = l.getD (l.length - 2) 0 + 256 * l.getD (l.length - 2 + 1) 0 ↔ crcN 65535 l = 0 := by
  have hs : crcN 65535 (l.take (l.length - 2)) < 65536 := crcN_lt _ _ (by decide) (fun b hb => h b (List.mem_of_mem_take hb))
  have e : l = l.take (l.length - 2) ++ [l.getD (l.length - 2) 0] ++ [l.getD (l.length - 2 + 1) 0] := by
    have e1 := tk_s (l := l) (k := l.length - 2) (by omega)
    have e2 := tk_s (l := l) (k := l.length - 2 + 1) (by omega)
    rw [← e1, ← e2, List.take_of_length_le (by omega)]
  have e3 : crcN 65535 l = d8 (d8 (crcN 65535 (l.take (l.length - 2)) ^^^ l.getD (l.length - 2) 0) ^^^ l.getD (l.length - 2 + 1) 0) := by
    have q := congrArg (crcN 65535) e
    rw [crcN_app, crcN_app] at q
    exact q
  have b1 := gd_b h (l.length - 2)
  have b2 := gd_b h (l.length - 2 + 1)
  rw [e3, crc_nat hs b1 b2]
  omega
/-- the reply r answers the frame s -/
def fitsTo (r s : List Nat) : Prop := r.getD 0 0 = s.getD 0 0 ∧ (r.getD 1 0 = s.getD 1 0 + 128 ∨ r.getD 1 0 = s.getD 1 0 ∧ ((s.getD 1 0 = 3 ∧ r.getD 2 0 = 2 * wd s 4) ∨ (s.getD 1 0 ≠ 3 ∧ wd r 2 = wd s 2 ∧ wd r 4 = wd s 4))) ∧ crcN 65535 r = 0
theorem sp_isReplyTo_109 {Pr : Int32 → Gt → Prop} (h : FR G f bb l) (hl : 2 ≤ l.length) (h1 : crcN 65535 l = 0 → Pr 1 G) (h0 : crcN 65535 l ≠ 0 → Pr 0 G) : wX3_isReplyTo_109 X Pr G f := by
  unfold wX3_isReplyTo_109
  have hs : crcN 65535 (l.take (l.length - 2)) < 65536 := crcN_lt _ _ (by decide) (fun b hb => h.2.2.2.2.2.2 b (List.mem_of_mem_take hb))
  have hll := h.2.2.2.2.1
  have b1 := gd_b h.2.2.2.2.2.2 (l.length - 2)
  have b2 := gd_b h.2.2.2.2.2.2 (l.length - 2 + 1)
  rw [h.2.2.2.1, show nI l.length - 2 = nI (l.length - 2) from n_sub (b := 2) hl]
  refine ⟨h.1, h.1, sp_sumOf h (by omega) ⟨h.1, sp_byteAt h (by omega) ⟨h.1, ?_⟩⟩⟩
  rw [nI_1]
  refine sp_byteAt h (by omega) ?_
  rw [n_shl8 (by omega), n_or, Nat.or_comm, n_word b1, nI_eq (by omega) (by omega)]
  refine ⟨fun z => h0 (fun q => z ?_), fun z => h1 ?_⟩
  · rw [(sum_iff l h.2.2.2.2.2.2 hl).mpr q]; omega
  · refine (sum_iff l h.2.2.2.2.2.2 hl).mp ?_
    rw [z]; omega
theorem sp_isReplyTo_93 {x2 sx : Int32} {Pr : Int32 → Gt → Prop} (h : FR G f bb l) (hl : 2 ≤ l.length) (h1 : nI (l.getD 1 0) = x2 → sx ≠ 0 → crcN 65535 l = 0 → Pr 1 G) (h0 : ¬ (nI (l.getD 1 0) = x2 ∧ sx ≠ 0 ∧ crcN 65535 l = 0) → Pr 0 G) : wX3_isReplyTo_93 X Pr G f x2 sx := by
  unfold wX3_isReplyTo_93
  refine ⟨h.1, sp_byteAt (k := 1) h (by decide) ⟨fun z => h0 (fun q => z q.1), fun z => ⟨fun z2 => sp_isReplyTo_109 h hl (h1 z z2) (fun z3 => h0 (fun q => z3 q.2.2)), fun z2 => h0 (fun q => q.2.1 z2)⟩⟩⟩
theorem sp_isReplyTo {g cc : Nat} {s : List Nat} {Pr : Int32 → Gt → Prop} (h : FR G f bb l) (hl : 2 ≤ l.length) (h' : FR G g cc s) (h1 : fitsTo l s → Pr 1 G) (h0 : ¬ fitsTo l s → Pr 0 G) : wX3_isReplyTo X G f g Pr := by
  have B := h.2.2.2.2.2.2
  have B' := h'.2.2.2.2.2.2
  have b0 := gd_b B 0
  have b1 := gd_b B 1
  have b2 := gd_b B 2
  have c0 := gd_b B' 0
  have c1 := gd_b B' 1
  have w2 := wd_lt B 2
  have w4 := wd_lt B 4
  have v2 := wd_lt B' 2
  have v4 := wd_lt B' 4
  unfold fitsTo at h1 h0
  unfold wX3_isReplyTo
  refine ⟨h.1, sp_byteAt (k := 0) h (by decide) ⟨h'.1, sp_byteAt (k := 0) h' (by decide) ⟨fun z0 => ⟨h'.1, sp_byteAt (k := 1) h' (by decide) ⟨h.1, sp_byteAt (k := 1) h (by decide) ?_⟩⟩, fun z => h0 (fun q => z (by rw [q.1]))⟩⟩⟩
  rw [nI_eq (by omega) (by omega)] at z0
  rw [show nI (s.getD 1 0) + 128 = nI (s.getD 1 0 + 128) from n_add (b := 128), nI_eq (by omega) (by omega)]
  refine ⟨fun z1 => sp_isReplyTo_109 h hl (fun z2 => h1 ⟨z0, Or.inl z1, z2⟩) (fun z2 => h0 (fun q => z2 q.2.2)), fun z1 => ⟨fun z2 => ⟨h.1, sp_wordAt (k := 2) h (by decide) ⟨h'.1, sp_wordAt (k := 2) h' (by decide) ?_⟩⟩, fun z2 => ⟨h.1, sp_byteAt (k := 2) h (by decide) ⟨h'.1, sp_wordAt (k := 4) h' (by decide) ?_⟩⟩⟩⟩
  · rw [nI_eq (by omega) (by omega)]
    have z2' : s.getD 1 0 ≠ 3 := fun q => z2 (by rw [q]; rfl)
    refine ⟨fun z3 => sp_isReplyTo_93 h hl (fun _ q => absurd rfl q) (fun _ => h0 ?_), fun z3 => ⟨h.1, sp_wordAt (k := 4) h (by decide) ⟨h'.1, sp_wordAt (k := 4) h' (by decide) ?_⟩⟩⟩
    · rintro ⟨_, q | ⟨_, q | q⟩, _⟩
      · exact z1 q
      · exact z2' q.1
      · exact z3 q.2.1
    · rw [nI_eq (by omega) (by omega)]
      refine ⟨fun z4 => sp_isReplyTo_93 h hl (fun _ q => absurd rfl q) (fun _ => h0 ?_), fun z4 => sp_isReplyTo_93 h hl (fun q _ q2 => h1 ⟨z0, Or.inr ⟨(nI_eq (by omega) (by omega)).mp q, Or.inr ⟨z2', z3, z4⟩⟩, q2⟩) (fun q => h0 ?_)⟩
      · rintro ⟨_, q | ⟨_, q | q⟩, _⟩
        · exact z1 q
        · exact z2' q.1
        · exact z4 q.2.2
      · rintro ⟨_, q1 | ⟨q1, _⟩, q2⟩
        · exact z1 q1
        · exact q ⟨by rw [q1], by decide, q2⟩
  · rw [show (2 : Int32) * nI (wd s 4) = nI (2 * wd s 4) from pk_mul 2 _, nI_eq (by omega) (by omega)]
    have z2' : s.getD 1 0 = 3 := (nI_eq (b := 3) (by omega) (by decide)).mp z2
    refine ⟨fun z4 => sp_isReplyTo_93 h hl (fun _ q => absurd rfl q) (fun _ => h0 ?_), fun z4 => sp_isReplyTo_93 h hl (fun q _ q2 => h1 ⟨z0, Or.inr ⟨(nI_eq (by omega) (by omega)).mp q, Or.inl ⟨z2', z4⟩⟩, q2⟩) (fun q => h0 ?_)⟩
    · rintro ⟨_, q | ⟨_, q | q⟩, _⟩
      · exact z1 q
      · exact z4 q.2
      · exact q.1 z2'
    · rintro ⟨_, q1 | ⟨q1, _⟩, q2⟩
      · exact z1 q1
      · exact q ⟨by rw [q1], by decide, q2⟩
/-- the byte at i with its lowest bit turned -/
def inv1 (l : List Nat) (i : Nat) : List Nat := l.set i (l.getD i 0 ^^^ 1)
theorem inv1_gd {l : List Nat} {i k : Nat} (h : i < l.length) : (inv1 l i).getD k 0 = if k = i then l.getD i 0 ^^^ 1 else l.getD k 0 := by
  unfold inv1
  simp only [List.getD, List.getElem?_set]
  by_cases e : i = k
  · subst e; simp [h]
  · have e' : ¬ k = i := fun q => e q.symm
    simp [e, e']
theorem sp_invertLowestBit {x : Nat} {Pr : Gt → Prop} (h : FR G f bb l) (hl : 1 ≤ l.length) (hx : x < 2 ^ 31) (k : ∀ G', FR G' f bb (inv1 l (x % l.length)) → cg G G' (fun a => a = f ∨ a = bb) → Pr G') : wX3_invertLowestBit X G f (nI x) Pr := by
  obtain ⟨h1, h2, h3, h4, h5, h6, h7⟩ := id h
  have hm : x % l.length < l.length := Nat.mod_lt _ hl
  unfold wX3_invertLowestBit
  rw [h4]
  refine ⟨h1, fun z => absurd ((n_le (b := 0) (by omega) (by decide)).mp z) (by omega), fun _ => ⟨h1, bb, h2, h1, sp_floorMod hx hl (by omega) ⟨by rw [h3], by rw [h3]; exact n_in (by show x % l.length < 37; omega) (by decide), by rw [h3], by rw [h3]; exact n_in (by show x % l.length < 37; omega) (by decide), ?_⟩⟩⟩
  rintro G1 rfl
  refine k _ ⟨h1, h2, h3, ?_, ?_, fun j hj => ?_, fun b hb => ?_⟩ (cg.sA (Or.inr rfl))
  · rw [show (inv1 l (x % l.length)).length = l.length from List.length_set]; exact h4
  · rw [show (inv1 l (x % l.length)).length = l.length from List.length_set]; exact h5
  · rw [show (inv1 l (x % l.length)).length = l.length from List.length_set] at hj
    rw [gA_sA, n_cl (by omega), inv1_gd hm, h6 _ hm]
    by_cases e : j = x % l.length
    · subst e
      rw [if_pos rfl, pk_us]
      exact n_xor (y := 1)
    · rw [if_neg e, pk_un e, h6 j hj]
  · rcases List.mem_or_eq_of_mem_set hb with z | z
    · exact h7 b z
    · rw [z]; exact x_lt8 (gd_b h7 _) (by decide)
theorem sp_Fcopy {g cc : Nat} {s : List Nat} {Pr : Gt → Prop} (h : FR G f bb l) (h' : FR G g cc s) (k : ∀ G', FR G' f bb s → cg G G' (fun a => a = f ∨ a = bb) → Pr G') (hd : cc ≠ bb) (hd2 : g ≠ f) : wX3_copyFrom X G f g Pr := by
  obtain ⟨h1, h2, h3, h4, h5, h6, h7⟩ := id h
  obtain ⟨k1, k2, k3, k4, k5, k6, k7⟩ := id h'
  refine ⟨k1, cc, k2, h1, bb, h2, by rw [k3], by rw [h3], by decide, by decide, by decide, by rw [k3]; decide, by rw [h3]; decide, ?_⟩
  rintro G1 rfl
  refine ⟨k1, h1, ?_⟩
  rintro G2 rfl
  refine k _ ⟨h1, h2, h3, ?_, k5, fun j hj => ?_, k7⟩ ((cg.sA (Or.inr rfl)).tr (cg.sI (Or.inl rfl)))
  · rw [gI_sI, if_pos ⟨rfl, rfl⟩]; exact k4
  · show gA (sA G bb (va_cpy (gA G cc) (gA G bb) 0 0 37)) bb j = _
    rw [gA_sA, pk_cpy_in (Nat.zero_le _) (by omega)]
    simpa using k6 j hj
end FR2
