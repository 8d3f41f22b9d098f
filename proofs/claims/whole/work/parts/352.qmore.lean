/-! ===== Queue: append, countOf; new requests ===== -/
/-- how many of the first n requests are the client's and in the state -/
def cntR (R : Nat → Nat → Nat) (cl st : Nat) : Nat → Nat
  | 0 => 0
  | n + 1 => cntR R cl st n + if R n 0 = cl ∧ R n 5 = st then 1 else 0
theorem cntR_le (R : Nat → Nat → Nat) (cl st : Nat) : ∀ n, cntR R cl st n ≤ n
  | 0 => Nat.le_refl _
  | n + 1 => by
    have := cntR_le R cl st n
    show cntR R cl st n + (if R n 0 = cl ∧ R n 5 = st then 1 else 0) ≤ n + 1
    split <;> omega
section QMORE
variable {X : Xt} {sd : Nat → Nat} {s : Nat} {G : Gt} {u z : Nat} {qs : List Nat} {R : Nat → Nat → Nat} {W : Nat → Int32} {V : Nat → Nat → Nat} {fu : Bool}
theorem sp_countOf {cl st : Nat} {Pr : Int32 → Gt → Prop} {Px : String → Gt → Prop} (h : QU X sd s G u z qs R W V fu) (hc : cl < 2 ^ 31) (hst : st < 2 ^ 31) (hp : Pr (nI (cntR R cl st qs.length)) G) : wX6_countOf X G u (nI cl) (nI st) Pr Px := by
  obtain ⟨t1, t2, t3, t4, t5, _, t7, t8⟩ := h.t
  refine ⟨fun g a0 x1 x2 x3 x4 => g = G ∧ a0 = u ∧ x1 = nI cl ∧ x2 = nI st ∧ ∃ i, x4 = nI i ∧ i ≤ qs.length ∧ x3 = nI (cntR R cl st i), fun _ _ _ _ _ x4 => qs.length - x4.toNatClampNeg, ⟨rfl, rfl, rfl, rfl, 0, rfl, by omega, rfl⟩, ?_⟩
  rintro g a0 x1 x2 x3 x4 ⟨rfl, rfl, rfl, rfl, i, rfl, hi, rfl⟩
  refine ⟨t1, a0 + 1, t2, t7, q_size h ⟨fun q => ?_, fun q => ?_⟩⟩
  · have q' : qs.length ≤ i := (n_le (by omega) (by omega)).mp q
    have e : i = qs.length := by omega
    rw [← e] at hp
    exact hp
  · have q' : i < qs.length := Nat.lt_of_not_le (fun e => q ((n_le (by omega) (by omega)).mpr e))
    have dec : qs.length - (nI i + 1).toNatClampNeg < qs.length - (nI i).toNatClampNeg := by
      rw [nI_1, n_cl (by omega), n_cl (by omega)]; omega
    obtain ⟨_, _, _, ⟨a1, a2, a3, b0, b1, b2, b3, b4, b5, b6, b7, b8, b9⟩, ⟨w0, w1, w2, w3, w4, w5, w6, w7, w8, _⟩, _⟩ := h.e q'
    have no : ¬ (R i 0 = cl ∧ R i 5 = st) → ∃ i', nI i + 1 = nI i' ∧ i' ≤ qs.length ∧ nI (cntR R cl st i) = nI (cntR R cl st i') := fun hn => ⟨i + 1, nI_1 i, by omega, by
      show _ = nI (cntR R cl st i + if R i 0 = cl ∧ R i 5 = st then 1 else 0)
      rw [if_neg hn]; rfl⟩
    refine ⟨t1, a0 + 1, t2, t7, q_get h q' ⟨_, rfl, a1, a1, fun zz => ⟨⟨rfl, rfl, rfl, rfl, no (fun e => zz (by rw [b0, e.1]))⟩, dec⟩, fun zz => ⟨a1, fun z2 => ⟨⟨rfl, rfl, rfl, rfl, no (fun e => z2 (by rw [b6, e.2]))⟩, dec⟩, fun z2 => ⟨⟨rfl, rfl, rfl, rfl, i + 1, nI_1 i, by omega, ?_⟩, dec⟩⟩⟩⟩
    rw [b0] at zz
    rw [b6] at z2
    show nI (cntR R cl st i) + 1 = nI (cntR R cl st i + if R i 0 = cl ∧ R i 5 = st then 1 else 0)
    rw [if_pos ⟨n_inj (by omega) hc zz, n_inj (by omega) hst z2⟩, nI_1]
theorem sp_newReq {c d st n w : Nat} {Pr : Gt → Prop} (hn : 1 ≤ n ∧ n ≤ 16) (hw : w ≤ 1) (r1 : gH G + 2 ≤ xC X) (r2 : gU G + 11 + 16 ≤ xS X)
    (k : ∀ G' (R : Nat → Nat), (R 0 = c ∧ R 1 = d ∧ R 2 = st ∧ R 3 = n ∧ R 4 = w ∧ R 5 = 0 ∧ R 6 = 0 ∧ R 8 = 0 ∧ R 9 = 0) → RQ G' (gH G) R (-1) → gI G' 298 (gH G) = 0 → gH G' = gH G + 2 → gU G' ≤ gU G + 27 → ch G G' (fun _ => False) → Pr G') : wX8_init X (nO G 9 11) (gH G) (nI c) (nI d) (nI st) (nI n) (nI w) Pr := by
  have k0 : gT (nO G 9 11) (gH G) = (1, 9) := va_up_self _ _ _
  refine ⟨k0, ?_⟩
  rintro G1 rfl
  refine ⟨k0, ?_⟩
  rintro G2 rfl
  refine ⟨k0, ?_⟩
  rintro G3 rfl
  refine ⟨k0, ?_⟩
  rintro G4 rfl
  refine ⟨k0, ?_⟩
  rintro G5 rfl
  refine ⟨k0, ?_⟩
  rintro G6 rfl
  refine ⟨k0, ?_⟩
  rintro G7 rfl
  refine ⟨k0, ?_⟩
  rintro G8 rfl
  refine ⟨k0, ?_⟩
  rintro G9 rfl
  refine ⟨k0, ?_, ?_⟩
  · rcases (show w = 0 ∨ w = 1 by omega) with e | e <;> rw [e]
    · exact Or.inl rfl
    · exact Or.inr rfl
  rintro G10 rfl
  refine sp_min (q := 16) (by omega) (by decide) (sp_max (p := 1) (by decide) (by omega) ?_)
  rw [show max 1 (min n 16) = n by omega, n_cl (by omega)]
  refine ⟨n_neg (by omega), by omega, by show gH G + 1 + 1 ≤ _; omega, by show gU G + 11 + n ≤ _; omega, ?_⟩
  rintro G11 rfl
  have kk : ∀ (g : Gt), gT g (gH G) = (1, 9) → gH g = gH G + 1 → gT (nA g n) (gH G) = (1, 9) := fun g h1 h2 => by
    show va_up _ (gH g) (2, n) (gH G) = _
    rw [va_up_ne _ _ (by omega)]; exact h1
  refine ⟨kk _ k0 rfl, ?_⟩
  rintro G12 rfl
  refine k _ (fun j => if j = 0 then c else if j = 1 then d else if j = 2 then st else if j = 3 then n else if j = 4 then w else 0) ⟨rfl, rfl, rfl, rfl, rfl, rfl, rfl, rfl, rfl⟩ ?_ ?_ rfl ?_ ?_
  · refine ⟨kk _ k0 rfl, ?_, ?_, ?_, ?_, ?_, ?_, ?_, ?_, ?_, ?_, ?_, fun z => ?_⟩
    · show gR (sR _ 294 (gH G) (some (gH G + 1))) 294 (gH G) = _
      rw [gR_sR, if_pos ⟨rfl, rfl⟩]
    · exact va_up_self _ _ _
    · show gI (sI (sI (sI (sI (sI (sI (sI (sI (sI (sI (nO G 9 11) 295 (gH G) 0) 296 (gH G) 0) 297 (gH G) (-1)) 298 (gH G) 0) 288 (gH G) (nI c)) 289 (gH G) (nI d)) 290 (gH G) (nI st)) 291 (gH G) (nI n)) 292 (gH G) (nI st + nI n)) 293 (gH G) (nI w)) 288 (gH G) = nI c
      simp [gI_sI]
    · show gI (sI (sI (sI (sI (sI (sI (sI (sI (sI (sI (nO G 9 11) 295 (gH G) 0) 296 (gH G) 0) 297 (gH G) (-1)) 298 (gH G) 0) 288 (gH G) (nI c)) 289 (gH G) (nI d)) 290 (gH G) (nI st)) 291 (gH G) (nI n)) 292 (gH G) (nI st + nI n)) 293 (gH G) (nI w)) 289 (gH G) = nI d
      simp [gI_sI]
    · show gI (sI (sI (sI (sI (sI (sI (sI (sI (sI (sI (nO G 9 11) 295 (gH G) 0) 296 (gH G) 0) 297 (gH G) (-1)) 298 (gH G) 0) 288 (gH G) (nI c)) 289 (gH G) (nI d)) 290 (gH G) (nI st)) 291 (gH G) (nI n)) 292 (gH G) (nI st + nI n)) 293 (gH G) (nI w)) 290 (gH G) = nI st
      simp [gI_sI]
    · show gI (sI (sI (sI (sI (sI (sI (sI (sI (sI (sI (nO G 9 11) 295 (gH G) 0) 296 (gH G) 0) 297 (gH G) (-1)) 298 (gH G) 0) 288 (gH G) (nI c)) 289 (gH G) (nI d)) 290 (gH G) (nI st)) 291 (gH G) (nI n)) 292 (gH G) (nI st + nI n)) 293 (gH G) (nI w)) 291 (gH G) = nI n
      simp [gI_sI]
    · show gI (sI (sI (sI (sI (sI (sI (sI (sI (sI (sI (nO G 9 11) 295 (gH G) 0) 296 (gH G) 0) 297 (gH G) (-1)) 298 (gH G) 0) 288 (gH G) (nI c)) 289 (gH G) (nI d)) 290 (gH G) (nI st)) 291 (gH G) (nI n)) 292 (gH G) (nI st + nI n)) 293 (gH G) (nI w)) 292 (gH G) = nI (st + n)
      simp [gI_sI, n_add]
    · show gI (sI (sI (sI (sI (sI (sI (sI (sI (sI (sI (nO G 9 11) 295 (gH G) 0) 296 (gH G) 0) 297 (gH G) (-1)) 298 (gH G) 0) 288 (gH G) (nI c)) 289 (gH G) (nI d)) 290 (gH G) (nI st)) 291 (gH G) (nI n)) 292 (gH G) (nI st + nI n)) 293 (gH G) (nI w)) 293 (gH G) = nI w
      simp [gI_sI]
    · show gI (sI (sI (sI (sI (sI (sI (sI (sI (sI (sI (nO G 9 11) 295 (gH G) 0) 296 (gH G) 0) 297 (gH G) (-1)) 298 (gH G) 0) 288 (gH G) (nI c)) 289 (gH G) (nI d)) 290 (gH G) (nI st)) 291 (gH G) (nI n)) 292 (gH G) (nI st + nI n)) 293 (gH G) (nI w)) 295 (gH G) = nI 0
      simp [gI_sI]; rfl
    · show gI (sI (sI (sI (sI (sI (sI (sI (sI (sI (sI (nO G 9 11) 295 (gH G) 0) 296 (gH G) 0) 297 (gH G) (-1)) 298 (gH G) 0) 288 (gH G) (nI c)) 289 (gH G) (nI d)) 290 (gH G) (nI st)) 291 (gH G) (nI n)) 292 (gH G) (nI st + nI n)) 293 (gH G) (nI w)) 296 (gH G) = nI 0
      simp [gI_sI]; rfl
    · show gI (sI (sI (sI (sI (sI (sI (sI (sI (sI (sI (nO G 9 11) 295 (gH G) 0) 296 (gH G) 0) 297 (gH G) (-1)) 298 (gH G) 0) 288 (gH G) (nI c)) 289 (gH G) (nI d)) 290 (gH G) (nI st)) 291 (gH G) (nI n)) 292 (gH G) (nI st + nI n)) 293 (gH G) (nI w)) 297 (gH G) = -1
      simp [gI_sI]
    · have e : gA (nA (sI (sI (sI (sI (sI (sI (sI (sI (sI (sI (nO G 9 11) 295 (gH G) 0) 296 (gH G) 0) 297 (gH G) (-1)) 298 (gH G) 0) 288 (gH G) (nI c)) 289 (gH G) (nI d)) 290 (gH G) (nI st)) 291 (gH G) (nI n)) 292 (gH G) (nI st + nI n)) 293 (gH G) (nI w)) n) (gH G + 1) = fun _ => 0 := va_up_self _ _ _
      show gA (nA (sI (sI (sI (sI (sI (sI (sI (sI (sI (sI (nO G 9 11) 295 (gH G) 0) 296 (gH G) 0) 297 (gH G) (-1)) 298 (gH G) 0) 288 (gH G) (nI c)) 289 (gH G) (nI d)) 290 (gH G) (nI st)) 291 (gH G) (nI n)) 292 (gH G) (nI st + nI n)) 293 (gH G) (nI w)) n) (gH G + 1) 0 = _
      rw [e]; rfl
  · show gI (sI (sI (sI (sI (sI (sI (sI (sI (sI (sI (nO G 9 11) 295 (gH G) 0) 296 (gH G) 0) 297 (gH G) (-1)) 298 (gH G) 0) 288 (gH G) (nI c)) 289 (gH G) (nI d)) 290 (gH G) (nI st)) 291 (gH G) (nI n)) 292 (gH G) (nI st + nI n)) 293 (gH G) (nI w)) 298 (gH G) = 0
    simp [gI_sI]
  · show gU G + 11 + n ≤ gU G + 27; omega
  · refine cn_sR (ch.tr (cn_sI (cn_sI (cn_sI (cn_sI (cn_sI (cn_sI (cn_sI (cn_sI (cn_sI (cn_sI ch.nO ?_) ?_) ?_) ?_) ?_) ?_) ?_) ?_) ?_) ?_) ch.nA) ?_
    all_goals exact Nat.le_refl _
theorem sp_append {y : Nat} {Pr : Int32 → Gt → Prop} (h : QU X sd s G u z qs R W V fu) (hl : qs.length < 40) (hy : QE sd s G y (R qs.length) (W qs.length) (V qs.length) fu) (hny : y ∉ qs) (hx : xde X < gH G) (hs : ∀ a, gH G ≤ a → sd a = s) (r1 : gH G + 1 ≤ xC X) (r2 : gU G + 90 ≤ xS X)
    (k : ∀ G' z', QU X sd s G' u z' (qs ++ [y]) R W V fu → ch G G' (fun a => sd a = s) → z' ≤ 170 → gH G' + z + 2 ≤ gH G + z' → gU G' + 14 * z + 28 ≤ gU G + 14 * z' → z ≤ z' → Pr (nI qs.length) G') : wX6_append X G u y Pr := by
  obtain ⟨b, c, ⟨t1, t2, t3, t4, t5⟩, h2, h3, h4, h5, h6, h7, h8⟩ := h
  have hyo : y < gH G ∧ (gT G y).1 = 1 ∧ (gT G y).2 < 12 := by
    have q := hy.1
    rw [hy.2.2.2.1.1]
    exact ⟨by omega, rfl, (by show (9 : Nat) < 12; decide)⟩
  refine ⟨t1, u + 1, t2, h2.1, sp_add (N := 40) h2 hyo hl (by decide) h6 hx r1 r2 (fun G' b' c' a1 a2 a3 a4 a5 a6 a7 => ?_)⟩
  have en := a5.2.1 u t3
  have er := a5.2.2.2.1 224 u t3 (by decide) (by decide)
  refine ⟨en.trans t1, u + 1, er.trans t2, a1.1, sp_size a1 ?_⟩
  have e : nI (qs ++ [y]).length - 1 = nI qs.length := by
    rw [List.length_append]; exact nI_pred _
  rw [e]
  have notp : ∀ {x : Nat}, (gT G x = (1, 9) ∨ (gT G x).1 = 2) → ¬ (x = u + 1 ∨ (x = b ∧ b ≠ xde X)) := by
    intro x hx hh
    have := h2.pk x hh
    rcases hx with e | e
    · rw [e] at this; simp at this
    · rcases this with e2 | e2
      · rw [e2] at e; simp at e
      · omega
  refine k G' (c' + 2 * (qs ++ [y]).length) ⟨b', c', ⟨en.trans t1, er.trans t2, Nat.lt_of_lt_of_le t3 a5.1, t4, t5⟩, a1, ?_, ?_, by simp; omega, by omega, rfl, fun j hj => ?_⟩ (a5.mono (fun a _ hh => ?_)) (by simp; omega) (by simp; omega) (by simp; omega) (by simp; omega)
  · intro hb
    rcases a4 with e2 | e2
    · rw [e2] at hb ⊢; exact h3 hb
    · exact hs _ e2
  · rw [List.nodup_append]
    refine ⟨h4, by simp, fun a ha b hb => ?_⟩
    rw [List.mem_singleton.mp hb]
    intro e2; rw [e2] at ha; exact hny ha
  · have hj' : j < qs.length + 1 := by simpa using hj
    by_cases e2 : j = qs.length
    · subst e2
      rw [gd_eq]
      exact hy.keep a5 (notp (Or.inl hy.2.2.2.1.1)) (notp (Or.inr (by rw [hy.2.2.2.1.2.2.1])))
    · rw [gd_lt (by omega)]
      have q := h8 j (by omega)
      exact q.keep a5 (notp (Or.inl q.2.2.2.1.1)) (notp (Or.inr (by rw [q.2.2.2.1.2.2.1])))
  · rcases hh with e2 | ⟨e2, e3⟩
    · rw [e2]; exact t5
    · rw [e2]; exact h3 e3
end QMORE
