/-! ===== the constructors: listener, gateway, reference ===== -/
/-- a new array put into the object at m -/
theorem nc_a {J K : Gt} {n f m : Nat} (e : K = sR (nA J n) f m (some (gH J))) (hm : m < gH J) : gH K = gH J + 1 ∧ gU K = gU J + n ∧ gT K (gH J) = (2, n) ∧ gA K (gH J) = (fun _ => 0) ∧ (∀ x, x < gH J → gT K x = gT J x) ∧ (∀ x, x < gH J → gA K x = gA J x) ∧ (∀ f', gR K f' m = if f' = f then some (gH J) else gR J f' m) ∧ (∀ f', gI K f' m = gI J f' m) ∧ ∀ G, ch G J (fun _ => False) → gH G ≤ m → ch G K (fun _ => False) := by
  subst e
  refine ⟨rfl, rfl, nA_t (g := J), nA_a (g := J) (n := n), fun x hx => (nA_o (g := J) (n := n) (a := x) (by omega)).1, fun x hx => (nA_o (g := J) (n := n) (a := x) (by omega)).2.2.2.2.1, fun f' => ?_, fun f' => (nA_o (g := J) (n := n) (a := m) (by omega)).2.1 f', fun G h1 h2 => cn_sR (h1.tr ch.nA) h2⟩
  rw [gR_sR]
  by_cases e : f' = f
  · rw [if_pos ⟨e, rfl⟩, if_pos e]
  · rw [if_neg (fun z => e z.1), if_neg e]
    exact (nA_o (g := J) (n := n) (a := m) (by omega)).2.2.2.1 f'
theorem sA_sA {G : Gt} {a : Nat} {f f' : Nat → Int32} : sA (sA G a f) a f' = sA G a f' := by
  refine Prod.ext rfl (Prod.ext rfl (Prod.ext rfl (Prod.ext rfl (Prod.ext rfl (Prod.ext ?_ rfl)))))
  show va_up (va_up G.2.2.2.2.2.1 a f) a f' = va_up G.2.2.2.2.2.1 a f'
  funext x
  by_cases e : x = a
  · subst e; rw [va_up_self, va_up_self]
  · rw [va_up_ne _ _ e, va_up_ne _ _ e, va_up_ne _ _ e]
theorem gA_sAs {G : Gt} {a : Nat} {f : Nat → Int32} : gA (sA G a f) a = f := va_up_self _ _ _
theorem KT.eq {G G' : Gt} {c : Nat} (h : KT G c) (e : ∀ x, c ≤ x → x ≤ c + 25 → eqAt G G' x) (hh : gH G ≤ gH G') : KT G' c := by
  obtain ⟨h0, h1, ⟨r1, r2, r3, r4, r5, r6, r7⟩, ⟨t1, t2, t3, b0, b1, b2⟩, d1, d2, d3, cc, ⟨f1, f2, f3⟩, u1, u2⟩ := h
  have gt : ∀ {x : Nat} {v : Nat × Nat}, c ≤ x → x ≤ c + 25 → gT G x = v → gT G' x = v := fun q1 q2 hv => (e _ q1 q2).1.trans hv
  have gr : ∀ {f x : Nat} {v : Option Nat}, c ≤ x → x ≤ c + 25 → gR G f x = v → gR G' f x = v := fun q1 q2 hv => ((e _ q1 q2).2.2.2.1 _).trans hv
  have hb : gB G' (c + 3) = gB G (c + 3) := (e _ (by omega) (by omega)).2.2.2.2.2.1
  refine ⟨by omega, gt (by omega) (by omega) h1, ⟨gr (by omega) (by omega) r1, gr (by omega) (by omega) r2, gr (by omega) (by omega) r3, gr (by omega) (by omega) r4, gr (by omega) (by omega) r5, gr (by omega) (by omega) r6, gr (by omega) (by omega) r7⟩, ⟨gt (by omega) (by omega) t1, gt (by omega) (by omega) t2, gt (by omega) (by omega) t3, by rw [hb]; exact b0, by rw [hb]; exact b1, by rw [hb]; exact b2⟩, d1.eq (fun x q1 q2 => e x (by omega) (by omega)), d2.eq (fun x q1 q2 => e x (by omega) (by omega)), d3.eq (fun x q1 q2 => e x (by omega) (by omega)), cc.eq (fun x q1 q2 => e x (by omega) (by omega)), ⟨gt (by omega) (by omega) f1, gr (by omega) (by omega) f2, gt (by omega) (by omega) f3⟩, gt (by omega) (by omega) u1, gt (by omega) (by omega) u2⟩
section INITS
variable {X : Xt} {G : Gt}
theorem sp_newListener {Pr : Gt → Prop} (r1 : gH G + 3 ≤ xC X) (r2 : gU G + 26 ≤ xS X) (k : ∀ G', LH G' (gH G) (gH G + 1) (gH G + 2) H0 → gH G' = gH G + 3 → gU G' = gU G + 26 → ch G G' (fun _ => False) → Pr G') : wX5_init X (nO G 6 6) (gH G) Pr := by
  refine ⟨by show gH G + 1 + 1 ≤ _; omega, by show gU G + 6 + 10 ≤ _; omega, ?_⟩
  have n1 : gH (nO G 6 6) = gH G + 1 := rfl
  have n2 : gU (nO G 6 6) = gU G + 6 := rfl
  have n3 : gT (nO G 6 6) (gH G) = (1, 6) := nO_t
  have n4 : ch G (nO G 6 6) (fun _ => False) := ch.nO
  revert n1 n2 n3 n4
  generalize nO G 6 6 = J
  intro n1 n2 n3 n4
  rintro G1 rfl
  refine ⟨((nA_o (by omega)).1).trans n3, ?_⟩
  intro A eA
  obtain ⟨a1, a2, a3, a4, a5, a6, a7, a8, a9⟩ := nc_a eA (by omega)
  have cA := a9 G n4 (Nat.le_refl _)
  refine ⟨by omega, by omega, ?_⟩
  rintro G3 rfl
  refine ⟨((nA_o (by omega)).1).trans ((a5 _ (by omega)).trans n3), ?_⟩
  intro B eB
  obtain ⟨b1, b2, b3, b4, b5, b6, b7, b8, b9⟩ := nc_a eB (by omega)
  have cB := b9 G cA (Nat.le_refl _)
  have bT : gT B (gH G) = (1, 6) := (b5 _ (by omega)).trans ((a5 _ (by omega)).trans n3)
  refine ⟨bT, ?_⟩
  rintro G5 rfl
  refine ⟨bT, ?_⟩
  rintro G6 rfl
  refine ⟨bT, ?_⟩
  rintro G7 rfl
  refine ⟨bT, ?_⟩
  rintro G8 rfl
  rw [n1] at a3 a4 a7
  rw [a1, n1] at b3 b4 b7
  refine k _ ⟨bT, ?_, ?_, ?_, ?_, ?_, ?_, ?_, ?_, fun j hj => ?_, fun j hj => ?_⟩ ?_ ?_ ?_
  · show gR B 192 (gH G) = _
    rw [b7, if_neg (by decide), a7, if_pos rfl]
  · show gR B 193 (gH G) = _
    rw [b7, if_pos rfl]
  · show gT B (gH G + 1) = _
    rw [b5 _ (by omega)]; exact a3
  · show gT B (gH G + 2) = _
    exact b3
  · simp [gI_sI]; rfl
  · simp [gI_sI]; rfl
  · simp [gI_sI]; rfl
  · simp [gI_sI]; rfl
  · show gA B (gH G + 1) j = _
    rw [b6 _ (by omega), a4]; rfl
  · show gA B (gH G + 2) j = _
    rw [show gH G + 2 = gH G + 1 + 1 from rfl, b4]; rfl
  · show gH B = _; omega
  · show gU B = _; omega
  · exact cn_sI (cn_sI (cn_sI (cn_sI cB (Nat.le_refl _)) (Nat.le_refl _)) (Nat.le_refl _)) (Nat.le_refl _)
/-- the colours of a new gateway with its core and listener -/
def gcol (g x : Nat) : Nat := if x = g ∨ g + 27 ≤ x then 8 else if x < g + 1 + 19 then 3 else if x < g + 1 + 21 then 2 else if x < g + 1 + 24 then 1 else 3
theorem fx_new {Pr : Gt → Prop} (hx : xde X < gH G) (hxt : gT G (xde X) = (6, 0)) (r1 : gH G + 40 ≤ xC X) (r2 : gU G + 1000 ≤ xS X)
    (k : ∀ G', FX X (gcol (gH G)) G' (gH G) (gH G + 1) (gH G + 27) S0 H0 0 → gH G' = gH G + 30 → gU G' = gU G + 458 → ch G G' (fun _ => False) → Pr G') : wX9_init X (nO G 10 3) (gH G) Pr := by
  have n1 : gH (nO G 10 3) = gH G + 1 := rfl
  have n2 : gU (nO G 10 3) = gU G + 3 := rfl
  have n3 : gT (nO G 10 3) (gH G) = (1, 10) := nO_t
  have n4 : ch G (nO G 10 3) (fun _ => False) := ch.nO
  have n5 : gR (nO G 10 3) 322 (gH G) = none := if_pos rfl
  have n6 : gT (nO G 10 3) (xde X) = (6, 0) := ((nO_o (by omega)).1).trans hxt
  revert n1 n2 n3 n4 n5 n6
  generalize nO G 10 3 = J
  intro n1 n2 n3 n4 n5 n6
  refine ⟨by omega, by omega, ?_⟩
  rintro G1 rfl
  refine sp_newCore (by omega) n6 (by omega) (by omega) (fun A kt kn kd cc r224 al1 r160 r161 al2 al3 i74 hH hU c1 => ?_)
  rw [n1] at kt kn kd cc r224 al1 r160 r161 al2 al3
  have eg := c1.2.2.1 (gH G) (by omega) (fun z => z)
  refine ⟨eg.1.trans n3, ?_⟩
  intro B eB
  rw [n1] at eB
  obtain ⟨b1, b2, b3, b4, b5, b6⟩ := nc_f eB
  have cB := b6 G (n4.tr c1) (Nat.le_refl _)
  refine ⟨by omega, by omega, ?_⟩
  rintro G4 rfl
  refine sp_newListener (by omega) (by omega) (fun D lh dH dU c2 => ?_)
  have e27 : gH B = gH G + 27 := by omega
  rw [e27] at lh
  have eg2 := c2.2.2.1 (gH G) (by omega) (fun z => z)
  refine ⟨eg2.1.trans ((b3 _).trans (eg.1.trans n3)), ?_⟩
  intro E eE
  rw [e27] at eE
  obtain ⟨f1, f2, f3, f4, f5, f6⟩ := nc_f eE
  have cE := f6 G (cB.tr c2) (Nat.le_refl _)
  have gT' : gT E (gH G) = (1, 10) := (f3 _).trans (eg2.1.trans ((b3 _).trans (eg.1.trans n3)))
  -- what lies in A lies in E
  have keep : ∀ x, x < gH A → x ≠ gH G → eqAt A E x := fun x q1 q2 => ((b4 x q2).tr (c2.2.2.1 x (by omega) (fun z => z))).tr (f4 x q2)
  have kx : ∀ x, gH G + 1 ≤ x → x ≤ gH G + 1 + 25 → eqAt A E x := fun x q1 q2 => keep x (by omega) (by omega)
  have ex : eqAt A E (xde X) := keep _ (by omega) (by omega)
  have hAE : gH A ≤ gH E := by omega
  have ks : KS (gcol (gH G)) 1 (gH G + 1) := fun x q1 q2 => by
    unfold gcol
    rw [if_neg (by omega)]
  have cp : CP X (gcol (gH G)) 1 E (gH G + 1) 166 0 0 [] [] [] [] [] S0 true := cp_new (by omega) ks (kt.eq kx hAE) (kn.keep (kx _ (by omega) (by omega)) (kx _ (by omega) (by omega)) (kx _ (by omega) (by omega))) (kd.keep (fun x q1 q2 => kx x (by omega) (by omega))) (cc.keep (kx _ (by omega) (by omega)) (kx _ (by omega) (by omega))) (((kx _ (by omega) (by omega)).2.2.2.1 _).trans r224) (al0 al1 (kx _ (by omega) (by omega)) ex hAE) (((kx _ (by omega) (by omega)).2.2.2.1 _).trans r160) (((kx _ (by omega) (by omega)).2.2.2.1 _).trans r161) (al0 al2 (kx _ (by omega) (by omega)) ex hAE) (al0 al3 (kx _ (by omega) (by omega)) ex hAE)
  have cg8 : ∀ x, (x = gH G ∨ gH G + 27 ≤ x) → gcol (gH G) x = 8 := fun x hx => if_pos hx
  have r322 : gR E 322 (gH G) = none := by
    rw [f5, if_neg (by decide), eg2.2.2.2.1, b5, if_neg (by decide), eg.2.2.2.1]; exact n5
  have r320 : gR E 320 (gH G) = some (gH G + 1) := by
    rw [f5, if_neg (by decide), eg2.2.2.2.1, b5, if_pos rfl]
  have r321 : gR E 321 (gH G) = some (gH G + 27) := by
    rw [f5, if_pos rfl]
  refine k E ⟨⟨gT', r320, r321, by omega, by omega, cg8 _ (Or.inl rfl), cg8 _ (Or.inr (by omega)), cg8 _ (Or.inr (by omega)), cg8 _ (Or.inr (by omega)), by omega, ex.1.trans ((c1.2.1 _ (by omega)).trans n6)⟩, lh.keep (f4 _ (by omega)) (f4 _ (by omega)) (f4 _ (by omega)), 0, 0, 0, [], [], [], [], cp, Or.inl ⟨r322, rfl⟩, rfl⟩ (by omega) (by omega) cE
end INITS
