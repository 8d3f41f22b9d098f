/-! ===== LAYER 2: the pure heap read and written ===== -/
section LENS
variable {G : Gt} {f f' a b : Nat}
theorem gI_sI {x : Int32} : gI (sI G f a x) f' b = if f' = f ∧ b = a then x else gI G f' b := rfl
theorem gJ_sJ {x : Int64} : gJ (sJ G f a x) f' b = if f' = f ∧ b = a then x else gJ G f' b := rfl
theorem gR_sR {x : Option Nat} : gR (sR G f a x) f' b = if f' = f ∧ b = a then x else gR G f' b := rfl
theorem gA_sA' {g : Nat → Int32} : gA (sA G a g) b = if b = a then g else gA G b := rfl
theorem gB_sB' {g : Nat → Option Nat} : gB (sB G a g) b = if b = a then g else gB G b := rfl
theorem gE_sE' {g : Nat → Int64} : gE (sE G a g) b = if b = a then g else gE G b := rfl
end LENS
/-- two heaps agree at an address -/
def eqAt (G G' : Gt) (a : Nat) : Prop := gT G' a = gT G a ∧ (∀ f, gI G' f a = gI G f a) ∧ (∀ f, gJ G' f a = gJ G f a) ∧ (∀ f, gR G' f a = gR G f a) ∧ gA G' a = gA G a ∧ gB G' a = gB G a ∧ gE G' a = gE G a
theorem eqAt.rf {G : Gt} {a : Nat} : eqAt G G a := ⟨rfl, fun _ => rfl, fun _ => rfl, fun _ => rfl, rfl, rfl, rfl⟩
theorem eqAt.tr {G G' G'' : Gt} {a : Nat} (h1 : eqAt G G' a) (h2 : eqAt G' G'' a) : eqAt G G'' a :=
  ⟨h2.1.trans h1.1, fun f => (h2.2.1 f).trans (h1.2.1 f), fun f => (h2.2.2.1 f).trans (h1.2.2.1 f), fun f => (h2.2.2.2.1 f).trans (h1.2.2.2.1 f), h2.2.2.2.2.1.trans h1.2.2.2.2.1, h2.2.2.2.2.2.1.trans h1.2.2.2.2.2.1, h2.2.2.2.2.2.2.trans h1.2.2.2.2.2.2⟩
theorem eqAt.sI {G : Gt} {f a b : Nat} {x : Int32} (h : b ≠ a) : eqAt G (sI G f a x) b := ⟨rfl, fun _ => up2_ne (fun z => h z.2), fun _ => rfl, fun _ => rfl, rfl, rfl, rfl⟩
theorem eqAt.sJ {G : Gt} {f a b : Nat} {x : Int64} (h : b ≠ a) : eqAt G (sJ G f a x) b := ⟨rfl, fun _ => rfl, fun _ => up2_ne (fun z => h z.2), fun _ => rfl, rfl, rfl, rfl⟩
theorem eqAt.sR {G : Gt} {f a b : Nat} {x : Option Nat} (h : b ≠ a) : eqAt G (sR G f a x) b := ⟨rfl, fun _ => rfl, fun _ => rfl, fun _ => up2_ne (fun z => h z.2), rfl, rfl, rfl⟩
theorem eqAt.sA {G : Gt} {a b : Nat} {g : Nat → Int32} (h : b ≠ a) : eqAt G (sA G a g) b := ⟨rfl, fun _ => rfl, fun _ => rfl, fun _ => rfl, va_up_ne _ _ h, rfl, rfl⟩
theorem eqAt.sB {G : Gt} {a b : Nat} {g : Nat → Option Nat} (h : b ≠ a) : eqAt G (sB G a g) b := ⟨rfl, fun _ => rfl, fun _ => rfl, fun _ => rfl, rfl, va_up_ne _ _ h, rfl⟩
theorem eqAt.sE {G : Gt} {a b : Nat} {g : Nat → Int64} (h : b ≠ a) : eqAt G (sE G a g) b := ⟨rfl, fun _ => rfl, fun _ => rfl, fun _ => rfl, rfl, rfl, va_up_ne _ _ h⟩
theorem eqAt.nO {G : Gt} {b ci n : Nat} (h : b ≠ gH G) : eqAt G (nO G ci n) b := ⟨va_up_ne _ _ h, fun _ => if_neg h, fun _ => if_neg h, fun _ => if_neg h, rfl, rfl, rfl⟩
theorem eqAt.nA {G : Gt} {b n : Nat} (h : b ≠ gH G) : eqAt G (nA G n) b := ⟨va_up_ne _ _ h, fun _ => rfl, fun _ => rfl, fun _ => rfl, va_up_ne _ _ h, rfl, rfl⟩
theorem eqAt.nB {G : Gt} {b k n : Nat} (h : b ≠ gH G) : eqAt G (nB G k n) b := ⟨va_up_ne _ _ h, fun _ => rfl, fun _ => rfl, fun _ => rfl, rfl, va_up_ne _ _ h, rfl⟩
theorem eqAt.nE {G : Gt} {b n : Nat} (h : b ≠ gH G) : eqAt G (nE G n) b := ⟨va_up_ne _ _ h, fun _ => rfl, fun _ => rfl, fun _ => rfl, rfl, rfl, va_up_ne _ _ h⟩
theorem eqAt.nX {G : Gt} {b h u : Nat} : eqAt G (nX G h u) b := ⟨rfl, fun _ => rfl, fun _ => rfl, fun _ => rfl, rfl, rfl, rfl⟩
/-! the reference's own state: its arrays by their slots, its numbers by their fields, its members -/
abbrev Tt : Type := (Nat → Nat → Int32) × (Nat → Int32) × Int64
def tA (t : Tt) (k : Nat) : Nat → Int32 := t.1 k
def tS (t : Tt) (f : Nat) : Int32 := t.2.1 f
def tJ (t : Tt) : Int64 := t.2.2
def uA (t : Tt) (k : Nat) (g : Nat → Int32) : Tt := (va_up t.1 k g, t.2)
def uS (t : Tt) (f : Nat) (x : Int32) : Tt := (t.1, va_up t.2.1 f x, t.2.2)
def uJ (t : Tt) (x : Int64) : Tt := (t.1, t.2.1, x)
theorem tA_uA {t : Tt} {k j : Nat} {g : Nat → Int32} : tA (uA t k g) j = if j = k then g else tA t j := rfl
theorem tA_uS {t : Tt} {f j : Nat} {x : Int32} : tA (uS t f x) j = tA t j := rfl
theorem tA_uJ {t : Tt} {j : Nat} {x : Int64} : tA (uJ t x) j = tA t j := rfl
theorem tS_uA {t : Tt} {k f : Nat} {g : Nat → Int32} : tS (uA t k g) f = tS t f := rfl
theorem tS_uS {t : Tt} {f f' : Nat} {x : Int32} : tS (uS t f x) f' = if f' = f then x else tS t f' := rfl
theorem tS_uJ {t : Tt} {f : Nat} {x : Int64} : tS (uJ t x) f = tS t f := rfl
theorem tJ_uA {t : Tt} {k : Nat} {g : Nat → Int32} : tJ (uA t k g) = tJ t := rfl
theorem tJ_uS {t : Tt} {f : Nat} {x : Int32} : tJ (uS t f x) = tJ t := rfl
theorem tJ_uJ {t : Tt} {x : Int64} : tJ (uJ t x) = x := rfl
/-- the heap G with the reference at m, its arrays at ℓ, in the state t -/
def mk (G : Gt) (m : Nat) (ℓ : Nat → Nat) (t : Tt) : Gt := (G.1, G.2.1, (fun f a => if a = m then tS t f else gI G f a), (fun f a => if f = 355 ∧ a = m then tJ t else gJ G f a), G.2.2.2.2.1,
  (fun a => if a = ℓ 0 then tA t 0 else if a = ℓ 1 then tA t 1 else if a = ℓ 9 then tA t 9 else if a = ℓ 11 then tA t 11 else if a = ℓ 12 then tA t 12 else if a = ℓ 16 then tA t 16 else if a = ℓ 17 then tA t 17 else gA G a), G.2.2.2.2.2.2)
def mls : List Nat := [0, 1, 9, 11, 12, 16, 17]
def ML (G : Gt) (m : Nat) (ℓ : Nat → Nat) : Prop := gT G m = (1, 11) ∧ (gR G 352 m = some (ℓ 0) ∧ gR G 353 m = some (ℓ 1) ∧ gR G 361 m = some (ℓ 9) ∧ gR G 363 m = some (ℓ 11) ∧ gR G 364 m = some (ℓ 12) ∧ gR G 368 m = some (ℓ 16) ∧ gR G 369 m = some (ℓ 17)) ∧
  (gT G (ℓ 0) = (2, 8900) ∧ gT G (ℓ 1) = (2, 8900) ∧ gT G (ℓ 9) = (2, 42) ∧ gT G (ℓ 11) = (2, 16) ∧ gT G (ℓ 12) = (2, 42) ∧ gT G (ℓ 16) = (2, 10) ∧ gT G (ℓ 17) = (2, 10)) ∧ ∀ i ∈ mls, ∀ j ∈ mls, ℓ i = ℓ j → i = j
section MLS
variable {G : Gt} {m : Nat} {ℓ : Nat → Nat}
theorem ml_ne (h : ML G m ℓ) {i j : Nat} (hi : i ∈ mls) (hj : j ∈ mls) (hij : i ≠ j) : ¬ ℓ i = ℓ j := fun e => hij (h.2.2.2 i hi j hj e)
theorem ml_gT (t : Tt) (a : Nat) : gT (mk G m ℓ t) a = gT G a := rfl
theorem ml_gR (t : Tt) (f a : Nat) : gR (mk G m ℓ t) f a = gR G f a := rfl
theorem ml_gI (t : Tt) (f : Nat) : gI (mk G m ℓ t) f m = tS t f := if_pos rfl
theorem ml_gJ (t : Tt) : gJ (mk G m ℓ t) 355 m = tJ t := if_pos ⟨rfl, rfl⟩
theorem ml_gH (t : Tt) : gH (mk G m ℓ t) = gH G := rfl
theorem ml_gU (t : Tt) : gU (mk G m ℓ t) = gU G := rfl
theorem ml_sI (t : Tt) (f : Nat) (x : Int32) : sI (mk G m ℓ t) f m x = mk G m ℓ (uS t f x) := by
  refine Prod.ext rfl (Prod.ext rfl (Prod.ext ?_ rfl))
  funext f' a
  show up2 (fun f a => if a = m then tS t f else gI G f a) f m x f' a = if a = m then tS (uS t f x) f' else gI G f' a
  rw [tS_uS]
  unfold up2
  by_cases h1 : a = m
  · by_cases h2 : f' = f
    · simp [h1, h2]
    · simp [h1, h2]
  · simp [h1]
theorem ml_sJ (t : Tt) (x : Int64) : sJ (mk G m ℓ t) 355 m x = mk G m ℓ (uJ t x) := by
  refine Prod.ext rfl (Prod.ext rfl (Prod.ext rfl (Prod.ext ?_ rfl)))
  funext f' a
  show up2 (fun f a => if f = 355 ∧ a = m then tJ t else gJ G f a) 355 m x f' a = if f' = 355 ∧ a = m then x else gJ G f' a
  unfold up2
  by_cases h1 : f' = 355 ∧ a = m
  · simp [h1]
  · simp [h1]
theorem ml_gA0 (h : ML G m ℓ) (t : Tt) : gA (mk G m ℓ t) (ℓ 0) = tA t 0 := by
  show (if ℓ 0 = ℓ 0 then tA t 0 else if ℓ 0 = ℓ 1 then tA t 1 else if ℓ 0 = ℓ 9 then tA t 9 else if ℓ 0 = ℓ 11 then tA t 11 else if ℓ 0 = ℓ 12 then tA t 12 else if ℓ 0 = ℓ 16 then tA t 16 else if ℓ 0 = ℓ 17 then tA t 17 else gA G (ℓ 0)) = tA t 0
  simp only [ml_ne h (i := 0) (j := 1) (by decide) (by decide) (by decide), ml_ne h (i := 0) (j := 9) (by decide) (by decide) (by decide), ml_ne h (i := 0) (j := 11) (by decide) (by decide) (by decide), ml_ne h (i := 0) (j := 12) (by decide) (by decide) (by decide), ml_ne h (i := 0) (j := 16) (by decide) (by decide) (by decide), ml_ne h (i := 0) (j := 17) (by decide) (by decide) (by decide), if_true, if_false]
theorem ml_sA0 (h : ML G m ℓ) (t : Tt) (g : Nat → Int32) : sA (mk G m ℓ t) (ℓ 0) g = mk G m ℓ (uA t 0 g) := by
  refine Prod.ext rfl (Prod.ext rfl (Prod.ext rfl (Prod.ext rfl (Prod.ext rfl (Prod.ext ?_ rfl)))))
  funext a
  show (if a = ℓ 0 then g else (if a = ℓ 0 then tA t 0 else if a = ℓ 1 then tA t 1 else if a = ℓ 9 then tA t 9 else if a = ℓ 11 then tA t 11 else if a = ℓ 12 then tA t 12 else if a = ℓ 16 then tA t 16 else if a = ℓ 17 then tA t 17 else gA G a)) = (if a = ℓ 0 then tA (uA t 0 g) 0 else if a = ℓ 1 then tA (uA t 0 g) 1 else if a = ℓ 9 then tA (uA t 0 g) 9 else if a = ℓ 11 then tA (uA t 0 g) 11 else if a = ℓ 12 then tA (uA t 0 g) 12 else if a = ℓ 16 then tA (uA t 0 g) 16 else if a = ℓ 17 then tA (uA t 0 g) 17 else gA G a)
  simp only [tA_uA]
  by_cases e : a = ℓ 0
  · subst e
    simp only [ml_ne h (i := 0) (j := 1) (by decide) (by decide) (by decide), ml_ne h (i := 0) (j := 9) (by decide) (by decide) (by decide), ml_ne h (i := 0) (j := 11) (by decide) (by decide) (by decide), ml_ne h (i := 0) (j := 12) (by decide) (by decide) (by decide), ml_ne h (i := 0) (j := 16) (by decide) (by decide) (by decide), ml_ne h (i := 0) (j := 17) (by decide) (by decide) (by decide), if_true, if_false]
  · simp only [e, if_false]
    rfl
theorem ml_gA1 (h : ML G m ℓ) (t : Tt) : gA (mk G m ℓ t) (ℓ 1) = tA t 1 := by
  show (if ℓ 1 = ℓ 0 then tA t 0 else if ℓ 1 = ℓ 1 then tA t 1 else if ℓ 1 = ℓ 9 then tA t 9 else if ℓ 1 = ℓ 11 then tA t 11 else if ℓ 1 = ℓ 12 then tA t 12 else if ℓ 1 = ℓ 16 then tA t 16 else if ℓ 1 = ℓ 17 then tA t 17 else gA G (ℓ 1)) = tA t 1
  simp only [ml_ne h (i := 1) (j := 0) (by decide) (by decide) (by decide), ml_ne h (i := 1) (j := 9) (by decide) (by decide) (by decide), ml_ne h (i := 1) (j := 11) (by decide) (by decide) (by decide), ml_ne h (i := 1) (j := 12) (by decide) (by decide) (by decide), ml_ne h (i := 1) (j := 16) (by decide) (by decide) (by decide), ml_ne h (i := 1) (j := 17) (by decide) (by decide) (by decide), if_true, if_false]
theorem ml_sA1 (h : ML G m ℓ) (t : Tt) (g : Nat → Int32) : sA (mk G m ℓ t) (ℓ 1) g = mk G m ℓ (uA t 1 g) := by
  refine Prod.ext rfl (Prod.ext rfl (Prod.ext rfl (Prod.ext rfl (Prod.ext rfl (Prod.ext ?_ rfl)))))
  funext a
  show (if a = ℓ 1 then g else (if a = ℓ 0 then tA t 0 else if a = ℓ 1 then tA t 1 else if a = ℓ 9 then tA t 9 else if a = ℓ 11 then tA t 11 else if a = ℓ 12 then tA t 12 else if a = ℓ 16 then tA t 16 else if a = ℓ 17 then tA t 17 else gA G a)) = (if a = ℓ 0 then tA (uA t 1 g) 0 else if a = ℓ 1 then tA (uA t 1 g) 1 else if a = ℓ 9 then tA (uA t 1 g) 9 else if a = ℓ 11 then tA (uA t 1 g) 11 else if a = ℓ 12 then tA (uA t 1 g) 12 else if a = ℓ 16 then tA (uA t 1 g) 16 else if a = ℓ 17 then tA (uA t 1 g) 17 else gA G a)
  simp only [tA_uA]
  by_cases e : a = ℓ 1
  · subst e
    simp only [ml_ne h (i := 1) (j := 0) (by decide) (by decide) (by decide), ml_ne h (i := 1) (j := 9) (by decide) (by decide) (by decide), ml_ne h (i := 1) (j := 11) (by decide) (by decide) (by decide), ml_ne h (i := 1) (j := 12) (by decide) (by decide) (by decide), ml_ne h (i := 1) (j := 16) (by decide) (by decide) (by decide), ml_ne h (i := 1) (j := 17) (by decide) (by decide) (by decide), if_true, if_false]
  · simp only [e, if_false]
    rfl
theorem ml_gA9 (h : ML G m ℓ) (t : Tt) : gA (mk G m ℓ t) (ℓ 9) = tA t 9 := by
  show (if ℓ 9 = ℓ 0 then tA t 0 else if ℓ 9 = ℓ 1 then tA t 1 else if ℓ 9 = ℓ 9 then tA t 9 else if ℓ 9 = ℓ 11 then tA t 11 else if ℓ 9 = ℓ 12 then tA t 12 else if ℓ 9 = ℓ 16 then tA t 16 else if ℓ 9 = ℓ 17 then tA t 17 else gA G (ℓ 9)) = tA t 9
  simp only [ml_ne h (i := 9) (j := 0) (by decide) (by decide) (by decide), ml_ne h (i := 9) (j := 1) (by decide) (by decide) (by decide), ml_ne h (i := 9) (j := 11) (by decide) (by decide) (by decide), ml_ne h (i := 9) (j := 12) (by decide) (by decide) (by decide), ml_ne h (i := 9) (j := 16) (by decide) (by decide) (by decide), ml_ne h (i := 9) (j := 17) (by decide) (by decide) (by decide), if_true, if_false]
theorem ml_sA9 (h : ML G m ℓ) (t : Tt) (g : Nat → Int32) : sA (mk G m ℓ t) (ℓ 9) g = mk G m ℓ (uA t 9 g) := by
  refine Prod.ext rfl (Prod.ext rfl (Prod.ext rfl (Prod.ext rfl (Prod.ext rfl (Prod.ext ?_ rfl)))))
  funext a
  show (if a = ℓ 9 then g else (if a = ℓ 0 then tA t 0 else if a = ℓ 1 then tA t 1 else if a = ℓ 9 then tA t 9 else if a = ℓ 11 then tA t 11 else if a = ℓ 12 then tA t 12 else if a = ℓ 16 then tA t 16 else if a = ℓ 17 then tA t 17 else gA G a)) = (if a = ℓ 0 then tA (uA t 9 g) 0 else if a = ℓ 1 then tA (uA t 9 g) 1 else if a = ℓ 9 then tA (uA t 9 g) 9 else if a = ℓ 11 then tA (uA t 9 g) 11 else if a = ℓ 12 then tA (uA t 9 g) 12 else if a = ℓ 16 then tA (uA t 9 g) 16 else if a = ℓ 17 then tA (uA t 9 g) 17 else gA G a)
  simp only [tA_uA]
  by_cases e : a = ℓ 9
  · subst e
    simp only [ml_ne h (i := 9) (j := 0) (by decide) (by decide) (by decide), ml_ne h (i := 9) (j := 1) (by decide) (by decide) (by decide), ml_ne h (i := 9) (j := 11) (by decide) (by decide) (by decide), ml_ne h (i := 9) (j := 12) (by decide) (by decide) (by decide), ml_ne h (i := 9) (j := 16) (by decide) (by decide) (by decide), ml_ne h (i := 9) (j := 17) (by decide) (by decide) (by decide), if_true, if_false]
  · simp only [e, if_false]
    rfl
theorem ml_gA11 (h : ML G m ℓ) (t : Tt) : gA (mk G m ℓ t) (ℓ 11) = tA t 11 := by
  show (if ℓ 11 = ℓ 0 then tA t 0 else if ℓ 11 = ℓ 1 then tA t 1 else if ℓ 11 = ℓ 9 then tA t 9 else if ℓ 11 = ℓ 11 then tA t 11 else if ℓ 11 = ℓ 12 then tA t 12 else if ℓ 11 = ℓ 16 then tA t 16 else if ℓ 11 = ℓ 17 then tA t 17 else gA G (ℓ 11)) = tA t 11
  simp only [ml_ne h (i := 11) (j := 0) (by decide) (by decide) (by decide), ml_ne h (i := 11) (j := 1) (by decide) (by decide) (by decide), ml_ne h (i := 11) (j := 9) (by decide) (by decide) (by decide), ml_ne h (i := 11) (j := 12) (by decide) (by decide) (by decide), ml_ne h (i := 11) (j := 16) (by decide) (by decide) (by decide), ml_ne h (i := 11) (j := 17) (by decide) (by decide) (by decide), if_true, if_false]
theorem ml_sA11 (h : ML G m ℓ) (t : Tt) (g : Nat → Int32) : sA (mk G m ℓ t) (ℓ 11) g = mk G m ℓ (uA t 11 g) := by
  refine Prod.ext rfl (Prod.ext rfl (Prod.ext rfl (Prod.ext rfl (Prod.ext rfl (Prod.ext ?_ rfl)))))
  funext a
  show (if a = ℓ 11 then g else (if a = ℓ 0 then tA t 0 else if a = ℓ 1 then tA t 1 else if a = ℓ 9 then tA t 9 else if a = ℓ 11 then tA t 11 else if a = ℓ 12 then tA t 12 else if a = ℓ 16 then tA t 16 else if a = ℓ 17 then tA t 17 else gA G a)) = (if a = ℓ 0 then tA (uA t 11 g) 0 else if a = ℓ 1 then tA (uA t 11 g) 1 else if a = ℓ 9 then tA (uA t 11 g) 9 else if a = ℓ 11 then tA (uA t 11 g) 11 else if a = ℓ 12 then tA (uA t 11 g) 12 else if a = ℓ 16 then tA (uA t 11 g) 16 else if a = ℓ 17 then tA (uA t 11 g) 17 else gA G a)
  simp only [tA_uA]
  by_cases e : a = ℓ 11
  · subst e
    simp only [ml_ne h (i := 11) (j := 0) (by decide) (by decide) (by decide), ml_ne h (i := 11) (j := 1) (by decide) (by decide) (by decide), ml_ne h (i := 11) (j := 9) (by decide) (by decide) (by decide), ml_ne h (i := 11) (j := 12) (by decide) (by decide) (by decide), ml_ne h (i := 11) (j := 16) (by decide) (by decide) (by decide), ml_ne h (i := 11) (j := 17) (by decide) (by decide) (by decide), if_true, if_false]
  · simp only [e, if_false]
    rfl
theorem ml_gA12 (h : ML G m ℓ) (t : Tt) : gA (mk G m ℓ t) (ℓ 12) = tA t 12 := by
  show (if ℓ 12 = ℓ 0 then tA t 0 else if ℓ 12 = ℓ 1 then tA t 1 else if ℓ 12 = ℓ 9 then tA t 9 else if ℓ 12 = ℓ 11 then tA t 11 else if ℓ 12 = ℓ 12 then tA t 12 else if ℓ 12 = ℓ 16 then tA t 16 else if ℓ 12 = ℓ 17 then tA t 17 else gA G (ℓ 12)) = tA t 12
  simp only [ml_ne h (i := 12) (j := 0) (by decide) (by decide) (by decide), ml_ne h (i := 12) (j := 1) (by decide) (by decide) (by decide), ml_ne h (i := 12) (j := 9) (by decide) (by decide) (by decide), ml_ne h (i := 12) (j := 11) (by decide) (by decide) (by decide), ml_ne h (i := 12) (j := 16) (by decide) (by decide) (by decide), ml_ne h (i := 12) (j := 17) (by decide) (by decide) (by decide), if_true, if_false]
theorem ml_sA12 (h : ML G m ℓ) (t : Tt) (g : Nat → Int32) : sA (mk G m ℓ t) (ℓ 12) g = mk G m ℓ (uA t 12 g) := by
  refine Prod.ext rfl (Prod.ext rfl (Prod.ext rfl (Prod.ext rfl (Prod.ext rfl (Prod.ext ?_ rfl)))))
  funext a
  show (if a = ℓ 12 then g else (if a = ℓ 0 then tA t 0 else if a = ℓ 1 then tA t 1 else if a = ℓ 9 then tA t 9 else if a = ℓ 11 then tA t 11 else if a = ℓ 12 then tA t 12 else if a = ℓ 16 then tA t 16 else if a = ℓ 17 then tA t 17 else gA G a)) = (if a = ℓ 0 then tA (uA t 12 g) 0 else if a = ℓ 1 then tA (uA t 12 g) 1 else if a = ℓ 9 then tA (uA t 12 g) 9 else if a = ℓ 11 then tA (uA t 12 g) 11 else if a = ℓ 12 then tA (uA t 12 g) 12 else if a = ℓ 16 then tA (uA t 12 g) 16 else if a = ℓ 17 then tA (uA t 12 g) 17 else gA G a)
  simp only [tA_uA]
  by_cases e : a = ℓ 12
  · subst e
    simp only [ml_ne h (i := 12) (j := 0) (by decide) (by decide) (by decide), ml_ne h (i := 12) (j := 1) (by decide) (by decide) (by decide), ml_ne h (i := 12) (j := 9) (by decide) (by decide) (by decide), ml_ne h (i := 12) (j := 11) (by decide) (by decide) (by decide), ml_ne h (i := 12) (j := 16) (by decide) (by decide) (by decide), ml_ne h (i := 12) (j := 17) (by decide) (by decide) (by decide), if_true, if_false]
  · simp only [e, if_false]
    rfl
theorem ml_gA16 (h : ML G m ℓ) (t : Tt) : gA (mk G m ℓ t) (ℓ 16) = tA t 16 := by
  show (if ℓ 16 = ℓ 0 then tA t 0 else if ℓ 16 = ℓ 1 then tA t 1 else if ℓ 16 = ℓ 9 then tA t 9 else if ℓ 16 = ℓ 11 then tA t 11 else if ℓ 16 = ℓ 12 then tA t 12 else if ℓ 16 = ℓ 16 then tA t 16 else if ℓ 16 = ℓ 17 then tA t 17 else gA G (ℓ 16)) = tA t 16
  simp only [ml_ne h (i := 16) (j := 0) (by decide) (by decide) (by decide), ml_ne h (i := 16) (j := 1) (by decide) (by decide) (by decide), ml_ne h (i := 16) (j := 9) (by decide) (by decide) (by decide), ml_ne h (i := 16) (j := 11) (by decide) (by decide) (by decide), ml_ne h (i := 16) (j := 12) (by decide) (by decide) (by decide), ml_ne h (i := 16) (j := 17) (by decide) (by decide) (by decide), if_true, if_false]
theorem ml_sA16 (h : ML G m ℓ) (t : Tt) (g : Nat → Int32) : sA (mk G m ℓ t) (ℓ 16) g = mk G m ℓ (uA t 16 g) := by
  refine Prod.ext rfl (Prod.ext rfl (Prod.ext rfl (Prod.ext rfl (Prod.ext rfl (Prod.ext ?_ rfl)))))
  funext a
  show (if a = ℓ 16 then g else (if a = ℓ 0 then tA t 0 else if a = ℓ 1 then tA t 1 else if a = ℓ 9 then tA t 9 else if a = ℓ 11 then tA t 11 else if a = ℓ 12 then tA t 12 else if a = ℓ 16 then tA t 16 else if a = ℓ 17 then tA t 17 else gA G a)) = (if a = ℓ 0 then tA (uA t 16 g) 0 else if a = ℓ 1 then tA (uA t 16 g) 1 else if a = ℓ 9 then tA (uA t 16 g) 9 else if a = ℓ 11 then tA (uA t 16 g) 11 else if a = ℓ 12 then tA (uA t 16 g) 12 else if a = ℓ 16 then tA (uA t 16 g) 16 else if a = ℓ 17 then tA (uA t 16 g) 17 else gA G a)
  simp only [tA_uA]
  by_cases e : a = ℓ 16
  · subst e
    simp only [ml_ne h (i := 16) (j := 0) (by decide) (by decide) (by decide), ml_ne h (i := 16) (j := 1) (by decide) (by decide) (by decide), ml_ne h (i := 16) (j := 9) (by decide) (by decide) (by decide), ml_ne h (i := 16) (j := 11) (by decide) (by decide) (by decide), ml_ne h (i := 16) (j := 12) (by decide) (by decide) (by decide), ml_ne h (i := 16) (j := 17) (by decide) (by decide) (by decide), if_true, if_false]
  · simp only [e, if_false]
    rfl
theorem ml_gA17 (h : ML G m ℓ) (t : Tt) : gA (mk G m ℓ t) (ℓ 17) = tA t 17 := by
  show (if ℓ 17 = ℓ 0 then tA t 0 else if ℓ 17 = ℓ 1 then tA t 1 else if ℓ 17 = ℓ 9 then tA t 9 else if ℓ 17 = ℓ 11 then tA t 11 else if ℓ 17 = ℓ 12 then tA t 12 else if ℓ 17 = ℓ 16 then tA t 16 else if ℓ 17 = ℓ 17 then tA t 17 else gA G (ℓ 17)) = tA t 17
  simp only [ml_ne h (i := 17) (j := 0) (by decide) (by decide) (by decide), ml_ne h (i := 17) (j := 1) (by decide) (by decide) (by decide), ml_ne h (i := 17) (j := 9) (by decide) (by decide) (by decide), ml_ne h (i := 17) (j := 11) (by decide) (by decide) (by decide), ml_ne h (i := 17) (j := 12) (by decide) (by decide) (by decide), ml_ne h (i := 17) (j := 16) (by decide) (by decide) (by decide), if_true, if_false]
theorem ml_sA17 (h : ML G m ℓ) (t : Tt) (g : Nat → Int32) : sA (mk G m ℓ t) (ℓ 17) g = mk G m ℓ (uA t 17 g) := by
  refine Prod.ext rfl (Prod.ext rfl (Prod.ext rfl (Prod.ext rfl (Prod.ext rfl (Prod.ext ?_ rfl)))))
  funext a
  show (if a = ℓ 17 then g else (if a = ℓ 0 then tA t 0 else if a = ℓ 1 then tA t 1 else if a = ℓ 9 then tA t 9 else if a = ℓ 11 then tA t 11 else if a = ℓ 12 then tA t 12 else if a = ℓ 16 then tA t 16 else if a = ℓ 17 then tA t 17 else gA G a)) = (if a = ℓ 0 then tA (uA t 17 g) 0 else if a = ℓ 1 then tA (uA t 17 g) 1 else if a = ℓ 9 then tA (uA t 17 g) 9 else if a = ℓ 11 then tA (uA t 17 g) 11 else if a = ℓ 12 then tA (uA t 17 g) 12 else if a = ℓ 16 then tA (uA t 17 g) 16 else if a = ℓ 17 then tA (uA t 17 g) 17 else gA G a)
  simp only [tA_uA]
  by_cases e : a = ℓ 17
  · subst e
    simp only [ml_ne h (i := 17) (j := 0) (by decide) (by decide) (by decide), ml_ne h (i := 17) (j := 1) (by decide) (by decide) (by decide), ml_ne h (i := 17) (j := 9) (by decide) (by decide) (by decide), ml_ne h (i := 17) (j := 11) (by decide) (by decide) (by decide), ml_ne h (i := 17) (j := 12) (by decide) (by decide) (by decide), ml_ne h (i := 17) (j := 16) (by decide) (by decide) (by decide), if_true, if_false]
  · simp only [e, if_false]
    rfl
end MLS
