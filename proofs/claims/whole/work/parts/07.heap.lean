/-! ===== the pure heap: what each cell of the system holds, by its address; the kinds: 1 an object, 2 an array of ints, 3 of Objects, 4 of Devices, 5 of longs, 6 ArrayList's empty array ===== -/
abbrev Gt : Type := (Nat → Nat × Nat) × (Nat × Nat) × (Nat → Nat → Int32) × (Nat → Nat → Int64) × (Nat → Nat → Option Nat) × (Nat → Nat → Int32) × (Nat → Nat → Option Nat) × (Nat → Nat → Int64)
def gT (G : Gt) (a : Nat) : Nat × Nat := G.1 a
def gH (G : Gt) : Nat := G.2.1.1
def gU (G : Gt) : Nat := G.2.1.2
def gI (G : Gt) (f a : Nat) : Int32 := G.2.2.1 f a
def gJ (G : Gt) (f a : Nat) : Int64 := G.2.2.2.1 f a
def gR (G : Gt) (f a : Nat) : Option Nat := G.2.2.2.2.1 f a
def gA (G : Gt) (a : Nat) : Nat → Int32 := G.2.2.2.2.2.1 a
def gB (G : Gt) (a : Nat) : Nat → Option Nat := G.2.2.2.2.2.2.1 a
def gE (G : Gt) (a : Nat) : Nat → Int64 := G.2.2.2.2.2.2.2 a
def up2 {α : Type} (g : Nat → Nat → α) (f a : Nat) (x : α) : Nat → Nat → α := fun f' a' => if f' = f ∧ a' = a then x else g f' a'
def sI (G : Gt) (f a : Nat) (x : Int32) : Gt := (G.1, G.2.1, up2 G.2.2.1 f a x, G.2.2.2)
def sJ (G : Gt) (f a : Nat) (x : Int64) : Gt := (G.1, G.2.1, G.2.2.1, up2 G.2.2.2.1 f a x, G.2.2.2.2)
def sR (G : Gt) (f a : Nat) (x : Option Nat) : Gt := (G.1, G.2.1, G.2.2.1, G.2.2.2.1, up2 G.2.2.2.2.1 f a x, G.2.2.2.2.2)
def sA (G : Gt) (a : Nat) (g : Nat → Int32) : Gt := (G.1, G.2.1, G.2.2.1, G.2.2.2.1, G.2.2.2.2.1, va_up G.2.2.2.2.2.1 a g, G.2.2.2.2.2.2)
def sB (G : Gt) (a : Nat) (g : Nat → Option Nat) : Gt := (G.1, G.2.1, G.2.2.1, G.2.2.2.1, G.2.2.2.2.1, G.2.2.2.2.2.1, va_up G.2.2.2.2.2.2.1 a g, G.2.2.2.2.2.2.2)
def sE (G : Gt) (a : Nat) (g : Nat → Int64) : Gt := (G.1, G.2.1, G.2.2.1, G.2.2.2.1, G.2.2.2.2.1, G.2.2.2.2.2.1, G.2.2.2.2.2.2.1, va_up G.2.2.2.2.2.2.2 a g)
/-- a new object of class ci with n slots -/
def nO (G : Gt) (ci n : Nat) : Gt := (va_up G.1 (gH G) (1, ci), (gH G + 1, gU G + n), (fun f a => if a = gH G then 0 else G.2.2.1 f a), (fun f a => if a = gH G then 0 else G.2.2.2.1 f a), (fun f a => if a = gH G then none else G.2.2.2.2.1 f a), G.2.2.2.2.2)
/-- a new array -/
def nA (G : Gt) (n : Nat) : Gt := (va_up G.1 (gH G) (2, n), (gH G + 1, gU G + n), G.2.2.1, G.2.2.2.1, G.2.2.2.2.1, va_up G.2.2.2.2.2.1 (gH G) (fun _ => 0), G.2.2.2.2.2.2)
def nB (G : Gt) (k n : Nat) : Gt := (va_up G.1 (gH G) (k, n), (gH G + 1, gU G + n), G.2.2.1, G.2.2.2.1, G.2.2.2.2.1, G.2.2.2.2.2.1, va_up G.2.2.2.2.2.2.1 (gH G) (fun _ => none), G.2.2.2.2.2.2.2)
def nE (G : Gt) (n : Nat) : Gt := (va_up G.1 (gH G) (5, n), (gH G + 1, gU G + n), G.2.2.1, G.2.2.2.1, G.2.2.2.2.1, G.2.2.2.2.2.1, G.2.2.2.2.2.2.1, va_up G.2.2.2.2.2.2.2 (gH G) (fun _ => 0))
/-- cells of no kind: a thrown exception's -/
def nX (G : Gt) (h u : Nat) : Gt := (G.1, (h, u), G.2.2)
/-! the kinds of the fields: 0 int or boolean, 1 a reference, 2 long -/
def fkt : List (List Nat) := [[0, 1, 0], [1, 1], [1, 1, 1, 1, 1, 1, 1, 0, 0, 0, 0], [1, 1, 1, 0, 0, 0, 0], [1, 0], [1, 1], [1, 1, 0, 0, 0, 0], [1, 2, 0, 0, 0, 0, 0], [1, 0, 0], [0, 0, 0, 0, 0, 0, 1, 0, 0, 0, 0], [1, 1, 1], [1, 1, 0, 2, 0, 0, 0, 0, 0, 1, 0, 1, 1, 0, 0, 0, 1, 1, 0]]
def fkd (ci k : Nat) : Nat := (fkt.getD ci []).getD k 9
def fv (G : Gt) (ci a k : Nat) : Value := match fkd ci k with
  | 0 => .int (gI G (32 * ci + k) a)
  | 1 => va_rf (gR G (32 * ci + k) a)
  | 2 => .long (gJ G (32 * ci + k) a)
  | _ => .null
theorem fv_0 {G : Gt} {ci a k : Nat} (h : fkd ci k = 0) : fv G ci a k = .int (gI G (32 * ci + k) a) := by unfold fv; rw [h]; rfl
theorem fv_1 {G : Gt} {ci a k : Nat} (h : fkd ci k = 1) : fv G ci a k = va_rf (gR G (32 * ci + k) a) := by unfold fv; rw [h]; rfl
theorem fv_2 {G : Gt} {ci a k : Nat} (h : fkd ci k = 2) : fv G ci a k = .long (gJ G (32 * ci + k) a) := by unfold fv; rw [h]; rfl
theorem fv_same {G G' : Gt} {ci a k : Nat} (h0 : gI G' (32 * ci + k) a = gI G (32 * ci + k) a) (h1 : gR G' (32 * ci + k) a = gR G (32 * ci + k) a) (h2 : gJ G' (32 * ci + k) a = gJ G (32 * ci + k) a) : fv G' ci a k = fv G ci a k := by unfold fv; rw [h0, h1, h2]
/-! the claim's constants: class ids and slots; the ids of the array classes; the old heap and its size; the room; statics -/
abbrev Xt : Type := va_G × (ClassId × ClassId × ClassId × ClassId) × (Nat × Heap) × (Nat × Nat) × (Nat × Nat × Nat × Nat)
def xD (X : Xt) : va_G := X.1
def xI (X : Xt) : ClassId := X.2.1.1
def xO (X : Xt) : ClassId := X.2.1.2.1
def xV (X : Xt) : ClassId := X.2.1.2.2.1
def xJ (X : Xt) : ClassId := X.2.1.2.2.2
def xN (X : Xt) : Nat := X.2.2.1.1
def xH (X : Xt) : Heap := X.2.2.1.2
def xC (X : Xt) : Nat := X.2.2.2.1.1
def xS (X : Xt) : Nat := X.2.2.2.1.2
def xde (X : Xt) : Nat := X.2.2.2.2.1
def xs0 (X : Xt) : Nat := X.2.2.2.2.2.1
def xs1 (X : Xt) : Nat := X.2.2.2.2.2.2.1
def xmi (X : Xt) : Nat := X.2.2.2.2.2.2.2
def xA (X : Xt) : Nat → Prop := fun q => xN X ≤ q
def xT (X : Xt) : List (ClassId × FieldType) := [(xI X, .int), (xO X, .object "java/lang/Object"), (xV X, .object "RegisterGateway$Device"), (xJ X, .long)]
def hU (H : Heap) : Nat := H.foldl (fun n c => n + c.slots.size) 0
def hE (X : Xt) (G : Gt) (H : Heap) (a : Nat) : Prop := match gT G a with
  | (1, ci) => xN X ≤ a ∧ ∃ r : vw_C, vwCl[ci]? = some r ∧ t_OB a ((xD X).1 ci) r.2.2 ((xD X).2 ci) H (fv G ci a)
  | (2, n) => xN X ≤ a ∧ H[a]? = some (arrV (xI X) n (fun j => .int (gA G a j)))
  | (3, n) => xN X ≤ a ∧ H[a]? = some (arrV (xO X) n (fun j => va_rf (gB G a j)))
  | (4, n) => xN X ≤ a ∧ H[a]? = some (arrV (xV X) n (fun j => va_rf (gB G a j)))
  | (5, n) => xN X ≤ a ∧ H[a]? = some (arrV (xJ X) n (fun j => .long (gE G a j)))
  | (6, n) => a = xde X ∧ n = 0
  | _ => True
theorem hE_1 {X : Xt} {G : Gt} {H : Heap} {a ci : Nat} (h : gT G a = (1, ci)) (q : hE X G H a) : xN X ≤ a ∧ ∃ r : vw_C, vwCl[ci]? = some r ∧ t_OB a ((xD X).1 ci) r.2.2 ((xD X).2 ci) H (fv G ci a) := by unfold hE at q; rw [h] at q; exact q
theorem hE_2 {X : Xt} {G : Gt} {H : Heap} {a n : Nat} (h : gT G a = (2, n)) (q : hE X G H a) : xN X ≤ a ∧ H[a]? = some (arrV (xI X) n (fun j => .int (gA G a j))) := by unfold hE at q; rw [h] at q; exact q
theorem hE_3 {X : Xt} {G : Gt} {H : Heap} {a n : Nat} (h : gT G a = (3, n)) (q : hE X G H a) : xN X ≤ a ∧ H[a]? = some (arrV (xO X) n (fun j => va_rf (gB G a j))) := by unfold hE at q; rw [h] at q; exact q
theorem hE_4 {X : Xt} {G : Gt} {H : Heap} {a n : Nat} (h : gT G a = (4, n)) (q : hE X G H a) : xN X ≤ a ∧ H[a]? = some (arrV (xV X) n (fun j => va_rf (gB G a j))) := by unfold hE at q; rw [h] at q; exact q
theorem hE_5 {X : Xt} {G : Gt} {H : Heap} {a n : Nat} (h : gT G a = (5, n)) (q : hE X G H a) : xN X ≤ a ∧ H[a]? = some (arrV (xJ X) n (fun j => .long (gE G a j))) := by unfold hE at q; rw [h] at q; exact q
theorem hE_6 {X : Xt} {G : Gt} {H : Heap} {a n : Nat} (h : gT G a = (6, n)) (q : hE X G H a) : a = xde X ∧ n = 0 := by unfold hE at q; rw [h] at q; exact q
theorem hE_keep {X : Xt} {G G' : Gt} {H H' : Heap} {b : Nat} (q : hE X G H b) (hT : gT G' b = gT G b) (hc : ∀ ci k, fv G' ci b k = fv G ci b k) (hA : gA G' b = gA G b) (hB : gB G' b = gB G b) (hL : gE G' b = gE G b) (hh : b < H.size → H'[b]? = H[b]?) : hE X G' H' b := by
  unfold hE at q ⊢
  rw [hT, hA, hB, hL]
  cases hg : gT G b with
  | mk k n =>
    rw [hg] at q
    match k with
    | 0 => trivial
    | 1 =>
      obtain ⟨h1, r, h2, h3⟩ := q
      have hlt : b < H.size := by obtain ⟨cell, h4, -⟩ := h3; exact (Array.getElem?_eq_some_iff.mp h4).1
      exact ⟨h1, r, h2, (h3.kept (hh hlt)).to (fun j _ => (hc n j).symm)⟩
    | 2 => exact ⟨q.1, (hh (Array.getElem?_eq_some_iff.mp q.2).1).trans q.2⟩
    | 3 => exact ⟨q.1, (hh (Array.getElem?_eq_some_iff.mp q.2).1).trans q.2⟩
    | 4 => exact ⟨q.1, (hh (Array.getElem?_eq_some_iff.mp q.2).1).trans q.2⟩
    | 5 => exact ⟨q.1, (hh (Array.getElem?_eq_some_iff.mp q.2).1).trans q.2⟩
    | 6 => exact q
    | k + 7 => trivial
theorem hU_sum (H : Heap) : hU H = (H.toList.map (fun c : Cell => c.slots.size)).sum := by
  unfold hU
  rw [← Array.foldl_toList]
  have h : ∀ (l : List Cell) (n : Nat), l.foldl (fun n c => n + c.slots.size) n = n + (l.map (fun c : Cell => c.slots.size)).sum := by
    intro l
    induction l with
    | nil => intro n; simp
    | cons c l ih => intro n; rw [List.foldl_cons, ih, List.map_cons, List.sum_cons]; omega
  rw [h]; omega
theorem hU_same {H H' : Heap} (hz : H'.size = H.size) (h : ∀ q : Nat, q < H.size → (H'[q]?).map (fun c : Cell => c.slots.size) = (H[q]?).map (fun c : Cell => c.slots.size)) : hU H' = hU H := by
  rw [hU_sum, hU_sum]
  congr 1
  apply List.ext_getElem?
  intro i
  rw [List.getElem?_map, List.getElem?_map, Array.getElem?_toList, Array.getElem?_toList]
  by_cases hi : i < H.size
  · exact h i hi
  · rw [Array.getElem?_eq_none (by omega), Array.getElem?_eq_none (by omega)]
theorem hU_put {H H' : Heap} {a : Nat} {c c' : Cell} (hz : H'.size = H.size) (hc : H[a]? = some c) (hc' : H'[a]? = some c') (hs : c'.slots.size = c.slots.size) (ho : ∀ q, q ≠ a → H'[q]? = H[q]?) : hU H' = hU H := by
  apply hU_same hz
  intro q _
  by_cases e : q = a
  · subst e
    rw [hc, hc', Option.map_some, Option.map_some, hs]
  · rw [ho q e]
theorem hU_push {H H' : Heap} {h : Nat} {c : Cell} (hh : H.size = h) (hz : H'.size = h + 1) (hc : H'[h]? = some c) (ho : ∀ q, q < h → H'[q]? = H[q]?) : hU H' = hU H + c.slots.size := by
  have e : H' = H.push c := by
    apply Array.ext_getElem?
    intro i
    rw [Array.getElem?_push]
    by_cases e1 : i = H.size
    · rw [if_pos e1, e1, hh, hc]
    · rw [if_neg e1]
      by_cases e2 : i < H.size
      · exact ho i (by omega)
      · rw [Array.getElem?_eq_none (by omega), Array.getElem?_eq_none (by omega)]
  rw [e, hU_sum, hU_sum, Array.toList_push, List.map_append, List.sum_append]
  simp
/-- the heap holds the picture -/
def hC (X : Xt) (G : Gt) (H : Heap) : Prop := (∀ a, hE X G H a) ∧ H.size = gH G ∧ hU H = gU G ∧ (∀ q : Nat, q < xN X → H[q]? = (xH X)[q]?) ∧ xN X ≤ gH G ∧ gH G ≤ xC X ∧ gU G ≤ xS X
/-- G' differs from G at the cell a alone, in what it holds -/
def gCh (a : Nat) (G G' : Gt) : Prop := (∀ b, gT G' b = gT G b) ∧ gH G' = gH G ∧ gU G' = gU G ∧ ∀ b, b ≠ a → (∀ ci k, fv G' ci b k = fv G ci b k) ∧ gA G' b = gA G b ∧ gB G' b = gB G b ∧ gE G' b = gE G b
theorem hC_put {X : Xt} {G G' : Gt} {H H' : Heap} {a : Nat} {c c' : Cell} (h : hC X G H) (hg : gCh a G G') (hN : xN X ≤ a) (hc : H[a]? = some c) (hc' : H'[a]? = some c') (hs : c'.slots.size = c.slots.size) (hz : H'.size = H.size) (ho : ∀ q, q ≠ a → H'[q]? = H[q]?) (he : hE X G' H' a) : hC X G' H' := by
  obtain ⟨h1, h2, h3, h4, h5⟩ := h
  obtain ⟨g1, g2, g3, g4⟩ := hg
  refine ⟨fun b => ?_, by rw [hz, h2, g2], by rw [hU_put hz hc hc' hs ho, h3, g3], fun q hq => by rw [ho q (by omega)]; exact h4 q hq, by rw [g2, g3]; exact h5⟩
  by_cases e : b = a
  · rw [e]; exact he
  · obtain ⟨k1, k2, k3, k4⟩ := g4 b e
    exact hE_keep (h1 b) (g1 b) k1 k2 k3 k4 (fun _ => ho b e)
theorem hC_new {X : Xt} {G G' : Gt} {H H' : Heap} {c : Cell} {n : Nat} (h : hC X G H) (hn : c.slots.size = n) (hT : ∀ b, b ≠ gH G → gT G' b = gT G b) (hh : gH G' = gH G + 1) (hu : gU G' = gU G + n) (hr : gH G + 1 ≤ xC X) (hs : gU G + n ≤ xS X)
    (hk : ∀ b, b ≠ gH G → (∀ ci k, fv G' ci b k = fv G ci b k) ∧ gA G' b = gA G b ∧ gB G' b = gB G b ∧ gE G' b = gE G b) (hz : H'.size = H.size + 1) (hc : H'[H.size]? = some c) (ho : ∀ q, q < H.size → H'[q]? = H[q]?) (he : hE X G' H' (gH G)) : hC X G' H' := by
  obtain ⟨h1, h2, h3, h4, h5, h6, h7⟩ := h
  refine ⟨fun b => ?_, by rw [hz, h2, hh], by rw [hU_push rfl hz hc ho, h3, hu, hn], fun q hq => by rw [ho q (by omega)]; exact h4 q hq, by omega, by omega, by omega⟩
  by_cases e : b = gH G
  · rw [e]; exact he
  · obtain ⟨k1, k2, k3, k4⟩ := hk b e
    exact hE_keep (h1 b) (hT b e) k1 k2 k3 k4 (fun q => ho b q)
theorem up2_ne {α : Type} {g : Nat → Nat → α} {f a f' a' : Nat} {x : α} (h : ¬ (f' = f ∧ a' = a)) : up2 g f a x f' a' = g f' a' := by unfold up2; rw [if_neg h]
theorem up2_eq {α : Type} {g : Nat → Nat → α} {f a : Nat} {x : α} : up2 g f a x f a = x := by unfold up2; rw [if_pos ⟨rfl, rfl⟩]
theorem gCh_I {G : Gt} {f a : Nat} {x : Int32} : gCh a G (sI G f a x) := ⟨fun _ => rfl, rfl, rfl, fun b hb => ⟨fun ci k => fv_same (up2_ne (fun h => hb h.2)) rfl rfl, rfl, rfl, rfl⟩⟩
theorem gCh_J {G : Gt} {f a : Nat} {x : Int64} : gCh a G (sJ G f a x) := ⟨fun _ => rfl, rfl, rfl, fun b hb => ⟨fun ci k => fv_same rfl rfl (up2_ne (fun h => hb h.2)), rfl, rfl, rfl⟩⟩
theorem gCh_R {G : Gt} {f a : Nat} {x : Option Nat} : gCh a G (sR G f a x) := ⟨fun _ => rfl, rfl, rfl, fun b hb => ⟨fun ci k => fv_same rfl (up2_ne (fun h => hb h.2)) rfl, rfl, rfl, rfl⟩⟩
theorem gCh_A {G : Gt} {a : Nat} {g : Nat → Int32} : gCh a G (sA G a g) := ⟨fun _ => rfl, rfl, rfl, fun b hb => ⟨fun ci k => fv_same rfl rfl rfl, va_up_ne _ _ hb, rfl, rfl⟩⟩
theorem gCh_B {G : Gt} {a : Nat} {g : Nat → Option Nat} : gCh a G (sB G a g) := ⟨fun _ => rfl, rfl, rfl, fun b hb => ⟨fun ci k => fv_same rfl rfl rfl, rfl, va_up_ne _ _ hb, rfl⟩⟩
theorem gCh_E {G : Gt} {a : Nat} {g : Nat → Int64} : gCh a G (sE G a g) := ⟨fun _ => rfl, rfl, rfl, fun b hb => ⟨fun ci k => fv_same rfl rfl rfl, rfl, rfl, va_up_ne _ _ hb⟩⟩
