/-! ===== fields, arrays, new cells ===== -/
def FW (own : String) (index ci k : Nat) : Prop := ∃ (Cn : String) (T : u_T) (N : Nat) (ref : String), vwCl[ci]? = some (Cn, T, N) ∧ k < N ∧ (∀ w ∈ u_ws Cn T N, w ∈ gtbl) ∧ Cond.fieldLink own index ref (T k).2.1 (T k).2.2.1 ∈ gtbl ∧ (ref = (T k).1 ∨ Cond.sameField ref (T k).1 (T k).2.1 (T k).2.2.1 ∈ gtbl)
def FP (own : String) (index ci k : Nat) (ty : FieldType) (fin : Bool) : Prop := ∃ (Cn : String) (T : u_T) (N : Nat) (ref : String), vwCl[ci]? = some (Cn, T, N) ∧ k < N ∧ Cond.fieldLink own index ref (T k).2.1 (T k).2.2.1 ∈ gtbl ∧ (ref = (T k).1 ∨ Cond.sameField ref (T k).1 (T k).2.1 (T k).2.2.1 ∈ gtbl) ∧ (T k).2.2.2 = fin ∧ parseFieldDescriptor (T k).2.2.1 = some ty ∧ (fin = true → (T k).1 = own)
def dfv (ci j : Nat) : Value := match fkd ci j with
  | 0 => .int 0
  | 1 => .null
  | 2 => .long 0
  | _ => .null
def CW (ci : Nat) : Prop := ∃ (Cn : String) (T : u_T) (N : Nat) (ty : Nat → FieldType), vwCl[ci]? = some (Cn, T, N) ∧ (∀ w ∈ u_ws Cn T N, w ∈ gtbl) ∧ (∀ k, k < N → parseFieldDescriptor (T k).2.2.1 = some (ty k)) ∧ (∀ a, a < N → ∀ b, b < N → a ≠ b → (T a).2.1 ≠ (T b).2.1) ∧ Cond.instantiable Cn N ∈ gtbl ∧ Cond.initialized Cn ∈ gtbl ∧ ∀ j, j < N → defaultValue (ty j) = dfv ci j
theorem hE_i1 {X : Xt} {G : Gt} {H : Heap} {a ci : Nat} (h : gT G a = (1, ci)) (q : xN X ≤ a ∧ ∃ r : vw_C, vwCl[ci]? = some r ∧ t_OB a ((xD X).1 ci) r.2.2 ((xD X).2 ci) H (fv G ci a)) : hE X G H a := by unfold hE; rw [h]; exact q
theorem hE_i2 {X : Xt} {G : Gt} {H : Heap} {a n : Nat} (h : gT G a = (2, n)) (q : xN X ≤ a ∧ H[a]? = some (arrV (xI X) n (fun j => .int (gA G a j)))) : hE X G H a := by unfold hE; rw [h]; exact q
theorem hE_i3 {X : Xt} {G : Gt} {H : Heap} {a n : Nat} (h : gT G a = (3, n)) (q : xN X ≤ a ∧ H[a]? = some (arrV (xO X) n (fun j => va_rf (gB G a j)))) : hE X G H a := by unfold hE; rw [h]; exact q
theorem hE_i4 {X : Xt} {G : Gt} {H : Heap} {a n : Nat} (h : gT G a = (4, n)) (q : xN X ≤ a ∧ H[a]? = some (arrV (xV X) n (fun j => va_rf (gB G a j)))) : hE X G H a := by unfold hE; rw [h]; exact q
theorem hE_i5 {X : Xt} {G : Gt} {H : Heap} {a n : Nat} (h : gT G a = (5, n)) (q : xN X ≤ a ∧ H[a]? = some (arrV (xJ X) n (fun j => .long (gE G a j)))) : hE X G H a := by unfold hE; rw [h]; exact q
theorem g_same {args : Array Value} {s : State} {ref o n d : String} (hts : ∀ w ∈ gtbl, w.before args s = true) (h : ref = o ∨ Cond.sameField ref o n d ∈ gtbl) : ∀ x, s.fieldFound? o n d = some x → s.fieldFound? ref n d = some x := by
  intro x hx
  rcases h with h | h
  · rw [h]; exact hx
  · exact u_same (hts _ h) x hx
theorem locs_add {X : Xt} {locs : List Loc} {a i : Nat} (h : ∀ q ∈ locs, xN X ≤ q.base) (ha : xN X ≤ a) : ∀ q ∈ locs ++ [(⟨a, i⟩ : Loc)], xN X ≤ q.base := fun q hq => (List.mem_append.mp hq).elim (h q) (fun z => by rw [List.mem_singleton.mp z]; exact ha)
theorem gA_sA {G : Gt} {a : Nat} {g : Nat → Int32} : gA (sA G a g) a = g := va_up_self _ _ _
theorem gB_sB {G : Gt} {a : Nat} {g : Nat → Option Nat} : gB (sB G a g) a = g := va_up_self _ _ _
theorem gE_sE {G : Gt} {a : Nat} {g : Nat → Int64} : gE (sE G a g) a = g := va_up_self _ _ _
section HROWS
variable {X : Xt} {K : Kt} {Q : State → Prop} {G : Gt} {pc : Nat} {lv : List (Option Value)} {st : List Value} {cc : ByteArray} {nL : Nat} {own : String} {fr lo : Nat}
theorem r_get (C : Cx X K cc nL own fr lo) {a ci k index : Nat} {v : Value} (F : FW own index ci k) (ht : gT G a = (1, ci)) (hd : decode cc pc = .ok (.getfield index, 3)) (hv : fv G ci a k = v) (kk : WM X K Q G (pc + 3) lv (v :: st)) : WM X K Q G pc lv (.ref a :: st) := by
  obtain ⟨p, l, e, R, s, m, args, below, meth, c⟩ := K
  intro H locs ls h hl
  obtain ⟨hexec, hb, hml, hown, hts, hKF, -⟩ := C
  obtain ⟨Cn, T, N, ref, hc, hk, hin, hlink, hsame⟩ := F
  obtain ⟨hN, r, h1, cell, q1, q2, q3, q4⟩ := hE_1 ht (h.1.1 a)
  have hr : r = (Cn, T, N) := Option.some.inj (h1.symm.trans hc)
  subst hr
  obtain ⟨hS, hfc, kC, hkC, hkind⟩ := hKF.1.1 ci _ hc
  obtain ⟨cf, kf, fi, f, hi, hsl⟩ := hS k hk
  refine W.getf hexec hb hown (hts _ hlink) (g_same hts hsame _ hi) (u_facts hfc hkC (u_lays hts hin hk) hi).1 q1 (by rw [q3]; exact fun h => by cases h) (v := v) ?_ rfl rfl hd (kk H locs ls h hl)
  rw [hsl, q4 k hk, hv]
theorem r_getI (C : Cx X K cc nL own fr lo) {a ci k index : Nat} (F : FW own index ci k) (hk : fkd ci k = 0) (ht : gT G a = (1, ci)) (hd : decode cc pc = .ok (.getfield index, 3)) (kk : WM X K Q G (pc + 3) lv (.int (gI G (32 * ci + k) a) :: st)) : WM X K Q G pc lv (.ref a :: st) := r_get C F ht hd (fv_0 hk) kk
theorem r_getJ (C : Cx X K cc nL own fr lo) {a ci k index : Nat} (F : FW own index ci k) (hk : fkd ci k = 2) (ht : gT G a = (1, ci)) (hd : decode cc pc = .ok (.getfield index, 3)) (kk : WM X K Q G (pc + 3) lv (.long (gJ G (32 * ci + k) a) :: st)) : WM X K Q G pc lv (.ref a :: st) := r_get C F ht hd (fv_2 hk) kk
theorem r_getN (C : Cx X K cc nL own fr lo) {a ci k index : Nat} (F : FW own index ci k) (hk : fkd ci k = 1) (ht : gT G a = (1, ci)) (hd : decode cc pc = .ok (.getfield index, 3)) (kk : WM X K Q G (pc + 3) lv (va_rf (gR G (32 * ci + k) a) :: st)) : WM X K Q G pc lv (.ref a :: st) := r_get C F ht hd (fv_1 hk) kk
theorem r_getR (C : Cx X K cc nL own fr lo) {a b ci k index : Nat} (F : FW own index ci k) (hk : fkd ci k = 1) (ht : gT G a = (1, ci)) (hr : gR G (32 * ci + k) a = some b) (hd : decode cc pc = .ok (.getfield index, 3)) (kk : WM X K Q G (pc + 3) lv (.ref b :: st)) : WM X K Q G pc lv (.ref a :: st) := r_get C F ht hd ((fv_1 hk).trans (by rw [hr]; rfl)) kk
theorem r_putH {G' : Gt} {a ci k i : Nat} {v : Value} {H H' : Heap} {locs : List Loc} {r : vw_C} {cell : Cell} {ls : Array Slot} (kk : WM X K Q G' (pc + 3) lv st) (h : hM X K G H locs) (hl : lh ls lv) (ht : gT G a = (1, ci)) (hG : gCh a G G') (hv : fv G' ci a k = v) (ho : ∀ j, j ≠ k → fv G' ci a j = fv G ci a j)
    (hN : xN X ≤ a) (h1 : vwCl[ci]? = some r) (q1 : H[a]? = some cell) (q2 : cell.cls = (xD X).1 ci) (q3 : cell.vm = .none) (q5 : ∀ j, j < r.2.2 → (cell.setSlot i v).slots[(xD X).2 ci j]? = some (updV (fv G ci a) k v j)) (e1 : H'[a]? = some (cell.setSlot i v)) (e2 : H'.size = H.size) (e3 : ∀ q, q ≠ a → H'[q]? = H[q]?) :
    kW K H' (locs ++ [⟨a, i⟩]) (gH G - (kS K).heap.size) (gU G - hU (kS K).heap) Q (F0 (kM K) (pc + 3) ls st) := by
  have he : hE X G' H' a := hE_i1 ((hG.1 a).trans ht) ⟨hN, r, h1, t_OB.to (V := updV (fv G ci a) k v) ⟨_, e1, q2, q3, q5⟩ (fun j _ => by
    unfold updV
    by_cases e : j = k
    · rw [if_pos e, e, hv]
    · rw [if_neg e, ho j e])⟩
  have hc' : hC X G' H' := hC_put h.1 hG hN q1 e1 (by simp [Cell.setSlot]) e2 e3 he
  have z := kk H' (locs ++ [⟨a, i⟩]) ls ⟨hc', locs_add h.2.1 hN, by rw [hG.2.1]; exact h.2.2.1, by rw [hG.2.2.1]; exact h.2.2.2⟩ hl
  rw [hG.2.1, hG.2.2.1] at z
  exact z
theorem r_put (C : Cx X K cc nL own fr lo) {G' : Gt} {a ci k index : Nat} {v : Value} {ty : FieldType} (hW : CW ci) (F : FP own index ci k ty false) (ht : gT G a = (1, ci)) (hn : narrow ty v = v) (hf : fits ty v = true) (hG : gCh a G G') (hv : fv G' ci a k = v) (ho : ∀ j, j ≠ k → fv G' ci a j = fv G ci a j) (hd : decode cc pc = .ok (.putfield index, 3)) (kk : WM X K Q G' (pc + 3) lv st) : WM X K Q G pc lv (v :: .ref a :: st) := by
  obtain ⟨p, l, e, R, s, m, args, below, meth, c⟩ := K
  intro H locs ls h hl
  obtain ⟨hexec, hb, hml, hown, hts, hKF, -⟩ := C
  obtain ⟨Cn, T, N, ty0, hc, hin, hty, hnm, -⟩ := hW
  obtain ⟨Cn9, T9, N9, ref, hc9, hk, hlink, hsame, hfin, hd9, -⟩ := F
  cases Option.some.inj (hc9.symm.trans hc)
  obtain ⟨hN, r, h1, cell, q1, q2, q3, q4⟩ := hE_1 ht (h.1.1 a)
  have hr : r = (Cn, T, N) := Option.some.inj (h1.symm.trans hc)
  subst hr
  have hap := va_apart (own := own) hts hin ty0 hty hnm hKF.1 hc
  obtain ⟨hS, hfc, kC, hkC, hkind⟩ := hKF.1.1 ci _ hc
  obtain ⟨cf, kf, fi, f, hi, hsl⟩ := hS k hk
  have hlay := hts _ (hin _ (u_in_lay hk))
  unfold u_lay at hlay
  rw [if_neg (by rw [hfin]; decide)] at hlay
  have hst := (u_facts hfc hkC (u_lays hts hin hk) hi).1
  have h6 := u_store hfc hkC hkind hlay hi hd9 hn hf
  refine W.putK hexec hb (f := f) ⟨hown, hts _ hlink, ⟨_, _, _, g_same hts hsame _ hi⟩, hst⟩ (by rw [q2]; exact h6) q1 q3 (by rw [hsl]; exact k2_hasslot (q4 k hk)) rfl rfl hd fun H' e1 e2 e3 => ?_
  rw [hsl] at e1 ⊢
  exact r_putH kk h hl ht hG hv ho hN h1 q1 q2 q3 (t_set q4 hap hk v) e1 e2 e3
theorem r_putF (C : Cx X K cc nL own fr lo) {G' : Gt} {a ci k index : Nat} {v : Value} {ty : FieldType} (hin2 : (kT K).name = "<init>") (hW : CW ci) (F : FP own index ci k ty true) (ht : gT G a = (1, ci)) (hn : narrow ty v = v) (hf : fits ty v = true) (hG : gCh a G G') (hv : fv G' ci a k = v) (ho : ∀ j, j ≠ k → fv G' ci a j = fv G ci a j) (hd : decode cc pc = .ok (.putfield index, 3)) (kk : WM X K Q G' (pc + 3) lv st) : WM X K Q G pc lv (v :: .ref a :: st) := by
  obtain ⟨p, l, e, R, s, m, args, below, meth, c⟩ := K
  intro H locs ls h hl
  obtain ⟨hexec, hb, hml, hown, hts, hKF, -⟩ := C
  obtain ⟨Cn, T, N, ty0, hc, hin, hty, hnm, -⟩ := hW
  obtain ⟨Cn9, T9, N9, ref, hc9, hk, hlink, hsame, hfin, hd9, hdecl⟩ := F
  cases Option.some.inj (hc9.symm.trans hc)
  obtain ⟨hN, r, h1, cell, q1, q2, q3, q4⟩ := hE_1 ht (h.1.1 a)
  have hr : r = (Cn, T, N) := Option.some.inj (h1.symm.trans hc)
  subst hr
  have hap := va_apart (own := own) hts hin ty0 hty hnm hKF.1 hc
  obtain ⟨hS, hfc, kC, hkC, hkind⟩ := hKF.1.1 ci _ hc
  obtain ⟨cf, kf, fi, f, hi, hsl⟩ := hS k hk
  have hlay := hts _ (hin _ (u_in_lay hk))
  unfold u_lay at hlay
  rw [if_pos hfin] at hlay
  have hst := (u_facts hfc hkC (u_lays hts hin hk) hi).1
  have hcf : m.cls = cf := by
    obtain ⟨_, _, c', _, _, _, -, -, hf', -, -, -, hown2, -⟩ := Cond.laysFinal_spec hlay
    have e1 : c' = cf := by have := hi.symm.trans hf'; simp at this; exact this.1.symm
    rw [hdecl rfl] at hown2
    rw [← e1]; exact Option.some.inj (hown.symm.trans hown2)
  have h6 := u_fits hfc hkC hkind (Or.inr hlay) hi hd9 hn hf
  refine W.putFinK hexec hb hown (hts _ hlink) (g_same hts hsame _ hi) hst hcf hin2 (by rw [q2]; exact h6) q1 q3 (by rw [hsl]; exact k2_hasslot (q4 k hk)) rfl rfl hd fun H' e1 e2 e3 => ?_
  rw [hsl] at e1 ⊢
  exact r_putH kk h hl ht hG hv ho hN h1 q1 q2 q3 (t_set q4 hap hk v) e1 e2 e3
theorem fid_ne {ci j k : Nat} (h : j ≠ k) (a b : Nat) : ¬ (32 * ci + j = 32 * ci + k ∧ a = b) := fun z => h (by omega)
theorem r_putI (C : Cx X K cc nL own fr lo) {a ci k index : Nat} {x : Int32} (hW : CW ci) (F : FP own index ci k .int false) (hk : fkd ci k = 0) (ht : gT G a = (1, ci)) (hd : decode cc pc = .ok (.putfield index, 3)) (kk : WM X K Q (sI G (32 * ci + k) a x) (pc + 3) lv st) : WM X K Q G pc lv (.int x :: .ref a :: st) :=
  r_put C hW F ht rfl rfl gCh_I ((fv_0 hk).trans (congrArg Value.int up2_eq)) (fun j hj => fv_same (up2_ne (fid_ne hj a a)) rfl rfl) hd kk
theorem nb_01 {x : Int32} (h : x = 0 ∨ x = 1) : narrow .boolean (.int x) = .int x ∧ fits .boolean (.int x) = true := by rcases h with h | h <;> subst h <;> exact ⟨by decide +kernel, by decide +kernel⟩
theorem r_putZ (C : Cx X K cc nL own fr lo) {a ci k index : Nat} {x : Int32} (hW : CW ci) (F : FP own index ci k .boolean false) (hk : fkd ci k = 0) (ht : gT G a = (1, ci)) (hz : x = 0 ∨ x = 1) (hd : decode cc pc = .ok (.putfield index, 3)) (kk : WM X K Q (sI G (32 * ci + k) a x) (pc + 3) lv st) : WM X K Q G pc lv (.int x :: .ref a :: st) :=
  r_put C hW F ht (nb_01 hz).1 (nb_01 hz).2 gCh_I ((fv_0 hk).trans (congrArg Value.int up2_eq)) (fun j hj => fv_same (up2_ne (fid_ne hj a a)) rfl rfl) hd kk
theorem r_putJ (C : Cx X K cc nL own fr lo) {a ci k index : Nat} {x : Int64} (hW : CW ci) (F : FP own index ci k .long false) (hk : fkd ci k = 2) (ht : gT G a = (1, ci)) (hd : decode cc pc = .ok (.putfield index, 3)) (kk : WM X K Q (sJ G (32 * ci + k) a x) (pc + 3) lv st) : WM X K Q G pc lv (.long x :: .ref a :: st) :=
  r_put C hW F ht rfl rfl gCh_J ((fv_2 hk).trans (congrArg Value.long up2_eq)) (fun j hj => fv_same rfl rfl (up2_ne (fid_ne hj a a))) hd kk
theorem r_putR (C : Cx X K cc nL own fr lo) {a b ci k index : Nat} {ty : FieldType} (hW : CW ci) (F : FP own index ci k ty false) (hk : fkd ci k = 1) (ht : gT G a = (1, ci)) (hn : narrow ty (.ref b) = .ref b) (hf : fits ty (.ref b) = true) (hd : decode cc pc = .ok (.putfield index, 3)) (kk : WM X K Q (sR G (32 * ci + k) a (some b)) (pc + 3) lv st) : WM X K Q G pc lv (.ref b :: .ref a :: st) :=
  r_put C hW F ht hn hf gCh_R ((fv_1 hk).trans (congrArg va_rf (up2_eq (x := some b)) : va_rf (up2 _ _ _ (some b) _ _) = Value.ref b)) (fun j hj => fv_same rfl (up2_ne (fid_ne hj a a)) rfl) hd kk
theorem r_putIF (C : Cx X K cc nL own fr lo) {a ci k index : Nat} {x : Int32} (hin2 : (kT K).name = "<init>") (hW : CW ci) (F : FP own index ci k .int true) (hk : fkd ci k = 0) (ht : gT G a = (1, ci)) (hd : decode cc pc = .ok (.putfield index, 3)) (kk : WM X K Q (sI G (32 * ci + k) a x) (pc + 3) lv st) : WM X K Q G pc lv (.int x :: .ref a :: st) :=
  r_putF C hin2 hW F ht rfl rfl gCh_I ((fv_0 hk).trans (congrArg Value.int up2_eq)) (fun j hj => fv_same (up2_ne (fid_ne hj a a)) rfl rfl) hd kk
theorem r_putZF (C : Cx X K cc nL own fr lo) {a ci k index : Nat} {x : Int32} (hin2 : (kT K).name = "<init>") (hW : CW ci) (F : FP own index ci k .boolean true) (hk : fkd ci k = 0) (ht : gT G a = (1, ci)) (hz : x = 0 ∨ x = 1) (hd : decode cc pc = .ok (.putfield index, 3)) (kk : WM X K Q (sI G (32 * ci + k) a x) (pc + 3) lv st) : WM X K Q G pc lv (.int x :: .ref a :: st) :=
  r_putF C hin2 hW F ht (nb_01 hz).1 (nb_01 hz).2 gCh_I ((fv_0 hk).trans (congrArg Value.int up2_eq)) (fun j hj => fv_same (up2_ne (fid_ne hj a a)) rfl rfl) hd kk
theorem r_putRF (C : Cx X K cc nL own fr lo) {a b ci k index : Nat} {ty : FieldType} (hin2 : (kT K).name = "<init>") (hW : CW ci) (F : FP own index ci k ty true) (hk : fkd ci k = 1) (ht : gT G a = (1, ci)) (hn : narrow ty (.ref b) = .ref b) (hf : fits ty (.ref b) = true) (hd : decode cc pc = .ok (.putfield index, 3)) (kk : WM X K Q (sR G (32 * ci + k) a (some b)) (pc + 3) lv st) : WM X K Q G pc lv (.ref b :: .ref a :: st) :=
  r_putF C hin2 hW F ht hn hf gCh_R ((fv_1 hk).trans (congrArg va_rf (up2_eq (x := some b)) : va_rf (up2 _ _ _ (some b) _ _) = Value.ref b)) (fun j hj => fv_same rfl (up2_ne (fid_ne hj a a)) rfl) hd kk
theorem in_size {i : Int32} {n : Nat} {cA : ClassId} {f : Nat → Value} (h : vp_in i n) : ¬ (i < 0 ∨ (arrV cA n f).slots.size ≤ i.toNatClampNeg) := by rw [arrV_size]; exact h
theorem in_lt {i : Int32} {n : Nat} (h : vp_in i n) : i.toNatClampNeg < n := Nat.not_le.mp fun q => h (Or.inr q)
theorem r_iald (C : Cx X K cc nL own fr lo) {a n : Nat} {i : Int32} (ht : gT G a = (2, n)) (hi : vp_in i n) (hd : decode cc pc = .ok (.iaload, 1)) (kk : WM X K Q G (pc + 1) lv (.int (gA G a i.toNatClampNeg) :: st)) : WM X K Q G pc lv (.int i :: .ref a :: st) := by
  obtain ⟨p, l, e, R, s, m, args, below, meth, c⟩ := K
  intro H locs ls h hl
  exact W.iald (v := .int (gA G a i.toNatClampNeg)) C.1 C.2.1 (hE_2 ht (h.1.1 a)).2 ((C.2.2.2.2.2.1.1.2 0 _ rfl).1 n (fun j => .int (gA G a j))) (fun q => by cases q) (in_size hi) (arrV_read _ _ (in_lt hi)) rfl rfl hd (kk H locs ls h hl)
theorem r_lald (C : Cx X K cc nL own fr lo) {a n : Nat} {i : Int32} (ht : gT G a = (5, n)) (hi : vp_in i n) (hd : decode cc pc = .ok (.laload, 1)) (kk : WM X K Q G (pc + 1) lv (.long (gE G a i.toNatClampNeg) :: st)) : WM X K Q G pc lv (.int i :: .ref a :: st) := by
  obtain ⟨p, l, e, R, s, m, args, below, meth, c⟩ := K
  intro H locs ls h hl
  exact W.lald (v := .long (gE G a i.toNatClampNeg)) C.1 C.2.1 (hE_5 ht (h.1.1 a)).2 ((C.2.2.2.2.2.1.1.2 3 _ rfl).1 n (fun j => .long (gE G a j))) (fun q => by cases q) (in_size hi) (arrV_read _ _ (in_lt hi)) rfl rfl hd (kk H locs ls h hl)
theorem r_aald3 (C : Cx X K cc nL own fr lo) {a n : Nat} {i : Int32} (ht : gT G a = (3, n)) (hi : vp_in i n) (hd : decode cc pc = .ok (.aaload, 1)) (kk : WM X K Q G (pc + 1) lv (va_rf (gB G a i.toNatClampNeg) :: st)) : WM X K Q G pc lv (.int i :: .ref a :: st) := by
  obtain ⟨p, l, e, R, s, m, args, below, meth, c⟩ := K
  intro H locs ls h hl
  exact W.aald (v := va_rf (gB G a i.toNatClampNeg)) (ty := .object "java/lang/Object") C.1 C.2.1 (hE_3 ht (h.1.1 a)).2 ((C.2.2.2.2.2.1.1.2 1 _ rfl).1 n (fun j => va_rf (gB G a j))) rfl (fun q => by cases q) (in_size hi) (arrV_read _ _ (in_lt hi)) rfl rfl hd (kk H locs ls h hl)
theorem r_aald4 (C : Cx X K cc nL own fr lo) {a n : Nat} {i : Int32} (ht : gT G a = (4, n)) (hi : vp_in i n) (hd : decode cc pc = .ok (.aaload, 1)) (kk : WM X K Q G (pc + 1) lv (va_rf (gB G a i.toNatClampNeg) :: st)) : WM X K Q G pc lv (.int i :: .ref a :: st) := by
  obtain ⟨p, l, e, R, s, m, args, below, meth, c⟩ := K
  intro H locs ls h hl
  exact W.aald (v := va_rf (gB G a i.toNatClampNeg)) (ty := .object "RegisterGateway$Device") C.1 C.2.1 (hE_4 ht (h.1.1 a)).2 ((C.2.2.2.2.2.1.1.2 2 _ rfl).1 n (fun j => va_rf (gB G a j))) rfl (fun q => by cases q) (in_size hi) (arrV_read _ _ (in_lt hi)) rfl rfl hd (kk H locs ls h hl)
theorem r_stH {G' : Gt} {a i d : Nat} {H H' : Heap} {locs : List Loc} {cell cell' : Cell} {ls : Array Slot} (kk : WM X K Q G' (pc + d) lv st) (h : hM X K G H locs) (hl : lh ls lv) (hG : gCh a G G') (hN : xN X ≤ a) (q1 : H[a]? = some cell) (e1 : H'[a]? = some cell') (hs : cell'.slots.size = cell.slots.size) (e2 : H'.size = H.size) (e3 : ∀ q, q ≠ a → H'[q]? = H[q]?) (he : hE X G' H' a) :
    kW K H' (locs ++ [⟨a, i⟩]) (gH G - (kS K).heap.size) (gU G - hU (kS K).heap) Q (F0 (kM K) (pc + d) ls st) := by
  have hc' : hC X G' H' := hC_put h.1 hG hN q1 e1 hs e2 e3 he
  have z := kk H' (locs ++ [⟨a, i⟩]) ls ⟨hc', locs_add h.2.1 hN, by rw [hG.2.1]; exact h.2.2.1, by rw [hG.2.2.1]; exact h.2.2.2⟩ hl
  rw [hG.2.1, hG.2.2.1] at z
  exact z
theorem r_iast (C : Cx X K cc nL own fr lo) {a n : Nat} {i x : Int32} (ht : gT G a = (2, n)) (hi : vp_in i n) (hd : decode cc pc = .ok (.iastore, 1)) (kk : WM X K Q (sA G a (upd (gA G a) i.toNatClampNeg x)) (pc + 1) lv st) : WM X K Q G pc lv (.int x :: .int i :: .ref a :: st) := by
  obtain ⟨p, l, e, R, s, m, args, below, meth, c⟩ := K
  intro H locs ls h hl
  have q1 := hE_2 ht (h.1.1 a)
  refine W.iast C.1 C.2.1 q1.2 ((C.2.2.2.2.2.1.1.2 0 _ rfl).1 n (fun j => .int (gA G a j))) (fun q => by cases q) (in_size hi) rfl rfl hd fun H1 e z oq => ?_
  refine r_stH kk h hl gCh_A q1.1 q1.2 e (by simp [Cell.setSlot]) z oq (hE_i2 ht ⟨q1.1, ?_⟩)
  rw [e, arrV_store]
  congr 2
  funext q
  rw [gA_sA]
  by_cases hq : q = i.toNatClampNeg
  · subst hq
    simp [updV, upd]
  · simp [updV, upd, hq]
theorem r_last (C : Cx X K cc nL own fr lo) {a n : Nat} {i : Int32} {x : Int64} (ht : gT G a = (5, n)) (hi : vp_in i n) (hd : decode cc pc = .ok (.lastore, 1)) (kk : WM X K Q (sE G a (vp_updL (gE G a) i.toNatClampNeg x)) (pc + 1) lv st) : WM X K Q G pc lv (.long x :: .int i :: .ref a :: st) := by
  obtain ⟨p, l, e, R, s, m, args, below, meth, c⟩ := K
  intro H locs ls h hl
  have q1 := hE_5 ht (h.1.1 a)
  refine W.last C.1 C.2.1 q1.2 ((C.2.2.2.2.2.1.1.2 3 _ rfl).1 n (fun j => .long (gE G a j))) (fun q => by cases q) (in_size hi) rfl rfl hd fun H1 e z oq => ?_
  refine r_stH kk h hl gCh_E q1.1 q1.2 e (by simp [Cell.setSlot]) z oq (hE_i5 ht ⟨q1.1, ?_⟩)
  rw [e, arrV_store]
  congr 2
  funext q
  rw [gE_sE]
  by_cases hq : q = i.toNatClampNeg
  · subst hq
    simp [updV, vp_updL]
  · simp [updV, vp_updL, hq]
theorem upq {f : Nat → Option Nat} {k q : Nat} {x : Option Nat} : updV (fun j => va_rf (f j)) k (va_rf x) q = va_rf (va_up f k x q) := by
  by_cases hq : q = k
  · subst hq
    simp [updV, va_up]
  · simp [updV, va_up, hq]
theorem obj_recv {H : Heap} {s : State} {a ci : Nat} {r : vw_C} (hKF : KF X s) (h : hC X G H) (ht : gT G a = (1, ci)) (hc : vwCl[ci]? = some r) : ∃ cell : Cell, H[a]? = some cell ∧ cell.vm.isStatics = false ∧ s.vm.findClass r.1 = some cell.cls := by
  obtain ⟨hN, r9, h1, cell, q1, q2, q3, q4⟩ := hE_1 ht (h.1 a)
  cases Option.some.inj (h1.symm.trans hc)
  exact ⟨cell, q1, by rw [q3]; rfl, by rw [q2]; exact (hKF.1.1 ci r hc).2.1⟩
theorem r_aast3 (C : Cx X K cc nL own fr lo) {a b n ci : Nat} {i : Int32} {r : vw_C} (hc : vwCl[ci]? = some r) (hca : Cond.castable r.1 "java/lang/Object" ∈ lw_tbl) (ht : gT G a = (3, n)) (hb9 : gT G b = (1, ci)) (hi : vp_in i n) (hd : decode cc pc = .ok (.aastore, 1)) (kk : WM X K Q (sB G a (va_up (gB G a) i.toNatClampNeg (some b))) (pc + 1) lv st) : WM X K Q G pc lv (.ref b :: .int i :: .ref a :: st) := by
  obtain ⟨p, l, e, R, s, m, args, below, meth, c⟩ := K
  intro H locs ls h hl
  have q1 := hE_3 ht (h.1.1 a)
  have hKF := C.2.2.2.2.2.1
  obtain ⟨cellV, g1, g3, g4⟩ := obj_recv hKF h.1 hb9 hc
  obtain ⟨kC, hkC, -⟩ := Vm.findClass_spec g4
  obtain ⟨kA, comp, k1, k2, k3, -⟩ := (hKF.1.2 1 _ rfl).2
  obtain ⟨kE, hkE, -⟩ := Vm.findClass_spec k3
  obtain ⟨c0, t0, f1, f2, f3⟩ := Cond.castable_spec (va_Nw.use (A := args) rfl (hKF.2.1 _ hca rfl))
  cases Option.some.inj (f1.symm.trans g4)
  cases Option.some.inj (f2.symm.trans k3)
  refine W.aast C.1 C.2.1 q1.2 (fun q h => by cases h) (fun h => by cases h) k1 k2 rfl hkE ⟨fun q => hi (Or.inl q), by rw [arrV_size]; exact in_lt hi⟩ g1 (fun q h => by rw [h] at g3; cases g3) hkC f3 rfl rfl hd fun H1 e z oq => ?_
  refine r_stH kk h hl gCh_B q1.1 q1.2 e (by simp [Cell.setSlot]) z oq (hE_i3 ht ⟨q1.1, ?_⟩)
  rw [e, arrV_store]
  congr 2
  funext q
  rw [gB_sB]
  exact upq (x := some b)
theorem r_aast4 (C : Cx X K cc nL own fr lo) {a b n : Nat} {i : Int32} (ht : gT G a = (4, n)) (hb9 : gT G b = (1, 3)) (hi : vp_in i n) (hd : decode cc pc = .ok (.aastore, 1)) (kk : WM X K Q (sB G a (va_up (gB G a) i.toNatClampNeg (some b))) (pc + 1) lv st) : WM X K Q G pc lv (.ref b :: .int i :: .ref a :: st) := by
  obtain ⟨p, l, e, R, s, m, args, below, meth, c⟩ := K
  intro H locs ls h hl
  have q1 := hE_4 ht (h.1.1 a)
  have hKF := C.2.2.2.2.2.1
  obtain ⟨cellV, g1, g3, g4⟩ := obj_recv hKF h.1 hb9 (r := (RX2, TX2, 7)) rfl
  obtain ⟨kC, hkC, -⟩ := Vm.findClass_spec g4
  obtain ⟨kA, comp, k1, k2, k3, -⟩ := (hKF.1.2 2 _ rfl).2
  obtain ⟨kE, hkE, -⟩ := Vm.findClass_spec k3
  have hcl := (hKF.1.1 3 (RX2, TX2, 7) rfl).2
  have e5 : comp = cellV.cls := Option.some.inj (k3.symm.trans g4)
  have e6 : (xD X).1 3 = cellV.cls := Option.some.inj (hcl.1.symm.trans g4)
  have hasg : s.vm.assignable cellV.cls comp = true := by rw [e5, ← e6]; exact va_assign hcl
  refine W.aast C.1 C.2.1 q1.2 (fun q h => by cases h) (fun h => by cases h) k1 k2 rfl hkE ⟨fun q => hi (Or.inl q), by rw [arrV_size]; exact in_lt hi⟩ g1 (fun q h => by rw [h] at g3; cases g3) hkC hasg rfl rfl hd fun H1 e z oq => ?_
  refine r_stH kk h hl gCh_B q1.1 q1.2 e (by simp [Cell.setSlot]) z oq (hE_i4 ht ⟨q1.1, ?_⟩)
  rw [e, arrV_store]
  congr 2
  funext q
  rw [gB_sB]
  exact upq (x := some b)
theorem r_aastN (C : Cx X K cc nL own fr lo) {a n : Nat} {i : Int32} (ht : gT G a = (3, n)) (hi : vp_in i n) (hd : decode cc pc = .ok (.aastore, 1)) (kk : WM X K Q (sB G a (va_up (gB G a) i.toNatClampNeg none)) (pc + 1) lv st) : WM X K Q G pc lv (.null :: .int i :: .ref a :: st) := by
  obtain ⟨p, l, e, R, s, m, args, below, meth, c⟩ := K
  intro H locs ls h hl
  have q1 := hE_3 ht (h.1.1 a)
  refine va_WaastN C.1 C.2.1 q1.2 ((C.2.2.2.2.2.1.1.2 1 _ rfl).1 n (fun j => va_rf (gB G a j))) (fun q => by cases q) (in_size hi) rfl rfl hd fun H1 e z oq => ?_
  refine r_stH kk h hl gCh_B q1.1 q1.2 e (by simp [Cell.setSlot]) z oq (hE_i3 ht ⟨q1.1, ?_⟩)
  rw [e, arrV_store]
  congr 2
  funext q
  rw [gB_sB]
  exact upq (x := none)
theorem r_alen2 (C : Cx X K cc nL own fr lo) {a n : Nat} (ht : gT G a = (2, n)) (hd : decode cc pc = .ok (.arraylength, 1)) (kk : WM X K Q G (pc + 1) lv (.int (nI n) :: st)) : WM X K Q G pc lv (.ref a :: st) := by
  obtain ⟨p, l, e, R, s, m, args, below, meth, c⟩ := K
  intro H locs ls h hl
  exact W.alen (n := nI n) C.1 C.2.1 (hE_2 ht (h.1.1 a)).2 ((C.2.2.2.2.2.1.1.2 0 _ rfl).1 n (fun j => .int (gA G a j))) (by rw [arrV_size]; rfl) rfl rfl hd (kk H locs ls h hl)
theorem r_alen3 (C : Cx X K cc nL own fr lo) {a n : Nat} (ht : gT G a = (3, n)) (hd : decode cc pc = .ok (.arraylength, 1)) (kk : WM X K Q G (pc + 1) lv (.int (nI n) :: st)) : WM X K Q G pc lv (.ref a :: st) := by
  obtain ⟨p, l, e, R, s, m, args, below, meth, c⟩ := K
  intro H locs ls h hl
  exact W.alen (n := nI n) C.1 C.2.1 (hE_3 ht (h.1.1 a)).2 ((C.2.2.2.2.2.1.1.2 1 _ rfl).1 n (fun j => va_rf (gB G a j))) (by rw [arrV_size]; rfl) rfl rfl hd (kk H locs ls h hl)
theorem r_alen6 (C : Cx X K cc nL own fr lo) {a n : Nat} (ht : gT G a = (6, n)) (hd : decode cc pc = .ok (.arraylength, 1)) (kk : WM X K Q G (pc + 1) lv (.int (nI n) :: st)) : WM X K Q G pc lv (.ref a :: st) := by
  obtain ⟨p, l, e, R, s, m, args, below, meth, c⟩ := K
  intro H locs ls h hl
  obtain ⟨h1, h2⟩ := hE_6 ht (h.1.1 a)
  subst h1; subst h2
  have hKF := C.2.2.2.2.2.1
  obtain ⟨cell, g1, g2, g3, g4, g5, -, g7⟩ := hKF.2.2.2.2.1.2
  have hz : xde X < xN X := Nat.not_le.mp g7
  exact W.alen (n := nI 0) C.1 C.2.1 (by rw [h.1.2.2.2.1 _ hz]; exact g1) g2 g5 rfl rfl hd (kk H locs ls h hl)
end HROWS
