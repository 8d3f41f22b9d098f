/-! ===== shorter rows for the walks ===== -/
def rI (Pr : Int32 → Gt → Prop) : Option Value → Gt → Prop := fun v G' => ∃ r, v = some (.int r) ∧ Pr r G'
def rJ (Pr : Int64 → Gt → Prop) : Option Value → Gt → Prop := fun v G' => ∃ r, v = some (.long r) ∧ Pr r G'
def rV (Pr : Gt → Prop) : Option Value → Gt → Prop := fun v G' => v = none ∧ Pr G'
def rA (Pr : Option Nat → Gt → Prop) : Option Value → Gt → Prop := fun v G' => ∃ r, v = some (va_rf r) ∧ Pr r G'
def noX : String → Gt → Prop := fun _ _ => False
/-- a body's entry, all of it -/
def BX (X : Xt) (K : Kt) (l : Launch) (cc : ByteArray) (nL : Nat) (own : String) (fr lo : Nat) (G0 : Gt) (ret : Option FieldType) (nm : String) : Prop := kL K = l ∧ Cx X K cc nL own fr lo ∧ EB X K G0 ∧ (kT K).sig.returnType = ret ∧ (kT K).name = nm ∧ (∀ x ∈ (kC K).exceptionTable.toList, False) ∧ l.stackTraces = false
def fgt : List (Option Value) → List (Option Value) → Prop
  | [], [] => True
  | none :: a, _ :: b => fgt a b
  | some v :: a, o :: b => o = some v ∧ fgt a b
  | _, _ => False
theorem fgt_ok : ∀ (a b : List (Option Value)), fgt a b → a.length = b.length ∧ ∀ (i : Nat) (v : Value), a[i]? = some (some v) → b[i]? = some (some v) := by
  intro a
  induction a with
  | nil =>
    intro b h
    cases b with
    | nil => exact ⟨rfl, fun i v h => h⟩
    | cons x b => exact absurd h (by simp [fgt])
  | cons o a ih =>
    intro b h
    cases b with
    | nil => cases o <;> exact absurd h (by simp [fgt])
    | cons x b =>
      cases o with
      | none =>
        obtain ⟨h1, h2⟩ := ih b h
        refine ⟨by simp [h1], fun i v hi => ?_⟩
        cases i with
        | zero => simp at hi
        | succ i => simp only [List.getElem?_cons_succ] at hi ⊢; exact h2 i v hi
      | some w =>
        obtain ⟨h0, h⟩ := h
        obtain ⟨h1, h2⟩ := ih b h
        refine ⟨by simp [h1], fun i v hi => ?_⟩
        cases i with
        | zero => simp at hi ⊢; rw [h0, hi]
        | succ i => simp only [List.getElem?_cons_succ] at hi ⊢; exact h2 i v hi
theorem FW.of {own : String} {index ci k : Nat} {Cn : String} {T : u_T} {N : Nat} (ref : String) (hc : vwCl[ci]? = some (Cn, T, N)) (hk : k < N) (hin : ∀ w ∈ u_ws Cn T N, w ∈ gtbl) (hl : Cond.fieldLink own index ref (T k).2.1 (T k).2.2.1 ∈ gtbl) (hs : ref = (T k).1 ∨ Cond.sameField ref (T k).1 (T k).2.1 (T k).2.2.1 ∈ gtbl) : FW own index ci k := ⟨Cn, T, N, ref, hc, hk, hin, hl, hs⟩
theorem FP.of {own : String} {index ci k : Nat} {Cn : String} {T : u_T} {N : Nat} {ty : FieldType} {fin : Bool} (ref : String) (hc : vwCl[ci]? = some (Cn, T, N)) (hk : k < N) (hl : Cond.fieldLink own index ref (T k).2.1 (T k).2.2.1 ∈ gtbl) (hs : ref = (T k).1 ∨ Cond.sameField ref (T k).1 (T k).2.1 (T k).2.2.1 ∈ gtbl) (h1 : (T k).2.2.2 = fin) (h2 : parseFieldDescriptor (T k).2.2.1 = some ty) (h3 : fin = true → (T k).1 = own) : FP own index ci k ty fin := ⟨Cn, T, N, ref, hc, hk, hl, hs, h1, h2, h3⟩
theorem fallc {w : Cond} {L : List Cond} (h : w ∈ gtbl) (t : ∀ z ∈ L, z ∈ gtbl) : ∀ z ∈ w :: L, z ∈ gtbl := fun z hz => (List.mem_cons.mp hz).elim (fun e => by rw [e]; exact h) (t z)
theorem falln : ∀ z ∈ ([] : List Cond), z ∈ gtbl := fun _ h => nomatch h
section AUX
variable {X : Xt} {K : Kt} {Q : State → Prop} {G : Gt} {pc : Nat} {lv : List (Option Value)} {st : List Value} {cc : ByteArray} {nL : Nat} {own : String} {fr lo : Nat}
theorem r_fg {lv' : List (Option Value)} (h : fgt lv' lv) (k : WM X K Q G pc lv' st) : WM X K Q G pc lv st := r_forget k (fgt_ok _ _ h).1 (fgt_ok _ _ h).2
theorem r_aloadR_n (C : Cx X K cc nL own fr lo) {j : Fin 4} (i : Nat) {a : Nat} (hd : decode cc pc = .ok (.aload_n j, 1)) (hj : (j : Nat) = i) (hv : lv[i]? = some (some (.ref a))) (k : WM X K Q G (pc + 1) lv (.ref a :: st)) : WM X K Q G pc lv st := r_aload_n C i (x := some a) hd hj hv k
theorem r_aloadR (C : Cx X K cc nL own fr lo) {i : Nat} {a : Nat} (hd : decode cc pc = .ok (.aload i, 2)) (hv : lv[i]? = some (some (.ref a))) (k : WM X K Q G (pc + 2) lv (.ref a :: st)) : WM X K Q G pc lv st := r_aload C (x := some a) hd hv k
theorem r_astoreR_n (C : Cx X K cc nL own fr lo) {j : Fin 4} (i : Nat) {a : Nat} {lv' : List (Option Value)} (hd : decode cc pc = .ok (.astore_n j, 1)) (hj : (j : Nat) = i) (hn : i < lv.length) (ho : ok1 lv i = true) (he : lv.set i (some (.ref a)) = lv') (k : WM X K Q G (pc + 1) lv' st) : WM X K Q G pc lv (.ref a :: st) := r_astore_n C i (x := some a) hd hj hn ho he k
theorem r_astoreR (C : Cx X K cc nL own fr lo) {i : Nat} {a : Nat} {lv' : List (Option Value)} (hd : decode cc pc = .ok (.astore i, 2)) (hn : i < lv.length) (ho : ok1 lv i = true) (he : lv.set i (some (.ref a)) = lv') (k : WM X K Q G (pc + 2) lv' st) : WM X K Q G pc lv (.ref a :: st) := r_astore C (x := some a) hd hn ho he k
theorem gTp {a k : Nat} (h : (gT G a).1 = k) : gT G a = (k, (gT G a).2) := by rw [← h]
theorem r_ialdP (C : Cx X K cc nL own fr lo) {a : Nat} {i : Int32} (ht : (gT G a).1 = 2) (hi : vp_in i (gT G a).2) (hd : decode cc pc = .ok (.iaload, 1)) (kk : WM X K Q G (pc + 1) lv (.int (gA G a i.toNatClampNeg) :: st)) : WM X K Q G pc lv (.int i :: .ref a :: st) := r_iald C (gTp ht) hi hd kk
theorem r_iastP (C : Cx X K cc nL own fr lo) {a : Nat} {i x : Int32} (ht : (gT G a).1 = 2) (hi : vp_in i (gT G a).2) (hd : decode cc pc = .ok (.iastore, 1)) (kk : WM X K Q (sA G a (upd (gA G a) i.toNatClampNeg x)) (pc + 1) lv st) : WM X K Q G pc lv (.int x :: .int i :: .ref a :: st) := r_iast C (gTp ht) hi hd kk
theorem r_laldP (C : Cx X K cc nL own fr lo) {a : Nat} {i : Int32} (ht : (gT G a).1 = 5) (hi : vp_in i (gT G a).2) (hd : decode cc pc = .ok (.laload, 1)) (kk : WM X K Q G (pc + 1) lv (.long (gE G a i.toNatClampNeg) :: st)) : WM X K Q G pc lv (.int i :: .ref a :: st) := r_lald C (gTp ht) hi hd kk
theorem r_lastP (C : Cx X K cc nL own fr lo) {a : Nat} {i : Int32} {x : Int64} (ht : (gT G a).1 = 5) (hi : vp_in i (gT G a).2) (hd : decode cc pc = .ok (.lastore, 1)) (kk : WM X K Q (sE G a (vp_updL (gE G a) i.toNatClampNeg x)) (pc + 1) lv st) : WM X K Q G pc lv (.long x :: .int i :: .ref a :: st) := r_last C (gTp ht) hi hd kk
theorem r_aald3P (C : Cx X K cc nL own fr lo) {a : Nat} {i : Int32} (ht : (gT G a).1 = 3) (hi : vp_in i (gT G a).2) (hd : decode cc pc = .ok (.aaload, 1)) (kk : WM X K Q G (pc + 1) lv (va_rf (gB G a i.toNatClampNeg) :: st)) : WM X K Q G pc lv (.int i :: .ref a :: st) := r_aald3 C (gTp ht) hi hd kk
theorem r_aald4P (C : Cx X K cc nL own fr lo) {a b : Nat} {i : Int32} (ht : (gT G a).1 = 4) (hi : vp_in i (gT G a).2) (hb : gB G a i.toNatClampNeg = some b) (hd : decode cc pc = .ok (.aaload, 1)) (kk : WM X K Q G (pc + 1) lv (.ref b :: st)) : WM X K Q G pc lv (.int i :: .ref a :: st) := r_aald4 C (gTp ht) hi hd (by rw [hb]; exact kk)
theorem r_alen2P (C : Cx X K cc nL own fr lo) {a : Nat} (ht : (gT G a).1 = 2) (hd : decode cc pc = .ok (.arraylength, 1)) (kk : WM X K Q G (pc + 1) lv (.int (nI (gT G a).2) :: st)) : WM X K Q G pc lv (.ref a :: st) := r_alen2 C (gTp ht) hd kk
theorem r_alen36P (C : Cx X K cc nL own fr lo) {a : Nat} (ht : (gT G a).1 = 3 ∨ (gT G a).1 = 6) (hd : decode cc pc = .ok (.arraylength, 1)) (kk : WM X K Q G (pc + 1) lv (.int (nI (gT G a).2) :: st)) : WM X K Q G pc lv (.ref a :: st) := ht.elim (fun h => r_alen3 C (gTp h) hd kk) (fun h => r_alen6 C (gTp h) hd kk)
end AUX
