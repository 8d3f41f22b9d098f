section AUX2
variable {X : Xt} {K : Kt} {Q : State → Prop} {G : Gt} {pc : Nat} {lv : List (Option Value)} {st : List Value} {cc : ByteArray} {nL : Nat} {own : String} {fr lo : Nat}
theorem r_nm {e : Gt} (h : ∀ g : Gt, g = e → WM X K Q g pc lv st) : WM X K Q e pc lv st := h e rfl
theorem kI {Pr : Int32 → Gt → Prop} (k : ∀ (r : Int32) (g : Gt), Pr r g → WM X K Q g pc lv (.int r :: st)) : ∀ (v : Option Value) (g : Gt), rI Pr v g → WM X K Q g pc lv (v.toList ++ st) := by
  rintro v g ⟨r, rfl, h⟩
  exact k r g h
theorem kJ {Pr : Int64 → Gt → Prop} (k : ∀ (r : Int64) (g : Gt), Pr r g → WM X K Q g pc lv (.long r :: st)) : ∀ (v : Option Value) (g : Gt), rJ Pr v g → WM X K Q g pc lv (v.toList ++ st) := by
  rintro v g ⟨r, rfl, h⟩
  exact k r g h
theorem kA' {Pr : Option Nat → Gt → Prop} (k : ∀ (r : Option Nat) (g : Gt), Pr r g → WM X K Q g pc lv (va_rf r :: st)) : ∀ (v : Option Value) (g : Gt), rA Pr v g → WM X K Q g pc lv (v.toList ++ st) := by
  rintro v g ⟨r, rfl, h⟩
  exact k r g h
theorem kV' {Pr : Gt → Prop} (k : ∀ (g : Gt), Pr g → WM X K Q g pc lv st) : ∀ (v : Option Value) (g : Gt), rV Pr v g → WM X K Q g pc lv (v.toList ++ st) := by
  rintro v g ⟨rfl, h⟩
  exact k g h
theorem kN : ∀ (E : String) (g : Gt), noX E g → XM X K Q g pc lv st E := fun _ _ h => h.elim
theorem kO {G0 : Gt} {Pr : Option Value → Gt → Prop} {Px : String → Gt → Prop} (C : Cx X K cc nL own fr lo) (E0 : EB X K G0) (hex : ∀ x ∈ (kC K).exceptionTable.toList, False) : ∀ (E : String) (g : Gt), Px E g → XM X K (QM X K G0 Pr Px) g pc lv st E := fun _ _ h => x_out C E0 hex h
theorem rf_cat (x : Option Nat) : (va_rf x).category = 1 := by cases x <;> rfl
theorem r_aastNP (C : Cx X K cc nL own fr lo) {a : Nat} {i : Int32} (ht : (gT G a).1 = 3) (hi : vp_in i (gT G a).2) (hd : decode cc pc = .ok (.aastore, 1)) (kk : WM X K Q (sB G a (va_up (gB G a) i.toNatClampNeg none)) (pc + 1) lv st) : WM X K Q G pc lv (.null :: .int i :: .ref a :: st) := r_aastN C (gTp ht) hi hd kk
end AUX2
