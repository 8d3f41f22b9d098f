theorem i32_of {x y : Int32} (h : x.toInt = y.toInt) : x = y := Int32.toInt_inj.mp h
theorem sw_cases8 (x : Int32) (c : ¬ (x.toInt < 0 ∨ 8 < x.toInt)) : x = 0 ∨ x = 1 ∨ x = 2 ∨ x = 3 ∨ x = 4 ∨ x = 5 ∨ x = 6 ∨ x = 7 ∨ x = 8 := by
  have h : x.toInt = 0 ∨ x.toInt = 1 ∨ x.toInt = 2 ∨ x.toInt = 3 ∨ x.toInt = 4 ∨ x.toInt = 5 ∨ x.toInt = 6 ∨ x.toInt = 7 ∨ x.toInt = 8 := by omega
  rcases h with h | h | h | h | h | h | h | h | h
  · exact Or.inl (i32_of (h.trans (by decide)))
  · exact Or.inr (Or.inl (i32_of (h.trans (by decide))))
  · exact Or.inr (Or.inr (Or.inl (i32_of (h.trans (by decide)))))
  · exact Or.inr (Or.inr (Or.inr (Or.inl (i32_of (h.trans (by decide))))))
  · exact Or.inr (Or.inr (Or.inr (Or.inr (Or.inl (i32_of (h.trans (by decide)))))))
  · exact Or.inr (Or.inr (Or.inr (Or.inr (Or.inr (Or.inl (i32_of (h.trans (by decide))))))))
  · exact Or.inr (Or.inr (Or.inr (Or.inr (Or.inr (Or.inr (Or.inl (i32_of (h.trans (by decide)))))))))
  · exact Or.inr (Or.inr (Or.inr (Or.inr (Or.inr (Or.inr (Or.inr (Or.inl (i32_of (h.trans (by decide))))))))))
  · exact Or.inr (Or.inr (Or.inr (Or.inr (Or.inr (Or.inr (Or.inr (Or.inr (i32_of (h.trans (by decide))))))))))
theorem r_ldcw {X : Xt} {K : Kt} {Q : State → Prop} {G : Gt} {pc : Nat} {lv : List (Option Value)} {st : List Value} {cc : ByteArray} {nL : Nat} {own : String} {fr lo : Nat} (C : Cx X K cc nL own fr lo) {i : Nat} {v : Int32} (hc : Cond.constant own i v ∈ gtbl) (hd : decode cc pc = .ok (.ldc_w i, 3)) (k : WM X K Q G (pc + 3) lv (.int v :: st)) : WM X K Q G pc lv st := fun H locs ls h hl => lv_ldcw C.1 C.2.1 C.2.2.2.1 (C.2.2.2.2.1 _ hc) hd (k H locs ls h hl)
