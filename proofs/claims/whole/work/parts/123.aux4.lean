theorem i32_of {x y : Int32} (h : x.toInt = y.toInt) : x = y := Int32.toInt_inj.mp h
theorem sw_cases8 (x : Int32) (c : ¬ (x.toInt < 0 ∨ 8 < x.toInt)) : x = 0 ∨ x = 1 ∨ x = 2 ∨ x = 3 ∨ x = 4 ∨ x = 5 ∨ x = 6 ∨ x = 7 ∨ x = 8 := by
  have h : x.toInt = 0 ∨ x.toInt = 1 ∨ x.toInt = 2 ∨ x.toInt = 3 ∨ x.toInt = 4 ∨ x.toInt = 5 ∨ x.toInt = 6 ∨ x.toInt = 7 ∨ x.toInt = 8 := by omega
  rcases h with h | h | h | h | h | h | h | h | h
  · exact Or.inl (i32_of (h.trans (by decide)))
  · exact Or.inr (Or.inl (i32_of (h.trans (by decide))))
  · exact Or.inr (Or.inr (Or.inl (i32_of (h.trans (by decide)))))
  · exact Or.inr (Or.inr (Or.inr (Or.inl (i32_of (h.trans (by decide))))))
  · exact Or.inr (Or.inr (Or.inr (Or.inr (Or.inl (i32_of (h.trans (by decide)))))))
  · exact Or.inr (Or.inr (Or.inr (Or.inr (Or.inr (Or.inl (i32_of (h.trans (by decide))))))))
  · exact Or.inr (Or.inr (Or.inr (Or.inr (Or.inr (Or.inr (Or.inl (i32_of (h.trans (by decide)))))))))
  · exact Or.inr (Or.inr (Or.inr (Or.inr (Or.inr (Or.inr (Or.inr (Or.inl (i32_of (h.trans (by decide))))))))))
  · exact Or.inr (Or.inr (Or.inr (Or.inr (Or.inr (Or.inr (Or.inr (Or.inr (i32_of (h.trans (by decide))))))))))
theorem r_ldcw {X : Xt} {K : Kt} {Q : State → Prop} {G : Gt} {pc : Nat} {lv : List (Option Value)} {st : List Value} {cc : ByteArray} {nL : Nat} {own : String} {fr lo : Nat} (C : Cx X K cc nL own fr lo) {i : Nat} {v : Int32} (hc : Cond.constant own i v ∈ gtbl) (hd : decode cc pc = .ok (.ldc_w i, 3)) (k : WM X K Q G (pc + 3) lv (.int v :: st)) : WM X K Q G pc lv st := fun H locs ls h hl => lv_ldcw C.1 C.2.1 C.2.2.2.1 (C.2.2.2.2.1 _ hc) hd (k H locs ls h hl)
theorem vx_ofWF {l : Launch} {y : MethodName} {ws ws' : List Cond} {rm : Room} {Pc : Array Value → State → Prop} {Qc : Array Value → State → Outcome → State → Prop} {XC : String → State → State → Prop} {mc ms : Nat} {free : Addr → Prop} {cc : ByteArray} {maxL : Nat} {ret : Option FieldType}
    (hy : plainFor y = true) (hw : ws = Cond.code y cc maxL ret :: ws')
    (body : ∀ p e s m args below meth c s₁, BodyLoose p l y (headSpec ws rm) cc maxL ret e s m args below meth c s₁ → c.maxLocals = maxL → (∀ x ∈ c.exceptionTable.toList, False) → Pc args s →
      W p l e (headSpec ws rm).room s m args below meth c s.heap [] 0 0 (vx_MQ below Qc XC args s mc ms free) (entryFrame m args maxL)) : vx_Met l y ws rm Pc Qc XC mc ms free := by
  refine MetFree.of_bodySF (code := cc) (maxLocals := maxL) (ret := ret) hy ?_ ?_
  · intro args s m h hn
    obtain ⟨meth, c, h1, h2, h3, h4, h5, h6, -, -⟩ := Cond.code_spec hn (atoms_spec (ws := ws) h _ (by rw [hw]; exact List.mem_cons_self))
    exact ⟨meth, c, h1, h2, h3, h4, h5, h6⟩
  · intro p e s m args below meth c s₁ B hml hP _
    have hh0 : s₁.heap = s.heap := by rw [B.state]; rfl
    have ht : ∀ x ∈ c.exceptionTable.toList, False := by
      obtain ⟨meth9, c9, h1, h2, -, -, -, -, h7, -⟩ := Cond.code_spec B.named (atoms_spec (ws := ws) B.pre _ (by rw [hw]; exact List.mem_cons_self))
      cases Option.some.inj (h1.symm.trans B.method)
      cases Option.some.inj (h2.symm.trans (Stand.of_body B).code)
      intro x hx
      rw [Array.isEmpty_iff.mp h7] at hx
      cases hx
    obtain ⟨t, a1, o, b1, b2, b3⟩ := body p e s m args below meth c s₁ B hml ht hP s₁ hh0 (Stand.of_body B)
    exact ⟨t, o, a1, b1, b2, b3⟩
theorem Mc.ofF {X : Xt} {l : Launch} {y : MethodName} {cc : ByteArray} {maxL fr lo : Nat} {ret : Option FieldType} {as : List Value} {G : Gt} {Pr : Option Value → Gt → Prop} {Px : String → Gt → Prop} (hy : plainFor y = true) (hfl : l.stackTraces = false) (lv0 : List (Option Value)) (hn : lv0.length = maxL) (hs : (lg_sl as).length ≤ maxL) (hv : lvp 0 lv0 = lv_args 0 as)
    (body : ∀ K : Kt, kL K = l → Cx X K cc maxL y.cls fr lo → EB X K G → (kT K).sig.returnType = ret → (kT K).name = y.name → (∀ x ∈ (kC K).exceptionTable.toList, False) → WM X K (QM X K G Pr Px) G 0 lv0 []) : Mc X l y (.code y cc maxL ret) fr lo as G Pr Px := by
  refine vx_ofWF (cc := cc) (maxL := maxL) (ret := ret) hy rfl ?_
  intro p e s m args below meth c s₁ B hml hex hv9
  obtain ⟨rfl, hc, hKF⟩ := hv9
  have hts := atoms_spec (ws := Cond.code y cc maxL ret :: gtbl) B.pre
  have hown : s.vm.findClass y.cls = some m.cls := findClass_of_methodNamed B.named
  have hC9 : Cx X (p, l, e, rmM X G fr lo, s, m, as.toArray, below, meth, c) cc maxL y.cls fr lo := ⟨B.exec, B.bytes, hml, hown, fun w hw => hts w (List.mem_cons_of_mem _ hw), hKF, B.notSynchronized, hfl, rfl, rfl, by show xC X - gH G = xC X - s.heap.size; rw [hc.2.1], by show xS X - gU G = xS X - hU s.heap; rw [hc.2.2.1]⟩
  have hE9 : EB X (p, l, e, rmM X G fr lo, s, m, as.toArray, below, meth, c) G := hc
  have hb := body (p, l, e, rmM X G fr lo, s, m, as.toArray, below, meth, c) rfl hC9 hE9 B.returns (name_of_methodNamed B.named B.method).1 hex
  have hl := lv_entry as (n := maxL) hs
  rw [lg_entry_eq]
  have z := hb s.heap [] _ ⟨hc, (fun _ h => by cases h), Nat.le_of_eq hc.2.1, Nat.le_of_eq hc.2.2.1⟩ (lh_of hl hn hv)
  have e1 : gH G - s.heap.size = 0 := by rw [hc.2.1]; exact Nat.sub_self _
  have e2 : gU G - hU s.heap = 0 := by rw [hc.2.2.1]; exact Nat.sub_self _
  have z2 : kW (p, l, e, rmM X G fr lo, s, m, as.toArray, below, meth, c) s.heap [] (gH G - s.heap.size) (gU G - hU s.heap) (QM X (p, l, e, rmM X G fr lo, s, m, as.toArray, below, meth, c) G Pr Px) (F0 m 0 _ []) := z
  rw [e1, e2] at z2
  exact z2
