/-! ===== methods with handlers; the law's own rows ===== -/
theorem Mc.ofH {X : Xt} {l : Launch} {y : MethodName} {cc : ByteArray} {maxL fr lo : Nat} {ret : Option FieldType} {hh : List (Nat × Nat × Nat × Nat)} {as : List Value} {G : Gt} {Pr : Option Value → Gt → Prop} {Px : String → Gt → Prop} (hy : plainName y.cls = true) (hfl : l.stackTraces = false) (lv0 : List (Option Value)) (hn : lv0.length = maxL) (hs : (lg_sl as).length ≤ maxL) (hv : lvp 0 lv0 = lv_args 0 as)
    (body : ∀ K : Kt, kL K = l → Cx X K cc maxL y.cls fr lo → EB X K G → (kT K).sig.returnType = ret → (kT K).name = y.name → (kC K).exceptionTable.toList = tableOf hh → WM X K (QM X K G Pr Px) G 0 lv0 []) : Mc X l y (.codeWith y cc maxL ret hh) fr lo as G Pr Px := by
  refine vx_ofWH (cc := cc) (maxL := maxL) (ret := ret) (hh := hh) hy rfl ?_
  intro p e s m args below meth c s₁ B hml hv9
  obtain ⟨rfl, hc, hKF⟩ := hv9
  have hts := atoms_spec (ws := Cond.codeWith y cc maxL ret hh :: gtbl) B.pre
  have hown : s.vm.findClass y.cls = some m.cls := findClass_of_methodNamed B.named
  have hC9 : Cx X (p, l, e, rmM X G fr lo, s, m, as.toArray, below, meth, c) cc maxL y.cls fr lo := ⟨B.exec, B.bytes, hml, hown, fun w hw => hts w (List.mem_cons_of_mem _ hw), hKF, B.notSynchronized, hfl, rfl, rfl, by show xC X - gH G = xC X - s.heap.size; rw [hc.2.1], by show xS X - gU G = xS X - hU s.heap; rw [hc.2.2.1]⟩
  have hE9 : EB X (p, l, e, rmM X G fr lo, s, m, as.toArray, below, meth, c) G := hc
  have hb := body (p, l, e, rmM X G fr lo, s, m, as.toArray, below, meth, c) rfl hC9 hE9 B.returns (name_of_methodNamed B.named B.method).1 (vx_table (x := y) B (hts _ List.mem_cons_self))
  have hl := lv_entry as (n := maxL) hs
  rw [lg_entry_eq]
  have z := hb s.heap [] _ ⟨hc, (fun _ h => by cases h), Nat.le_of_eq hc.2.1, Nat.le_of_eq hc.2.2.1⟩ (lh_of hl hn hv)
  have e1 : gH G - s.heap.size = 0 := by rw [hc.2.1]; exact Nat.sub_self _
  have e2 : gU G - hU s.heap = 0 := by rw [hc.2.2.1]; exact Nat.sub_self _
  have z2 : kW (p, l, e, rmM X G fr lo, s, m, as.toArray, below, meth, c) s.heap [] (gH G - s.heap.size) (gU G - hU s.heap) (QM X (p, l, e, rmM X G fr lo, s, m, as.toArray, below, meth, c) G Pr Px) (F0 m 0 _ []) := z
  rw [e1, e2] at z2
  exact z2
theorem pz_nil {P : (Nat × Nat × Nat × Nat) → Prop} : ∀ z ∈ ([] : List (Nat × Nat × Nat × Nat)), P z := fun _ h => nomatch h
theorem pz_cons {P : (Nat × Nat × Nat × Nat) → Prop} {a : Nat × Nat × Nat × Nat} {L : List (Nat × Nat × Nat × Nat)} (h : P a) (t : ∀ z ∈ L, P z) : ∀ z ∈ a :: L, P z := fun z hz => (List.mem_cons.mp hz).elim (fun e => by rw [e]; exact h) (t z)
/-- the words of a call of a method with handlers -/
def XW (own : String) (index : Nat) (y : MethodName) (bytes : ByteArray) (maxL : Nat) (ret : Option FieldType) (hh : List (Nat × Nat × Nat × Nat)) (n : Nat) : Prop := Cond.codeWith y bytes maxL ret hh ∈ gtbl ∧ Cond.initialized y.cls ∈ gtbl ∧ (y.cls ≠ "java/lang/invoke/MethodHandle" ∧ y.cls ≠ "java/lang/invoke/VarHandle" ∧ (parseMethodDescriptor y.desc).map (fun d => d.parameters.length) = some n) ∧ Cond.methodLink own index y ∈ gtbl ∧ Cond.static y ∈ gtbl
section LAW0
variable {X : Xt} {K : Kt} {Q : State → Prop} {G : Gt} {pc : Nat} {lv : List (Option Value)} {st : List Value} {cc : ByteArray} {nL : Nat} {own : String} {fr lo : Nat}
theorem x_catch (C : Cx X K cc nL own fr lo) {hh : List (Nat × Nat × Nat × Nat)} (hexT : (kC K).exceptionTable.toList = tableOf hh) {E : String} (pre : List (Nat × Nat × Nat × Nat)) (a b h9 c9 : Nat) (suf : List (Nat × Nat × Nat × Nat)) (hs : hh = pre ++ (a, b, h9, c9) :: suf) {name : String} (hlink : Cond.classLink own c9 name ∈ gtbl) (hcast : Cond.castable E name ∈ lw_tbl) (hcov : covers ⟨a, b, h9, c9⟩ pc = true) (h0 : c9 ≠ 0)
    (hpass : ∀ z ∈ pre, z.2.2.2 ≠ 0 ∧ ∃ nm : String, Cond.classLink own z.2.2.2 nm ∈ gtbl ∧ va_Nc E nm (kS K)) (kk : ∀ q : Nat, WM X K Q G h9 lv [.ref q]) : XM X K Q G pc lv st E := by
  intro H locs ls q ce h hl h1 h2 h3
  obtain ⟨c1, c2, c3, c4, c5, c6, -⟩ := C
  refine vx_catch (own := own) (name := name) c4 (tableOf pre) ⟨a, b, h9, c9⟩ (tableOf suf) (by rw [hexT, hs]; simp [tableOf]) (fun z hz => ?_) hcov h0 (c5 _ hlink) (va_Nw.use rfl (c6.2.1 _ hcast rfl)) h1 h2 h3 (kk q H locs ls h hl)
  obtain ⟨w, hw, hw2⟩ := List.mem_map.mp hz
  obtain ⟨g1, nm, g2, g3⟩ := hpass w hw
  exact Or.inr ⟨by rw [← hw2]; exact g1, nm, by rw [← hw2]; exact c5 _ g2, g3⟩
theorem r_callX (C : Cx X K cc nL own fr lo) {l : Launch} {y : MethodName} {bytes : ByteArray} {maxL n index fr' lo' : Nat} {ret : Option FieldType} {hh : List (Nat × Nat × Nat × Nat)} {As : List Value} {Pr : Option Value → Gt → Prop} {Px : String → Gt → Prop} (hL9 : kL K = l) (hw : XW own index y bytes maxL ret hh n) (hlen : lv.length = nL) (hn : As.length = n) (hst : (st.map fun v => v.category).sum ≤ 8) (hR : fr' + 1 ≤ fr ∧ 8 + (maxL + 11) + lo' ≤ lo)
    (hM9 : Mc X l y (.codeWith y bytes maxL ret hh) fr' lo' As G Pr Px) {st0 : List Value} (hst0 : st0 = As.reverse ++ st) (hd : decode cc pc = .ok (.invokestatic index, 3)) (kr : ∀ v G', Pr v G' → WM X K Q G' (pc + 3) lv (v.toList ++ st)) (kx : ∀ E G', Px E G' → XM X K Q G' pc lv st E) : WM X K Q G pc lv st0 := by
  subst hL9
  refine r_run (a := As.toArray) (fun H locs ls h hl => ?_) kr kx
  obtain ⟨h1, h2, h3, v1, v2⟩ := hw
  obtain ⟨c1, c2, c3, c4, c5, c6, c7, c8, c9, c10, -⟩ := id C
  exact vx_runSX (n := n) (bytes := bytes) (maxL := maxL) (ret := ret) (hh := hh) (Ts := gtbl) ⟨c1, c2, c3, c4, c5⟩ hM9 (vx_cwSW n c5 (good_c v1 (good_c v2 (good_c h2 (good_ws h1)))) rfl rfl rfl h3 (by rw [c9, c10]; exact hR)) ⟨blindP, fun U hU hW => ⟨rfl, by rw [hU]; exact h.1, KF.warm hW c6⟩⟩ rfl hn (by rw [← hlen]; exact hl.1) hst0 (lv_room hst) hd (room_ok C h)
theorem r_nmI {e : Int32} (h : ∀ z : Int32, z = e → WM X K Q G pc lv (.int z :: st)) : WM X K Q G pc lv (.int e :: st) := h e rfl
/-- the script: L ints xs at the old cell b -/
def SC (X : Xt) (U : State) (b L : Nat) (xs : Nat → Int32) : Prop := va_X b L xs U (xH X) ∧ b < xN X
theorem r_sld (C : Cx X K cc nL own fr lo) {b L : Nat} {xs : Nat → Int32} (hX : SC X (kS K) b L xs) {i : Int32} (hin : vp_in i L) (hd : decode cc pc = .ok (.iaload, 1)) (kk : WM X K Q G (pc + 1) lv (.int (xs i.toNatClampNeg) :: st)) : WM X K Q G pc lv (.int i :: .ref b :: st) := by
  intro H locs ls h hl
  obtain ⟨⟨scr, h1, h2, h3, h4, h5⟩, hb⟩ := hX
  exact W.iald (v := .int (xs i.toNatClampNeg)) C.1 C.2.1 (by rw [h.1.2.2.2.1 _ hb]; exact h1) h2 h3 (by rw [h4]; exact hin) (h5 _ (in_lt hin)) rfl rfl hd (kk H locs ls h hl)
theorem r_slen (C : Cx X K cc nL own fr lo) {b L : Nat} {xs : Nat → Int32} (hX : SC X (kS K) b L xs) (hd : decode cc pc = .ok (.arraylength, 1)) (kk : WM X K Q G (pc + 1) lv (.int (nI L) :: st)) : WM X K Q G pc lv (.ref b :: st) := by
  intro H locs ls h hl
  obtain ⟨⟨scr, h1, h2, h3, h4, h5⟩, hb⟩ := hX
  exact W.alen (n := nI L) C.1 C.2.1 (by rw [h.1.2.2.2.1 _ hb]; exact h1) h2 (by rw [h4]; rfl) rfl rfl hd (kk H locs ls h hl)
end LAW0
theorem sw_cases28 (x : Int32) (c : ¬ (x.toInt < 0 ∨ 28 < x.toInt)) : x = 0 ∨ x = 1 ∨ x = 2 ∨ x = 3 ∨ x = 4 ∨ x = 5 ∨ x = 6 ∨ x = 7 ∨ x = 8 ∨ x = 9 ∨ x = 10 ∨ x = 11 ∨ x = 12 ∨ x = 13 ∨ x = 14 ∨ x = 15 ∨ x = 16 ∨ x = 17 ∨ x = 18 ∨ x = 19 ∨ x = 20 ∨ x = 21 ∨ x = 22 ∨ x = 23 ∨ x = 24 ∨ x = 25 ∨ x = 26 ∨ x = 27 ∨ x = 28 := by
  have h : x.toInt = 0 ∨ x.toInt = 1 ∨ x.toInt = 2 ∨ x.toInt = 3 ∨ x.toInt = 4 ∨ x.toInt = 5 ∨ x.toInt = 6 ∨ x.toInt = 7 ∨ x.toInt = 8 ∨ x.toInt = 9 ∨ x.toInt = 10 ∨ x.toInt = 11 ∨ x.toInt = 12 ∨ x.toInt = 13 ∨ x.toInt = 14 ∨ x.toInt = 15 ∨ x.toInt = 16 ∨ x.toInt = 17 ∨ x.toInt = 18 ∨ x.toInt = 19 ∨ x.toInt = 20 ∨ x.toInt = 21 ∨ x.toInt = 22 ∨ x.toInt = 23 ∨ x.toInt = 24 ∨ x.toInt = 25 ∨ x.toInt = 26 ∨ x.toInt = 27 ∨ x.toInt = 28 := by omega
  rcases h with h | h | h | h | h | h | h | h | h | h | h | h | h | h | h | h | h | h | h | h | h | h | h | h | h | h | h | h | h
  · exact (Or.inl (i32_of (h.trans (by decide))))
  · exact (Or.inr (Or.inl (i32_of (h.trans (by decide)))))
  · exact (Or.inr (Or.inr (Or.inl (i32_of (h.trans (by decide))))))
  · exact (Or.inr (Or.inr (Or.inr (Or.inl (i32_of (h.trans (by decide)))))))
  · exact (Or.inr (Or.inr (Or.inr (Or.inr (Or.inl (i32_of (h.trans (by decide))))))))
  · exact (Or.inr (Or.inr (Or.inr (Or.inr (Or.inr (Or.inl (i32_of (h.trans (by decide)))))))))
  · exact (Or.inr (Or.inr (Or.inr (Or.inr (Or.inr (Or.inr (Or.inl (i32_of (h.trans (by decide))))))))))
  · exact (Or.inr (Or.inr (Or.inr (Or.inr (Or.inr (Or.inr (Or.inr (Or.inl (i32_of (h.trans (by decide)))))))))))
  · exact (Or.inr (Or.inr (Or.inr (Or.inr (Or.inr (Or.inr (Or.inr (Or.inr (Or.inl (i32_of (h.trans (by decide))))))))))))
  · exact (Or.inr (Or.inr (Or.inr (Or.inr (Or.inr (Or.inr (Or.inr (Or.inr (Or.inr (Or.inl (i32_of (h.trans (by decide)))))))))))))
  · exact (Or.inr (Or.inr (Or.inr (Or.inr (Or.inr (Or.inr (Or.inr (Or.inr (Or.inr (Or.inr (Or.inl (i32_of (h.trans (by decide))))))))))))))
  · exact (Or.inr (Or.inr (Or.inr (Or.inr (Or.inr (Or.inr (Or.inr (Or.inr (Or.inr (Or.inr (Or.inr (Or.inl (i32_of (h.trans (by decide)))))))))))))))
  · exact (Or.inr (Or.inr (Or.inr (Or.inr (Or.inr (Or.inr (Or.inr (Or.inr (Or.inr (Or.inr (Or.inr (Or.inr (Or.inl (i32_of (h.trans (by decide))))))))))))))))
  · exact (Or.inr (Or.inr (Or.inr (Or.inr (Or.inr (Or.inr (Or.inr (Or.inr (Or.inr (Or.inr (Or.inr (Or.inr (Or.inr (Or.inl (i32_of (h.trans (by decide)))))))))))))))))
  · exact (Or.inr (Or.inr (Or.inr (Or.inr (Or.inr (Or.inr (Or.inr (Or.inr (Or.inr (Or.inr (Or.inr (Or.inr (Or.inr (Or.inr (Or.inl (i32_of (h.trans (by decide))))))))))))))))))
  · exact (Or.inr (Or.inr (Or.inr (Or.inr (Or.inr (Or.inr (Or.inr (Or.inr (Or.inr (Or.inr (Or.inr (Or.inr (Or.inr (Or.inr (Or.inr (Or.inl (i32_of (h.trans (by decide)))))))))))))))))))
  · exact (Or.inr (Or.inr (Or.inr (Or.inr (Or.inr (Or.inr (Or.inr (Or.inr (Or.inr (Or.inr (Or.inr (Or.inr (Or.inr (Or.inr (Or.inr (Or.inr (Or.inl (i32_of (h.trans (by decide))))))))))))))))))))
  · exact (Or.inr (Or.inr (Or.inr (Or.inr (Or.inr (Or.inr (Or.inr (Or.inr (Or.inr (Or.inr (Or.inr (Or.inr (Or.inr (Or.inr (Or.inr (Or.inr (Or.inr (Or.inl (i32_of (h.trans (by decide)))))))))))))))))))))
  · exact (Or.inr (Or.inr (Or.inr (Or.inr (Or.inr (Or.inr (Or.inr (Or.inr (Or.inr (Or.inr (Or.inr (Or.inr (Or.inr (Or.inr (Or.inr (Or.inr (Or.inr (Or.inr (Or.inl (i32_of (h.trans (by decide))))))))))))))))))))))
  · exact (Or.inr (Or.inr (Or.inr (Or.inr (Or.inr (Or.inr (Or.inr (Or.inr (Or.inr (Or.inr (Or.inr (Or.inr (Or.inr (Or.inr (Or.inr (Or.inr (Or.inr (Or.inr (Or.inr (Or.inl (i32_of (h.trans (by decide)))))))))))))))))))))))
  · exact (Or.inr (Or.inr (Or.inr (Or.inr (Or.inr (Or.inr (Or.inr (Or.inr (Or.inr (Or.inr (Or.inr (Or.inr (Or.inr (Or.inr (Or.inr (Or.inr (Or.inr (Or.inr (Or.inr (Or.inr (Or.inl (i32_of (h.trans (by decide))))))))))))))))))))))))
  · exact (Or.inr (Or.inr (Or.inr (Or.inr (Or.inr (Or.inr (Or.inr (Or.inr (Or.inr (Or.inr (Or.inr (Or.inr (Or.inr (Or.inr (Or.inr (Or.inr (Or.inr (Or.inr (Or.inr (Or.inr (Or.inr (Or.inl (i32_of (h.trans (by decide)))))))))))))))))))))))))
  · exact (Or.inr (Or.inr (Or.inr (Or.inr (Or.inr (Or.inr (Or.inr (Or.inr (Or.inr (Or.inr (Or.inr (Or.inr (Or.inr (Or.inr (Or.inr (Or.inr (Or.inr (Or.inr (Or.inr (Or.inr (Or.inr (Or.inr (Or.inl (i32_of (h.trans (by decide))))))))))))))))))))))))))
  · exact (Or.inr (Or.inr (Or.inr (Or.inr (Or.inr (Or.inr (Or.inr (Or.inr (Or.inr (Or.inr (Or.inr (Or.inr (Or.inr (Or.inr (Or.inr (Or.inr (Or.inr (Or.inr (Or.inr (Or.inr (Or.inr (Or.inr (Or.inr (Or.inl (i32_of (h.trans (by decide)))))))))))))))))))))))))))
  · exact (Or.inr (Or.inr (Or.inr (Or.inr (Or.inr (Or.inr (Or.inr (Or.inr (Or.inr (Or.inr (Or.inr (Or.inr (Or.inr (Or.inr (Or.inr (Or.inr (Or.inr (Or.inr (Or.inr (Or.inr (Or.inr (Or.inr (Or.inr (Or.inr (Or.inl (i32_of (h.trans (by decide))))))))))))))))))))))))))))
  · exact (Or.inr (Or.inr (Or.inr (Or.inr (Or.inr (Or.inr (Or.inr (Or.inr (Or.inr (Or.inr (Or.inr (Or.inr (Or.inr (Or.inr (Or.inr (Or.inr (Or.inr (Or.inr (Or.inr (Or.inr (Or.inr (Or.inr (Or.inr (Or.inr (Or.inr (Or.inl (i32_of (h.trans (by decide)))))))))))))))))))))))))))))
  · exact (Or.inr (Or.inr (Or.inr (Or.inr (Or.inr (Or.inr (Or.inr (Or.inr (Or.inr (Or.inr (Or.inr (Or.inr (Or.inr (Or.inr (Or.inr (Or.inr (Or.inr (Or.inr (Or.inr (Or.inr (Or.inr (Or.inr (Or.inr (Or.inr (Or.inr (Or.inr (Or.inl (i32_of (h.trans (by decide))))))))))))))))))))))))))))))
  · exact (Or.inr (Or.inr (Or.inr (Or.inr (Or.inr (Or.inr (Or.inr (Or.inr (Or.inr (Or.inr (Or.inr (Or.inr (Or.inr (Or.inr (Or.inr (Or.inr (Or.inr (Or.inr (Or.inr (Or.inr (Or.inr (Or.inr (Or.inr (Or.inr (Or.inr (Or.inr (Or.inr (Or.inl (i32_of (h.trans (by decide)))))))))))))))))))))))))))))))
  · exact (Or.inr (Or.inr (Or.inr (Or.inr (Or.inr (Or.inr (Or.inr (Or.inr (Or.inr (Or.inr (Or.inr (Or.inr (Or.inr (Or.inr (Or.inr (Or.inr (Or.inr (Or.inr (Or.inr (Or.inr (Or.inr (Or.inr (Or.inr (Or.inr (Or.inr (Or.inr (Or.inr (Or.inr (i32_of (h.trans (by decide)))))))))))))))))))))))))))))))
